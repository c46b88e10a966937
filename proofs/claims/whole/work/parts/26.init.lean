/-! contracts of constructors: they make cells -/
def gPcN (E : GE) (av : List Value) (ws : va_W) (sz : Nat) : Array Value → State → Prop := va_Pc av (fun U => U.heap.size = sz ∧ gP E ws U.heap ∧ gE E U ∧ va_D (fun _ => True) ws)
def gQN (E : GE) (ws : va_W) (sz : Nat) (wf : va_W → Prop) := va_Qv (fun (_ : Unit) => True) (fun _ t => ∃ w, wf w ∧ gP E w t.heap ∧ va_D (va_A ws sz) w) (va_A ws sz)
theorem gPcN_blind (E : GE) (av : List Value) (ws : va_W) (sz : Nat) : FrameBlind (gPcN E av ws sz) := fun a U g mk q => by
  obtain ⟨q0, qz, q1, q2, q3⟩ := q
  exact ⟨q0, qz, q1, q2.same (U := U.calling g mk a) rfl, q3⟩
theorem g_joinN {E : GE} {A : Nat → Prop} {ws wc wr w1 : va_W} {H H1 : Heap} (hP : gP E ws H) (hD : va_D A ws) (p1 : ws.Perm (wc ++ wr)) (hk : ∀ q : Nat, q < H.size → ¬ va_A wc H.size q → H1[q]? = H[q]?) (hF : ∀ q, va_A wc H.size q → A q) (hP1 : gP E w1 H1) (hD1 : va_D (va_A wc H.size) w1) : gP E (w1 ++ wr) H1 ∧ va_D A (w1 ++ wr) := by
  have hP' := gP_perm p1 hP
  have hD' := gD_perm p1 hD
  rw [va_D_iff] at hD' hD1 ⊢
  obtain ⟨a1, a2⟩ := hD'
  obtain ⟨b1, b2⟩ := hD1
  obtain ⟨c1, c2, c3⟩ := List.pairwise_append.mp a1
  have apart : ∀ q ∈ wr, q.1 < H.size ∧ ¬ va_A wc H.size q.1 := by
    intro q hq
    have hat := gP_iff.mp hP' q (List.mem_append_right _ hq)
    refine ⟨hat.lt, fun h => ?_⟩
    rcases h with ⟨k, e, h⟩ | h
    · exact c3 _ (List.mem_of_getElem? h) _ hq rfl
    · have := hat.lt; omega
  refine ⟨gP_iff.mpr fun q hq => ?_, List.pairwise_append.mpr ⟨b1, c2, fun x hx y hy => ?_⟩, fun q hq => ?_⟩
  · rcases List.mem_append.mp hq with h | h
    · exact gP_iff.mp hP1 q h
    · have hat := gP_iff.mp hP' q (List.mem_append_right _ h)
      exact hat.kept (hk q.1 (apart q h).1 (apart q h).2)
  · intro e
    exact (apart y hy).2 (by rw [← e]; exact b2 x hx)
  · rcases List.mem_append.mp hq with h | h
    · exact hF _ (b2 q h)
    · exact a2 q (List.mem_append_right _ h)
theorem g_freeN {A : Nat → Prop} {ws wc wr : va_W} {H0 H : Heap} {locs : List Loc} (hD : va_D A ws) (hS : va_S A H0 H locs) (hA : ∀ q, H0.size ≤ q → A q) (p1 : ws.Perm (wc ++ wr)) : ∀ q, va_A wc H.size q → A q := by
  intro q h
  rcases h with ⟨k, e, h⟩ | h
  · exact (va_D_iff.mp (gD_perm p1 hD)).2 _ (List.mem_append_left _ (List.mem_of_getElem? h))
  · exact hA q (Nat.le_trans hS.1 h)
theorem gK_int {E : GE} {s : State} {cA : ClassId} (h : va_K (E.1, E.2.1) gcl (gty E ++ [(cA, .int)]) s) : cA = E.2.2 0 := by
  have a := (h.2 4 (cA, .int) rfl).2
  have b := (h.2 0 (E.2.2 0, .int) rfl).2
  exact Option.some.inj (a.symm.trans b)
theorem gK_bool {E : GE} {s : State} {cA : ClassId} (h : va_K (E.1, E.2.1) gcl (gty E ++ [(cA, .boolean)]) s) : cA = E.2.2 1 := by
  have a := (h.2 4 (cA, .boolean) rfl).2
  have b := (h.2 1 (E.2.2 1, .boolean) rfl).2
  exact Option.some.inj (a.symm.trans b)
theorem gK_X3 {E : GE} {s : State} {cA : ClassId} (h : va_K (E.1, E.2.1) gcl (gty E ++ [(cA, .object RX3)]) s) : cA = E.2.2 2 := by
  obtain ⟨_, _, _, _, _, a⟩ := (h.2 4 (cA, .object RX3) rfl).2
  obtain ⟨_, _, _, _, _, b⟩ := (h.2 2 (E.2.2 2, .object RX3) rfl).2
  exact Option.some.inj (a.symm.trans b)
theorem gK_X0 {E : GE} {s : State} {cA : ClassId} (h : va_K (E.1, E.2.1) gcl (gty E ++ [(cA, .object RX0)]) s) : cA = E.2.2 3 := by
  obtain ⟨_, _, _, _, _, a⟩ := (h.2 4 (cA, .object RX0) rfl).2
  obtain ⟨_, _, _, _, _, b⟩ := (h.2 3 (E.2.2 3, .object RX0) rfl).2
  exact Option.some.inj (a.symm.trans b)
section GON
variable {l : Launch} {y : MethodName} {cc : ByteArray} {maxL mc ms : Nat} {rm : Room} {av : List Value} {E : GE} {W0 : va_W}
theorem g_of_N {wf : va_W → Prop} (hy : plainName y.cls = true) (hav : (lg_sl av).length ≤ maxL) (hn : y.name = "<init>")
    (body : ∀ (p : Program) (e : Env) (s : State) (m : MethodId) (below : List Frame) (meth : Method) (c : Code) (A : Nat → Prop) (Q : State → Prop), p.tables.exec = Jvm.exec → c.code = cc → c.maxLocals = maxL → s.vm.findClass y.cls = some m.cls → (∀ w ∈ tb, w.before av.toArray s = true) → gE E s → meth.name = "<init>" → gP E W0 s.heap → va_D A W0 → (∀ q, s.heap.size ≤ q → A q) →
      (∀ (w : va_W) (H : Heap) (locs : List Loc) (pc : Nat) (ls : Array Slot), wf w → gP E w H → va_D A w → va_S A s.heap H locs → decode cc pc = .ok (.return_, 1) → W p l e rm s m av.toArray below meth c H locs mc ms Q (F0 m pc ls [])) →
      ∀ ls : Array Slot, lv_has ls maxL (lv_args 0 av) → W p l e rm s m av.toArray below meth c s.heap [] 0 0 Q (F0 m 0 ls [])) (sz : Nat) : Met l y (wz y cc maxL none) rm (gPcN E av W0 sz) (gQN E W0 sz wf) mc ms (va_A W0 sz) := by
  refine Met.ofW (cc := cc) (maxL := maxL) (ret := none) hy rfl ?_
  intro p e s m args below meth c s₁ B hml hv
  obtain ⟨rfl, hsz, hP, hE, hD0⟩ := hv
  subst hsz
  have hr := B.returns
  have hlocks := B.notSynchronized
  have hin : meth.name = y.name := (name_of_methodNamed B.named B.method).1
  have hts := atoms_spec (ws := wz y cc maxL none) B.pre
  have hl := lv_entry av (n := maxL) hav
  rw [lg_entry_eq]
  refine body p e s m below meth c (va_A W0 s.heap.size) _ B.exec B.bytes hml (findClass_of_methodNamed B.named) (fun w hw => hts w (List.mem_cons_of_mem _ hw)) hE (hin.trans hn) hP hD0.self (fun q h => Or.inr h) (fun w H locs pc ls hw hP hD hS d => ?_) _ hl
  exact W.vret B.exec B.bytes hr (fun t ht hW => ⟨⟨(), rfl, trivial, w, hw, by rw [ht]; exact hP, hD⟩, hS.F ht⟩) hS.2.2 d
end GON
section GRN
variable {p : Program} {l : Launch} {e : Env} {R : Room} {s : State} {m : MethodId} {args : Array Value} {below : List Frame} {meth : Method} {c : Code} {H : Heap} {locs : List Loc} {cells slots mc ms : Nat} {Q : State → Prop}
variable {y : MethodName} {bytes cc : ByteArray} {maxL nL n index pc : Nat} {rm : Room} {own host : String} {b : Addr} {As rest st0 : List Value} {ls : Array Slot} {E : GE} {ws wc wr : va_W} {A : Nat → Prop} {H0 : Heap} {wf : va_W → Prop}
theorem g_newI (S : CallFix p m c cc nL s args tb own) (hE : gE E s) (hM : Met l y (wz y bytes maxL none) rm (gPcN E (.ref b :: As) wc H.size) (gQN E wc H.size wf) mc ms (va_A wc H.size)) (hrc : rm.cells = mc ∧ rm.slots = ms)
    (k1 : Cond.methodLink own index y ∈ tb) (k2 : Cond.instanceMethod y ∈ tb) (k4 : Cond.initialized y.cls ∈ tb) (k5 : Cond.code y bytes maxL none ∈ tb) (hy1 : y.name = "<init>")
    (hd : y.cls ≠ "java/lang/invoke/MethodHandle" ∧ y.cls ≠ "java/lang/invoke/VarHandle" ∧ (parseMethodDescriptor y.desc).map (fun d => d.parameters.length) = some n) (hR : rm.frames + 1 ≤ R.frames ∧ 8 + (maxL + 11) + rm.locals ≤ R.locals)
    (hP : gP E ws H) (hD : va_D A ws) (hS : va_S A H0 H locs) (hA : ∀ q, H0.size ≤ q → A q) (p1 : ws.Perm (wc ++ wr))
    (hn : As.length = n) (hsize : ls.size = nL) (hstack : st0 = As.reverse ++ .ref b :: rest) (hW : (rest.map fun v => v.category).sum ≤ 8) (hdg : decode cc pc = .ok (.invokespecial index, 3)) (hf : cells + mc ≤ R.cells ∧ slots + ms ≤ R.slots)
    (kk : ∀ (w : va_W) (H1 : Heap) (locs1 : List Loc), wf w → gP E (w ++ wr) H1 → va_D A (w ++ wr) → va_S A H0 H1 locs1 → W p l e R s m args below meth c H1 locs1 (cells + mc) (slots + ms) Q (F0 m (pc + 3) ls rest)) : W p l e R s m args below meth c H locs cells slots Q (F0 m pc ls st0) := by
  subst hstack
  have hPc := gP_left (gP_perm p1 hP)
  have hDc := gD_all (gD_left (gD_perm p1 hD))
  have ht := S.2.2.2.2
  have hF := g_freeN hD hS hA p1
  refine va_callv (va_runI (As := As) (rest := rest) S hM ⟨callB_of n ht (wz_in k5) rfl hrc.1 hrc.2 (ht _ k4) (ht _ k1) hd hR, hy1, ht _ k2⟩ ⟨gPcN_blind E _ _ _, fun U hU hW => ⟨rfl, by rw [hU], by rw [hU]; exact hPc, hE.warm hW, hDc⟩⟩ rfl hn hsize rfl (lv_room hW) hdg hf) hS (fun q _ h => hF q h) hF (fun u t H1 locs1 ht hvm hw hB hz1 hk1 hS1 => ?_)
  obtain ⟨w, hwf, hP1, hD1⟩ := hB
  rw [ht] at hP1
  obtain ⟨j1, j2⟩ := g_joinN hP hD p1 hk1 hF hP1 hD1
  exact kk w H1 locs1 hwf j1 j2 hS1
theorem g_newIN (S : CallFix p m c cc nL s args tb own) (hE : gE E s) (hM : Met l y (wz y bytes maxL none) rm (gPcN E (.ref b :: As) wc H.size) (gQN E wc H.size wf) mc ms (va_A wc H.size)) (hrc : rm.cells = mc ∧ rm.slots = ms)
    (k1 : va_Nw (.methodLinkNest own index y host) s) (k2 : Cond.instanceMethod y ∈ tb) (k4 : Cond.initialized y.cls ∈ tb) (k5 : Cond.code y bytes maxL none ∈ tb) (hy1 : y.name = "<init>")
    (hd : y.cls ≠ "java/lang/invoke/MethodHandle" ∧ y.cls ≠ "java/lang/invoke/VarHandle" ∧ (parseMethodDescriptor y.desc).map (fun d => d.parameters.length) = some n) (hR : rm.frames + 1 ≤ R.frames ∧ 8 + (maxL + 11) + rm.locals ≤ R.locals)
    (hP : gP E ws H) (hD : va_D A ws) (hS : va_S A H0 H locs) (hA : ∀ q, H0.size ≤ q → A q) (p1 : ws.Perm (wc ++ wr))
    (hn : As.length = n) (hsize : ls.size = nL) (hstack : st0 = As.reverse ++ .ref b :: rest) (hW : (rest.map fun v => v.category).sum ≤ 8) (hdg : decode cc pc = .ok (.invokespecial index, 3)) (hf : cells + mc ≤ R.cells ∧ slots + ms ≤ R.slots)
    (kk : ∀ (w : va_W) (H1 : Heap) (locs1 : List Loc), wf w → gP E (w ++ wr) H1 → va_D A (w ++ wr) → va_S A H0 H1 locs1 → W p l e R s m args below meth c H1 locs1 (cells + mc) (slots + ms) Q (F0 m (pc + 3) ls rest)) : W p l e R s m args below meth c H locs cells slots Q (F0 m pc ls st0) := by
  subst hstack
  have hPc := gP_left (gP_perm p1 hP)
  have hDc := gD_all (gD_left (gD_perm p1 hD))
  have ht := S.2.2.2.2
  have hF := g_freeN hD hS hA p1
  refine va_callv (va_runIN (As := As) (rest := rest) S hM ⟨va_cnB n ht (wz_in k5) rfl hrc.1 hrc.2 k1 (ht _ k4) hd hR, hy1, ht _ k2⟩ ⟨gPcN_blind E _ _ _, fun U hU hW => ⟨rfl, by rw [hU], by rw [hU]; exact hPc, hE.warm hW, hDc⟩⟩ rfl hn hsize rfl (lv_room hW) hdg hf) hS (fun q _ h => hF q h) hF (fun u t H1 locs1 ht hvm hw hB hz1 hk1 hS1 => ?_)
  obtain ⟨w, hwf, hP1, hD1⟩ := hB
  rw [ht] at hP1
  obtain ⟨j1, j2⟩ := g_joinN hP hD p1 hk1 hF hP1 hD1
  exact kk w H1 locs1 hwf j1 j2 hS1
end GRN
theorem gP_push {E : GE} {bs : List va_W} {x : Nat × va_E} {H : Heap} (h : gP E (gW bs ++ [x]) H) : gP E (gW (bs ++ [[x]])) H := by
  rw [gW_app]
  exact h
theorem gD_push {A : Nat → Prop} {bs : List va_W} {x : Nat × va_E} (h : va_D A (gW bs ++ [x])) : va_D A (gW (bs ++ [[x]])) := by
  rw [gW_app]
  exact h
theorem gP_refs {E : GE} {ws : va_W} {H : Heap} (k : Nat) {q n : Nat} {cA : ClassId} {F F' : Nat → Option Nat} (h : ws[k]? = some (q, .inl (cA, n, .inr (.inr (.inr (.inr F)))))) (hF : ∀ j, j < n → F j = F' j) (hP : gP E ws H) : gP E (ws.set k (q, .inl (cA, n, .inr (.inr (.inr (.inr F')))))) H := by
  have hl := (List.getElem?_eq_some_iff.mp h).1
  intro j x hx
  by_cases hj : j = k
  · subst hj
    rw [List.getElem?_set_self hl] at hx
    cases hx
    have h1 : H[q]? = some (vp_cell cA (n, .inr (.inr (.inr (.inr F))))) := hP j _ h
    show H[q]? = some (vp_cell cA (n, .inr (.inr (.inr (.inr F')))))
    rw [h1, vp_cell_q, vp_cell_q]
    have e : (fun i : Fin n => va_rf (F i.val)) = fun i : Fin n => va_rf (F' i.val) := by funext i; rw [hF i.val i.isLt]
    unfold arrV
    rw [e]
  · rw [List.getElem?_set_ne (Ne.symm hj)] at hx
    exact hP j x hx
abbrev ad (a : Nat → Nat) (h : Nat) : Nat → Nat := fun k => if k = 99 then h else a k
def scInit : Ob := (fun k => if k = 4 then -9 else 0, fun k => if k = 3 then afill 8 (fun _ => 0) (-9) else fun _ => 0)
def plInit : Ob := (fun k => if k = 3 then 3 else 0, fun _ _ => 0)
def obZero : Ob := (fun _ => 0, fun _ _ => 0)
def moInit : Mo := ((fun k => if k = 0 then 3 else 0, fun k => if k = 7 then upd (fun _ => 0) 9 (-9) else fun _ => 0), 0)
def gcInit (S : Ob) : GC := (0, (fun b => match b with | 3 => scInit | 4 => plInit | 5 => plInit | 6 => S | 10 => scInit | 11 => scInit | _ => obZero), fun _ _ => scInit)
theorem nw_X0 : ∀ j, j < 3 → defaultValue (tyX0 j) = vp_V [.null, .null, .int 0] j := by
  intro j hj
  rcases (show j = 0 ∨ j = 1 ∨ j = 2 by omega) with rfl | rfl | rfl <;> rfl
theorem nw_X1 : ∀ j, j < 5 → defaultValue (tyX1 j) = vp_V [.null, .null, .null, .int 0, .int 0] j := by
  intro j hj
  rcases (show j = 0 ∨ j = 1 ∨ j = 2 ∨ j = 3 ∨ j = 4 by omega) with rfl | rfl | rfl | rfl | rfl <;> rfl
theorem nw_X2 : ∀ j, j < 9 → defaultValue (tyX2 j) = vp_V [.null, .int 0, .int 0, .null, .null, .null, .null, .null, .null] j := by
  intro j hj
  rcases (show j = 0 ∨ j = 1 ∨ j = 2 ∨ j = 3 ∨ j = 4 ∨ j = 5 ∨ j = 6 ∨ j = 7 ∨ j = 8 by omega) with rfl | rfl | rfl | rfl | rfl | rfl | rfl | rfl | rfl <;> rfl
theorem nw_X3 : ∀ j, j < 5 → defaultValue (tyX3 j) = vp_V [.null, .null, .null, .null, .int 0] j := by
  intro j hj
  rcases (show j = 0 ∨ j = 1 ∨ j = 2 ∨ j = 3 ∨ j = 4 by omega) with rfl | rfl | rfl | rfl | rfl <;> rfl
theorem nw_X4 : ∀ j, j < 6 → defaultValue (tyX4 j) = vp_V [.null, .int 0, .int 0, .int 0, .int 0, .int 0] j := by
  intro j hj
  rcases (show j = 0 ∨ j = 1 ∨ j = 2 ∨ j = 3 ∨ j = 4 ∨ j = 5 by omega) with rfl | rfl | rfl | rfl | rfl | rfl <;> rfl
theorem nw_X5 : ∀ j, j < 8 → defaultValue (tyX5 j) = vp_V [.null, .null, .null, .null, .null, .null, .null, .long 0] j := by
  intro j hj
  rcases (show j = 0 ∨ j = 1 ∨ j = 2 ∨ j = 3 ∨ j = 4 ∨ j = 5 ∨ j = 6 ∨ j = 7 by omega) with rfl | rfl | rfl | rfl | rfl | rfl | rfl | rfl <;> rfl
theorem nw_X6 : ∀ j, j < 26 → defaultValue (tyX6 j) = vp_V [.int 0, .int 0, .null, .int 0, .int 0, .null, .null, .null, .null, .int 0, .int 0, .null, .null, .null, .int 0, .null, .int 0, .null, .null, .long 0, .int 0, .int 0, .int 0, .int 0, .null, .null] j := by
  intro j hj
  rcases (show j = 0 ∨ j = 1 ∨ j = 2 ∨ j = 3 ∨ j = 4 ∨ j = 5 ∨ j = 6 ∨ j = 7 ∨ j = 8 ∨ j = 9 ∨ j = 10 ∨ j = 11 ∨ j = 12 ∨ j = 13 ∨ j = 14 ∨ j = 15 ∨ j = 16 ∨ j = 17 ∨ j = 18 ∨ j = 19 ∨ j = 20 ∨ j = 21 ∨ j = 22 ∨ j = 23 ∨ j = 24 ∨ j = 25 by omega) with rfl | rfl | rfl | rfl | rfl | rfl | rfl | rfl | rfl | rfl | rfl | rfl | rfl | rfl | rfl | rfl | rfl | rfl | rfl | rfl | rfl | rfl | rfl | rfl | rfl | rfl <;> rfl
theorem dX3_init_0 : decode cX3_init 0 = .ok (.aload_n 0, 1) := by decide +kernel
theorem dX3_init_1 : decode cX3_init 1 = .ok (.invokespecial 3, 3) := by decide +kernel
theorem dX3_init_4 : decode cX3_init 4 = .ok (.aload_n 0, 1) := by decide +kernel
theorem dX3_init_5 : decode cX3_init 5 = .ok (.bipush 8, 2) := by decide +kernel
theorem dX3_init_7 : decode cX3_init 7 = .ok (.newarray .int, 2) := by decide +kernel
theorem dX3_init_9 : decode cX3_init 9 = .ok (.putfield 9, 3) := by decide +kernel
theorem dX3_init_12 : decode cX3_init 12 = .ok (.aload_n 0, 1) := by decide +kernel
theorem dX3_init_13 : decode cX3_init 13 = .ok (.bipush 8, 2) := by decide +kernel
theorem dX3_init_15 : decode cX3_init 15 = .ok (.newarray .int, 2) := by decide +kernel
theorem dX3_init_17 : decode cX3_init 17 = .ok (.putfield 15, 3) := by decide +kernel
theorem dX3_init_20 : decode cX3_init 20 = .ok (.aload_n 0, 1) := by decide +kernel
theorem dX3_init_21 : decode cX3_init 21 = .ok (.bipush 8, 2) := by decide +kernel
theorem dX3_init_23 : decode cX3_init 23 = .ok (.newarray .int, 2) := by decide +kernel
theorem dX3_init_25 : decode cX3_init 25 = .ok (.putfield 18, 3) := by decide +kernel
theorem dX3_init_28 : decode cX3_init 28 = .ok (.aload_n 0, 1) := by decide +kernel
theorem dX3_init_29 : decode cX3_init 29 = .ok (.bipush 8, 2) := by decide +kernel
theorem dX3_init_31 : decode cX3_init 31 = .ok (.newarray .int, 2) := by decide +kernel
theorem dX3_init_33 : decode cX3_init 33 = .ok (.putfield 21, 3) := by decide +kernel
theorem dX3_init_36 : decode cX3_init 36 = .ok (.aload_n 0, 1) := by decide +kernel
theorem dX3_init_37 : decode cX3_init 37 = .ok (.bipush (-9), 2) := by decide +kernel
theorem dX3_init_39 : decode cX3_init 39 = .ok (.putfield 24, 3) := by decide +kernel
theorem dX3_init_42 : decode cX3_init 42 = .ok (.aload_n 0, 1) := by decide +kernel
theorem dX3_init_43 : decode cX3_init 43 = .ok (.getfield 21, 3) := by decide +kernel
theorem dX3_init_46 : decode cX3_init 46 = .ok (.bipush (-9), 2) := by decide +kernel
theorem dX3_init_48 : decode cX3_init 48 = .ok (.invokestatic 28, 3) := by decide +kernel
theorem dX3_init_51 : decode cX3_init 51 = .ok (.return_, 1) := by decide +kernel
set_option maxHeartbeats 8000000 in
set_option maxRecDepth 100000 in
theorem c_X3_init (E : GE) (l : Launch) (h0 : Nat) (sz : Nat) : Met l yX3_init (wz yX3_init cX3_init 1 none) { frames := 1, cells := 4, slots := 32, locals := 24 } (gPcN E [.ref h0] (gW [[(h0, .inr (3, [.null, .null, .null, .null, .int 0]))]]) sz) (gQN E (gW [[(h0, .inr (3, [.null, .null, .null, .null, .int 0]))]]) sz (fun w => ∃ a : Nat → Nat, w = gW [bScene E (ad a h0) scInit])) 4 32 (va_A (gW [[(h0, .inr (3, [.null, .null, .null, .null, .int 0]))]]) sz) := by
  refine g_of_N (by decide) (Nat.le_of_ble_eq_true rfl) rfl ?_ sz
  intro p e s m below meth c A Q hx hb hml hown ht hE hin hP hD hA hret ls hl
  have hK := hE.1
  have hS : va_S A s.heap s.heap [] := va_S.rf
  have hl : lv_has ls 1 [(0, .ref h0)] := hl
  refine lv_aload_n hx hb dX3_init_0 rfl (lv_at hl 0 rfl) ?_
  refine W.objInit hx hb hown (ht _ wk_X3_3) (ht _ wi_obj) (ht _ wc_obj) rfl (by rw [hml]; exact hl.1) rfl dX3_init_1 (Nat.le_of_ble_eq_true rfl) (Nat.le_of_ble_eq_true rfl) ?_
  refine W.eq (g2 := F0 m 4 ls []) rfl ?_
  refine lv_aload_n hx hb dX3_init_4 rfl (lv_at hl 0 rfl) ?_
  refine lv_bipush (v := 8) hx hb dX3_init_5 (by decide) ?_
  refine va_newa (atype := .int) (ty := .int) (n := 8) (N' := 8) (a0 := (8, .inl (fun _ => 0))) hx hb (ht _ wa_int) rfl hK hP hD hS hA (fun _ => rfl) (by decide) (by decide) (Nat.le_of_ble_eq_true rfl) (Nat.le_of_ble_eq_true rfl) (Nat.le_of_ble_eq_true rfl) dX3_init_7 (fun q_1 cA H hK4 hP hD hS => ?_)
  obtain rfl := gK_int hK4
  clear hK4
  have hP := gP_push hP
  have hD := gD_push hD
  have hP : gP E (gW [[(h0, .inr (3, [.null, .null, .null, .null, .int 0]))], [bInt E q_1 8 (fun _ => 0)]]) H := hP
  have hD : va_D A (gW [[(h0, .inr (3, [.null, .null, .null, .null, .int 0]))], [bInt E q_1 8 (fun _ => 0)]]) := hD
  refine va_putF (D := (E.1, E.2.1)) (ci := 3) (v := .ref q_1) (ty := (.array .int)) (C := RX3) (T := TX3) (N := 5) hx hb ht wu_X3 tyX3 tyX3_ok nmX3 hown hK hP hD hS 0 rfl rfl 0 (by decide) (ht _ wk_X3_9) (fun _ h9 => h9) rfl hin rfl (by decide +kernel) rfl rfl (Nat.le_of_ble_eq_true rfl) dX3_init_9 (fun H locs hP hD hS => ?_)
  have hP : gP E (gW [[(h0, .inr (3, [.ref q_1, .null, .null, .null, .int 0]))], [bInt E q_1 8 (fun _ => 0)]]) H := hP
  have hD : va_D A (gW [[(h0, .inr (3, [.ref q_1, .null, .null, .null, .int 0]))], [bInt E q_1 8 (fun _ => 0)]]) := hD
  refine lv_aload_n hx hb dX3_init_12 rfl (lv_at hl 0 rfl) ?_
  refine lv_bipush (v := 8) hx hb dX3_init_13 (by decide) ?_
  refine va_newa (atype := .int) (ty := .int) (n := 8) (N' := 8) (a0 := (8, .inl (fun _ => 0))) hx hb (ht _ wa_int) rfl hK hP hD hS hA (fun _ => rfl) (by decide) (by decide) (Nat.le_of_ble_eq_true rfl) (Nat.le_of_ble_eq_true rfl) (Nat.le_of_ble_eq_true rfl) dX3_init_15 (fun q_2 cA H hK4 hP hD hS => ?_)
  obtain rfl := gK_int hK4
  clear hK4
  have hP := gP_push hP
  have hD := gD_push hD
  have hP : gP E (gW [[(h0, .inr (3, [.ref q_1, .null, .null, .null, .int 0]))], [bInt E q_1 8 (fun _ => 0)], [bInt E q_2 8 (fun _ => 0)]]) H := hP
  have hD : va_D A (gW [[(h0, .inr (3, [.ref q_1, .null, .null, .null, .int 0]))], [bInt E q_1 8 (fun _ => 0)], [bInt E q_2 8 (fun _ => 0)]]) := hD
  refine va_putF (D := (E.1, E.2.1)) (ci := 3) (v := .ref q_2) (ty := (.array .int)) (C := RX3) (T := TX3) (N := 5) hx hb ht wu_X3 tyX3 tyX3_ok nmX3 hown hK hP hD hS 0 rfl rfl 1 (by decide) (ht _ wk_X3_15) (fun _ h9 => h9) rfl hin rfl (by decide +kernel) rfl rfl (Nat.le_of_ble_eq_true rfl) dX3_init_17 (fun H locs hP hD hS => ?_)
  have hP : gP E (gW [[(h0, .inr (3, [.ref q_1, .ref q_2, .null, .null, .int 0]))], [bInt E q_1 8 (fun _ => 0)], [bInt E q_2 8 (fun _ => 0)]]) H := hP
  have hD : va_D A (gW [[(h0, .inr (3, [.ref q_1, .ref q_2, .null, .null, .int 0]))], [bInt E q_1 8 (fun _ => 0)], [bInt E q_2 8 (fun _ => 0)]]) := hD
  refine lv_aload_n hx hb dX3_init_20 rfl (lv_at hl 0 rfl) ?_
  refine lv_bipush (v := 8) hx hb dX3_init_21 (by decide) ?_
  refine va_newa (atype := .int) (ty := .int) (n := 8) (N' := 8) (a0 := (8, .inl (fun _ => 0))) hx hb (ht _ wa_int) rfl hK hP hD hS hA (fun _ => rfl) (by decide) (by decide) (Nat.le_of_ble_eq_true rfl) (Nat.le_of_ble_eq_true rfl) (Nat.le_of_ble_eq_true rfl) dX3_init_23 (fun q_3 cA H hK4 hP hD hS => ?_)
  obtain rfl := gK_int hK4
  clear hK4
  have hP := gP_push hP
  have hD := gD_push hD
  have hP : gP E (gW [[(h0, .inr (3, [.ref q_1, .ref q_2, .null, .null, .int 0]))], [bInt E q_1 8 (fun _ => 0)], [bInt E q_2 8 (fun _ => 0)], [bInt E q_3 8 (fun _ => 0)]]) H := hP
  have hD : va_D A (gW [[(h0, .inr (3, [.ref q_1, .ref q_2, .null, .null, .int 0]))], [bInt E q_1 8 (fun _ => 0)], [bInt E q_2 8 (fun _ => 0)], [bInt E q_3 8 (fun _ => 0)]]) := hD
  refine va_putF (D := (E.1, E.2.1)) (ci := 3) (v := .ref q_3) (ty := (.array .int)) (C := RX3) (T := TX3) (N := 5) hx hb ht wu_X3 tyX3 tyX3_ok nmX3 hown hK hP hD hS 0 rfl rfl 2 (by decide) (ht _ wk_X3_18) (fun _ h9 => h9) rfl hin rfl (by decide +kernel) rfl rfl (Nat.le_of_ble_eq_true rfl) dX3_init_25 (fun H locs hP hD hS => ?_)
  have hP : gP E (gW [[(h0, .inr (3, [.ref q_1, .ref q_2, .ref q_3, .null, .int 0]))], [bInt E q_1 8 (fun _ => 0)], [bInt E q_2 8 (fun _ => 0)], [bInt E q_3 8 (fun _ => 0)]]) H := hP
  have hD : va_D A (gW [[(h0, .inr (3, [.ref q_1, .ref q_2, .ref q_3, .null, .int 0]))], [bInt E q_1 8 (fun _ => 0)], [bInt E q_2 8 (fun _ => 0)], [bInt E q_3 8 (fun _ => 0)]]) := hD
  refine lv_aload_n hx hb dX3_init_28 rfl (lv_at hl 0 rfl) ?_
  refine lv_bipush (v := 8) hx hb dX3_init_29 (by decide) ?_
  refine va_newa (atype := .int) (ty := .int) (n := 8) (N' := 8) (a0 := (8, .inl (fun _ => 0))) hx hb (ht _ wa_int) rfl hK hP hD hS hA (fun _ => rfl) (by decide) (by decide) (Nat.le_of_ble_eq_true rfl) (Nat.le_of_ble_eq_true rfl) (Nat.le_of_ble_eq_true rfl) dX3_init_31 (fun q_4 cA H hK4 hP hD hS => ?_)
  obtain rfl := gK_int hK4
  clear hK4
  have hP := gP_push hP
  have hD := gD_push hD
  have hP : gP E (gW [[(h0, .inr (3, [.ref q_1, .ref q_2, .ref q_3, .null, .int 0]))], [bInt E q_1 8 (fun _ => 0)], [bInt E q_2 8 (fun _ => 0)], [bInt E q_3 8 (fun _ => 0)], [bInt E q_4 8 (fun _ => 0)]]) H := hP
  have hD : va_D A (gW [[(h0, .inr (3, [.ref q_1, .ref q_2, .ref q_3, .null, .int 0]))], [bInt E q_1 8 (fun _ => 0)], [bInt E q_2 8 (fun _ => 0)], [bInt E q_3 8 (fun _ => 0)], [bInt E q_4 8 (fun _ => 0)]]) := hD
  refine va_putF (D := (E.1, E.2.1)) (ci := 3) (v := .ref q_4) (ty := (.array .int)) (C := RX3) (T := TX3) (N := 5) hx hb ht wu_X3 tyX3 tyX3_ok nmX3 hown hK hP hD hS 0 rfl rfl 3 (by decide) (ht _ wk_X3_21) (fun _ h9 => h9) rfl hin rfl (by decide +kernel) rfl rfl (Nat.le_of_ble_eq_true rfl) dX3_init_33 (fun H locs hP hD hS => ?_)
  have hP : gP E (gW [[(h0, .inr (3, [.ref q_1, .ref q_2, .ref q_3, .ref q_4, .int 0]))], [bInt E q_1 8 (fun _ => 0)], [bInt E q_2 8 (fun _ => 0)], [bInt E q_3 8 (fun _ => 0)], [bInt E q_4 8 (fun _ => 0)]]) H := hP
  have hD : va_D A (gW [[(h0, .inr (3, [.ref q_1, .ref q_2, .ref q_3, .ref q_4, .int 0]))], [bInt E q_1 8 (fun _ => 0)], [bInt E q_2 8 (fun _ => 0)], [bInt E q_3 8 (fun _ => 0)], [bInt E q_4 8 (fun _ => 0)]]) := hD
  refine lv_aload_n hx hb dX3_init_36 rfl (lv_at hl 0 rfl) ?_
  refine lv_bipush (v := (-9)) hx hb dX3_init_37 (by decide) ?_
  refine va_put (D := (E.1, E.2.1)) (ci := 3) (v := .int (-9)) (ty := .int) (C := RX3) (T := TX3) (N := 5) hx hb ht wu_X3 tyX3 tyX3_ok nmX3 hown hK hP hD hS 0 rfl rfl 4 (by decide) (ht _ wk_X3_24) (fun _ h9 => h9) rfl (by decide +kernel) rfl rfl (Nat.le_of_ble_eq_true rfl) dX3_init_39 (fun H locs hP hD hS => ?_)
  have hP : gP E (gW [[(h0, .inr (3, [.ref q_1, .ref q_2, .ref q_3, .ref q_4, .int (-9)]))], [bInt E q_1 8 (fun _ => 0)], [bInt E q_2 8 (fun _ => 0)], [bInt E q_3 8 (fun _ => 0)], [bInt E q_4 8 (fun _ => 0)]]) H := hP
  have hD : va_D A (gW [[(h0, .inr (3, [.ref q_1, .ref q_2, .ref q_3, .ref q_4, .int (-9)]))], [bInt E q_1 8 (fun _ => 0)], [bInt E q_2 8 (fun _ => 0)], [bInt E q_3 8 (fun _ => 0)], [bInt E q_4 8 (fun _ => 0)]]) := hD
  refine lv_aload_n hx hb dX3_init_42 rfl (lv_at hl 0 rfl) ?_
  refine va_get (D := (E.1, E.2.1)) (ci := 3) (v := .ref q_4) (C := RX3) (T := TX3) (N := 5) hx hb ht wu_X3 hown hK hP 0 rfl rfl 3 (by decide) (ht _ wk_X3_21) (fun _ h9 => h9) rfl dX3_init_43 ?_
  refine lv_bipush (v := (-9)) hx hb dX3_init_46 (by decide) ?_
  have p1 := g_c1 (ws := gW [[(h0, .inr (3, [.ref q_1, .ref q_2, .ref q_3, .ref q_4, .int (-9)]))], [bInt E q_1 8 (fun _ => 0)], [bInt E q_2 8 (fun _ => 0)], [bInt E q_3 8 (fun _ => 0)], [bInt E q_4 8 (fun _ => 0)]]) (c := 4) (x := bInt E q_4 8 (fun _ => 0)) rfl
  have p2 := g_c2 (ws := gW [[(h0, .inr (3, [.ref q_1, .ref q_2, .ref q_3, .ref q_4, .int (-9)]))], [bInt E q_1 8 (fun _ => 0)], [bInt E q_2 8 (fun _ => 0)], [bInt E q_3 8 (fun _ => 0)], [bInt E q_4 8 (fun _ => 0)]]) (c := 4) (x := bInt E q_4 8 (fun _ => 0)) (x' := bInt E q_4 8 (afill 8 (fun _ => 0) (-9))) rfl
  refine g_v (g_runS (As := [.ref q_4, .int (-9)]) (rest := []) ⟨hx, hb, hml, hown, ht⟩ hE (c_J7_fill_53178 E l q_4 8 (Nat.le_of_ble_eq_true rfl) (fun _ => 0) (-9)) ⟨rfl, rfl⟩ wk_X3_28 wt_J7_fill_53178 wn_J7 wc_J7_fill_53178 yd_J7_fill_53178 ⟨Nat.le_of_ble_eq_true rfl, Nat.le_of_ble_eq_true rfl⟩ hP hD p1 rfl rfl hl.1 rfl (lv_room (Nat.le_of_ble_eq_true rfl)) dX3_init_48 ⟨Nat.le_of_ble_eq_true rfl, Nat.le_of_ble_eq_true rfl⟩) hP hD hS p1 (fun _ w H locs _ hw hP hD hS => ?_)
  subst hw
  have hP := gP_perm p2 hP
  have hD := gD_perm p2 hD
  clear p1 p2
  have hP : gP E (gW [[(h0, .inr (3, [.ref q_1, .ref q_2, .ref q_3, .ref q_4, .int (-9)]))], [bInt E q_1 8 (fun _ => 0)], [bInt E q_2 8 (fun _ => 0)], [bInt E q_3 8 (fun _ => 0)], [bInt E q_4 8 (afill 8 (fun _ => 0) (-9))]]) H := hP
  have hD : va_D A (gW [[(h0, .inr (3, [.ref q_1, .ref q_2, .ref q_3, .ref q_4, .int (-9)]))], [bInt E q_1 8 (fun _ => 0)], [bInt E q_2 8 (fun _ => 0)], [bInt E q_3 8 (fun _ => 0)], [bInt E q_4 8 (afill 8 (fun _ => 0) (-9))]]) := hD
  refine W.widen (k := 4) (n := 32) (Nat.le_of_ble_eq_true rfl) (Nat.le_of_ble_eq_true rfl) ?_
  have hP : gP E (gW [bScene E (ad (fun k => match k with | 0 => q_1 | 1 => q_2 | 2 => q_3 | 3 => q_4 | _ => h0) h0) scInit]) H := hP
  have hD : va_D A (gW [bScene E (ad (fun k => match k with | 0 => q_1 | 1 => q_2 | 2 => q_3 | 3 => q_4 | _ => h0) h0) scInit]) := hD
  exact hret _ _ _ _ _ ⟨(fun k => match k with | 0 => q_1 | 1 => q_2 | 2 => q_3 | 3 => q_4 | _ => h0), rfl⟩ hP hD hS dX3_init_51
theorem dX4_init_0 : decode cX4_init 0 = .ok (.aload_n 0, 1) := by decide +kernel
theorem dX4_init_1 : decode cX4_init 1 = .ok (.invokespecial 3, 3) := by decide +kernel
theorem dX4_init_4 : decode cX4_init 4 = .ok (.aload_n 0, 1) := by decide +kernel
theorem dX4_init_5 : decode cX4_init 5 = .ok (.sipush 150, 3) := by decide +kernel
theorem dX4_init_8 : decode cX4_init 8 = .ok (.newarray .int, 2) := by decide +kernel
theorem dX4_init_10 : decode cX4_init 10 = .ok (.putfield 9, 3) := by decide +kernel
theorem dX4_init_13 : decode cX4_init 13 = .ok (.aload_n 0, 1) := by decide +kernel
theorem dX4_init_14 : decode cX4_init 14 = .ok (.iconst 0, 1) := by decide +kernel
theorem dX4_init_15 : decode cX4_init 15 = .ok (.putfield 15, 3) := by decide +kernel
theorem dX4_init_18 : decode cX4_init 18 = .ok (.aload_n 0, 1) := by decide +kernel
theorem dX4_init_19 : decode cX4_init 19 = .ok (.iconst 0, 1) := by decide +kernel
theorem dX4_init_20 : decode cX4_init 20 = .ok (.putfield 19, 3) := by decide +kernel
theorem dX4_init_23 : decode cX4_init 23 = .ok (.aload_n 0, 1) := by decide +kernel
theorem dX4_init_24 : decode cX4_init 24 = .ok (.iconst 0, 1) := by decide +kernel
theorem dX4_init_25 : decode cX4_init 25 = .ok (.putfield 22, 3) := by decide +kernel
theorem dX4_init_28 : decode cX4_init 28 = .ok (.aload_n 0, 1) := by decide +kernel
theorem dX4_init_29 : decode cX4_init 29 = .ok (.iconst 0, 1) := by decide +kernel
theorem dX4_init_30 : decode cX4_init 30 = .ok (.putfield 25, 3) := by decide +kernel
theorem dX4_init_33 : decode cX4_init 33 = .ok (.aload_n 0, 1) := by decide +kernel
theorem dX4_init_34 : decode cX4_init 34 = .ok (.iconst 0, 1) := by decide +kernel
theorem dX4_init_35 : decode cX4_init 35 = .ok (.putfield 28, 3) := by decide +kernel
theorem dX4_init_38 : decode cX4_init 38 = .ok (.return_, 1) := by decide +kernel
set_option maxHeartbeats 8000000 in
set_option maxRecDepth 100000 in
theorem c_X4_init (E : GE) (l : Launch) (h0 : Nat) (sz : Nat) : Met l yX4_init (wz yX4_init cX4_init 1 none) { frames := 1, cells := 1, slots := 150, locals := 24 } (gPcN E [.ref h0] (gW [[(h0, .inr (4, [.null, .int 0, .int 0, .int 0, .int 0, .int 0]))]]) sz) (gQN E (gW [[(h0, .inr (4, [.null, .int 0, .int 0, .int 0, .int 0, .int 0]))]]) sz (fun w => ∃ a : Nat → Nat, w = gW [bText E (ad a h0) obZero])) 1 150 (va_A (gW [[(h0, .inr (4, [.null, .int 0, .int 0, .int 0, .int 0, .int 0]))]]) sz) := by
  refine g_of_N (by decide) (Nat.le_of_ble_eq_true rfl) rfl ?_ sz
  intro p e s m below meth c A Q hx hb hml hown ht hE hin hP hD hA hret ls hl
  have hK := hE.1
  have hS : va_S A s.heap s.heap [] := va_S.rf
  have hl : lv_has ls 1 [(0, .ref h0)] := hl
  refine lv_aload_n hx hb dX4_init_0 rfl (lv_at hl 0 rfl) ?_
  refine W.objInit hx hb hown (ht _ wk_X4_3) (ht _ wi_obj) (ht _ wc_obj) rfl (by rw [hml]; exact hl.1) rfl dX4_init_1 (Nat.le_of_ble_eq_true rfl) (Nat.le_of_ble_eq_true rfl) ?_
  refine W.eq (g2 := F0 m 4 ls []) rfl ?_
  refine lv_aload_n hx hb dX4_init_4 rfl (lv_at hl 0 rfl) ?_
  refine lv_sipush (v := 150) hx hb dX4_init_5 (by decide) ?_
  refine va_newa (atype := .int) (ty := .int) (n := 150) (N' := 150) (a0 := (150, .inl (fun _ => 0))) hx hb (ht _ wa_int) rfl hK hP hD hS hA (fun _ => rfl) (by decide) (by decide) (Nat.le_of_ble_eq_true rfl) (Nat.le_of_ble_eq_true rfl) (Nat.le_of_ble_eq_true rfl) dX4_init_8 (fun q_1 cA H hK4 hP hD hS => ?_)
  obtain rfl := gK_int hK4
  clear hK4
  have hP := gP_push hP
  have hD := gD_push hD
  have hP : gP E (gW [[(h0, .inr (4, [.null, .int 0, .int 0, .int 0, .int 0, .int 0]))], [bInt E q_1 150 (fun _ => 0)]]) H := hP
  have hD : va_D A (gW [[(h0, .inr (4, [.null, .int 0, .int 0, .int 0, .int 0, .int 0]))], [bInt E q_1 150 (fun _ => 0)]]) := hD
  refine va_putF (D := (E.1, E.2.1)) (ci := 4) (v := .ref q_1) (ty := (.array .int)) (C := RX4) (T := TX4) (N := 6) hx hb ht wu_X4 tyX4 tyX4_ok nmX4 hown hK hP hD hS 0 rfl rfl 0 (by decide) (ht _ wk_X4_9) (fun _ h9 => h9) rfl hin rfl (by decide +kernel) rfl rfl (Nat.le_of_ble_eq_true rfl) dX4_init_10 (fun H locs hP hD hS => ?_)
  have hP : gP E (gW [[(h0, .inr (4, [.ref q_1, .int 0, .int 0, .int 0, .int 0, .int 0]))], [bInt E q_1 150 (fun _ => 0)]]) H := hP
  have hD : va_D A (gW [[(h0, .inr (4, [.ref q_1, .int 0, .int 0, .int 0, .int 0, .int 0]))], [bInt E q_1 150 (fun _ => 0)]]) := hD
  refine lv_aload_n hx hb dX4_init_13 rfl (lv_at hl 0 rfl) ?_
  refine lv_iconst (v := 0) hx hb dX4_init_14 (by decide) ?_
  refine va_put (D := (E.1, E.2.1)) (ci := 4) (v := .int 0) (ty := .int) (C := RX4) (T := TX4) (N := 6) hx hb ht wu_X4 tyX4 tyX4_ok nmX4 hown hK hP hD hS 0 rfl rfl 1 (by decide) (ht _ wk_X4_15) (fun _ h9 => h9) rfl (by decide +kernel) rfl rfl (Nat.le_of_ble_eq_true rfl) dX4_init_15 (fun H locs hP hD hS => ?_)
  have hP : gP E (gW [[(h0, .inr (4, [.ref q_1, .int 0, .int 0, .int 0, .int 0, .int 0]))], [bInt E q_1 150 (fun _ => 0)]]) H := hP
  have hD : va_D A (gW [[(h0, .inr (4, [.ref q_1, .int 0, .int 0, .int 0, .int 0, .int 0]))], [bInt E q_1 150 (fun _ => 0)]]) := hD
  refine lv_aload_n hx hb dX4_init_18 rfl (lv_at hl 0 rfl) ?_
  refine lv_iconst (v := 0) hx hb dX4_init_19 (by decide) ?_
  refine va_put (D := (E.1, E.2.1)) (ci := 4) (v := .int 0) (ty := .int) (C := RX4) (T := TX4) (N := 6) hx hb ht wu_X4 tyX4 tyX4_ok nmX4 hown hK hP hD hS 0 rfl rfl 2 (by decide) (ht _ wk_X4_19) (fun _ h9 => h9) rfl (by decide +kernel) rfl rfl (Nat.le_of_ble_eq_true rfl) dX4_init_20 (fun H locs hP hD hS => ?_)
  have hP : gP E (gW [[(h0, .inr (4, [.ref q_1, .int 0, .int 0, .int 0, .int 0, .int 0]))], [bInt E q_1 150 (fun _ => 0)]]) H := hP
  have hD : va_D A (gW [[(h0, .inr (4, [.ref q_1, .int 0, .int 0, .int 0, .int 0, .int 0]))], [bInt E q_1 150 (fun _ => 0)]]) := hD
  refine lv_aload_n hx hb dX4_init_23 rfl (lv_at hl 0 rfl) ?_
  refine lv_iconst (v := 0) hx hb dX4_init_24 (by decide) ?_
  refine va_put (D := (E.1, E.2.1)) (ci := 4) (v := .int 0) (ty := .int) (C := RX4) (T := TX4) (N := 6) hx hb ht wu_X4 tyX4 tyX4_ok nmX4 hown hK hP hD hS 0 rfl rfl 3 (by decide) (ht _ wk_X4_22) (fun _ h9 => h9) rfl (by decide +kernel) rfl rfl (Nat.le_of_ble_eq_true rfl) dX4_init_25 (fun H locs hP hD hS => ?_)
  have hP : gP E (gW [[(h0, .inr (4, [.ref q_1, .int 0, .int 0, .int 0, .int 0, .int 0]))], [bInt E q_1 150 (fun _ => 0)]]) H := hP
  have hD : va_D A (gW [[(h0, .inr (4, [.ref q_1, .int 0, .int 0, .int 0, .int 0, .int 0]))], [bInt E q_1 150 (fun _ => 0)]]) := hD
  refine lv_aload_n hx hb dX4_init_28 rfl (lv_at hl 0 rfl) ?_
  refine lv_iconst (v := 0) hx hb dX4_init_29 (by decide) ?_
  refine va_put (D := (E.1, E.2.1)) (ci := 4) (v := .int 0) (ty := .int) (C := RX4) (T := TX4) (N := 6) hx hb ht wu_X4 tyX4 tyX4_ok nmX4 hown hK hP hD hS 0 rfl rfl 4 (by decide) (ht _ wk_X4_25) (fun _ h9 => h9) rfl (by decide +kernel) rfl rfl (Nat.le_of_ble_eq_true rfl) dX4_init_30 (fun H locs hP hD hS => ?_)
  have hP : gP E (gW [[(h0, .inr (4, [.ref q_1, .int 0, .int 0, .int 0, .int 0, .int 0]))], [bInt E q_1 150 (fun _ => 0)]]) H := hP
  have hD : va_D A (gW [[(h0, .inr (4, [.ref q_1, .int 0, .int 0, .int 0, .int 0, .int 0]))], [bInt E q_1 150 (fun _ => 0)]]) := hD
  refine lv_aload_n hx hb dX4_init_33 rfl (lv_at hl 0 rfl) ?_
  refine lv_iconst (v := 0) hx hb dX4_init_34 (by decide) ?_
  refine va_put (D := (E.1, E.2.1)) (ci := 4) (v := .int 0) (ty := .int) (C := RX4) (T := TX4) (N := 6) hx hb ht wu_X4 tyX4 tyX4_ok nmX4 hown hK hP hD hS 0 rfl rfl 5 (by decide) (ht _ wk_X4_28) (fun _ h9 => h9) rfl (by decide +kernel) rfl rfl (Nat.le_of_ble_eq_true rfl) dX4_init_35 (fun H locs hP hD hS => ?_)
  have hP : gP E (gW [[(h0, .inr (4, [.ref q_1, .int 0, .int 0, .int 0, .int 0, .int 0]))], [bInt E q_1 150 (fun _ => 0)]]) H := hP
  have hD : va_D A (gW [[(h0, .inr (4, [.ref q_1, .int 0, .int 0, .int 0, .int 0, .int 0]))], [bInt E q_1 150 (fun _ => 0)]]) := hD
  refine W.widen (k := 1) (n := 150) (Nat.le_of_ble_eq_true rfl) (Nat.le_of_ble_eq_true rfl) ?_
  have hP : gP E (gW [bText E (ad (fun k => match k with | 0 => q_1 | _ => h0) h0) obZero]) H := hP
  have hD : va_D A (gW [bText E (ad (fun k => match k with | 0 => q_1 | _ => h0) h0) obZero]) := hD
  exact hret _ _ _ _ _ ⟨(fun k => match k with | 0 => q_1 | _ => h0), rfl⟩ hP hD hS dX4_init_38
theorem dX1_init_0 : decode cX1_init 0 = .ok (.aload_n 0, 1) := by decide +kernel
theorem dX1_init_1 : decode cX1_init 1 = .ok (.invokespecial 3, 3) := by decide +kernel
theorem dX1_init_4 : decode cX1_init 4 = .ok (.aload_n 0, 1) := by decide +kernel
theorem dX1_init_5 : decode cX1_init 5 = .ok (.bipush 8, 2) := by decide +kernel
theorem dX1_init_7 : decode cX1_init 7 = .ok (.newarray .int, 2) := by decide +kernel
theorem dX1_init_9 : decode cX1_init 9 = .ok (.putfield 9, 3) := by decide +kernel
theorem dX1_init_12 : decode cX1_init 12 = .ok (.aload_n 0, 1) := by decide +kernel
theorem dX1_init_13 : decode cX1_init 13 = .ok (.bipush 8, 2) := by decide +kernel
theorem dX1_init_15 : decode cX1_init 15 = .ok (.newarray .int, 2) := by decide +kernel
theorem dX1_init_17 : decode cX1_init 17 = .ok (.putfield 15, 3) := by decide +kernel
theorem dX1_init_20 : decode cX1_init 20 = .ok (.aload_n 0, 1) := by decide +kernel
theorem dX1_init_21 : decode cX1_init 21 = .ok (.bipush 6, 2) := by decide +kernel
theorem dX1_init_23 : decode cX1_init 23 = .ok (.newarray .int, 2) := by decide +kernel
theorem dX1_init_25 : decode cX1_init 25 = .ok (.putfield 18, 3) := by decide +kernel
theorem dX1_init_28 : decode cX1_init 28 = .ok (.aload_n 0, 1) := by decide +kernel
theorem dX1_init_29 : decode cX1_init 29 = .ok (.iconst 3, 1) := by decide +kernel
theorem dX1_init_30 : decode cX1_init 30 = .ok (.putfield 21, 3) := by decide +kernel
theorem dX1_init_33 : decode cX1_init 33 = .ok (.aload_n 0, 1) := by decide +kernel
theorem dX1_init_34 : decode cX1_init 34 = .ok (.iconst 0, 1) := by decide +kernel
theorem dX1_init_35 : decode cX1_init 35 = .ok (.putfield 25, 3) := by decide +kernel
theorem dX1_init_38 : decode cX1_init 38 = .ok (.return_, 1) := by decide +kernel
set_option maxHeartbeats 8000000 in
set_option maxRecDepth 100000 in
theorem c_X1_init (E : GE) (l : Launch) (h0 : Nat) (sz : Nat) : Met l yX1_init (wz yX1_init cX1_init 1 none) { frames := 1, cells := 3, slots := 22, locals := 24 } (gPcN E [.ref h0] (gW [[(h0, .inr (1, [.null, .null, .null, .int 0, .int 0]))]]) sz) (gQN E (gW [[(h0, .inr (1, [.null, .null, .null, .int 0, .int 0]))]]) sz (fun w => ∃ a : Nat → Nat, w = gW [bPlan E (ad a h0) plInit])) 3 22 (va_A (gW [[(h0, .inr (1, [.null, .null, .null, .int 0, .int 0]))]]) sz) := by
  refine g_of_N (by decide) (Nat.le_of_ble_eq_true rfl) rfl ?_ sz
  intro p e s m below meth c A Q hx hb hml hown ht hE hin hP hD hA hret ls hl
  have hK := hE.1
  have hS : va_S A s.heap s.heap [] := va_S.rf
  have hl : lv_has ls 1 [(0, .ref h0)] := hl
  refine lv_aload_n hx hb dX1_init_0 rfl (lv_at hl 0 rfl) ?_
  refine W.objInit hx hb hown (ht _ wk_X1_3) (ht _ wi_obj) (ht _ wc_obj) rfl (by rw [hml]; exact hl.1) rfl dX1_init_1 (Nat.le_of_ble_eq_true rfl) (Nat.le_of_ble_eq_true rfl) ?_
  refine W.eq (g2 := F0 m 4 ls []) rfl ?_
  refine lv_aload_n hx hb dX1_init_4 rfl (lv_at hl 0 rfl) ?_
  refine lv_bipush (v := 8) hx hb dX1_init_5 (by decide) ?_
  refine va_newa (atype := .int) (ty := .int) (n := 8) (N' := 8) (a0 := (8, .inl (fun _ => 0))) hx hb (ht _ wa_int) rfl hK hP hD hS hA (fun _ => rfl) (by decide) (by decide) (Nat.le_of_ble_eq_true rfl) (Nat.le_of_ble_eq_true rfl) (Nat.le_of_ble_eq_true rfl) dX1_init_7 (fun q_1 cA H hK4 hP hD hS => ?_)
  obtain rfl := gK_int hK4
  clear hK4
  have hP := gP_push hP
  have hD := gD_push hD
  have hP : gP E (gW [[(h0, .inr (1, [.null, .null, .null, .int 0, .int 0]))], [bInt E q_1 8 (fun _ => 0)]]) H := hP
  have hD : va_D A (gW [[(h0, .inr (1, [.null, .null, .null, .int 0, .int 0]))], [bInt E q_1 8 (fun _ => 0)]]) := hD
  refine va_putF (D := (E.1, E.2.1)) (ci := 1) (v := .ref q_1) (ty := (.array .int)) (C := RX1) (T := TX1) (N := 5) hx hb ht wu_X1 tyX1 tyX1_ok nmX1 hown hK hP hD hS 0 rfl rfl 0 (by decide) (ht _ wk_X1_9) (fun _ h9 => h9) rfl hin rfl (by decide +kernel) rfl rfl (Nat.le_of_ble_eq_true rfl) dX1_init_9 (fun H locs hP hD hS => ?_)
  have hP : gP E (gW [[(h0, .inr (1, [.ref q_1, .null, .null, .int 0, .int 0]))], [bInt E q_1 8 (fun _ => 0)]]) H := hP
  have hD : va_D A (gW [[(h0, .inr (1, [.ref q_1, .null, .null, .int 0, .int 0]))], [bInt E q_1 8 (fun _ => 0)]]) := hD
  refine lv_aload_n hx hb dX1_init_12 rfl (lv_at hl 0 rfl) ?_
  refine lv_bipush (v := 8) hx hb dX1_init_13 (by decide) ?_
  refine va_newa (atype := .int) (ty := .int) (n := 8) (N' := 8) (a0 := (8, .inl (fun _ => 0))) hx hb (ht _ wa_int) rfl hK hP hD hS hA (fun _ => rfl) (by decide) (by decide) (Nat.le_of_ble_eq_true rfl) (Nat.le_of_ble_eq_true rfl) (Nat.le_of_ble_eq_true rfl) dX1_init_15 (fun q_2 cA H hK4 hP hD hS => ?_)
  obtain rfl := gK_int hK4
  clear hK4
  have hP := gP_push hP
  have hD := gD_push hD
  have hP : gP E (gW [[(h0, .inr (1, [.ref q_1, .null, .null, .int 0, .int 0]))], [bInt E q_1 8 (fun _ => 0)], [bInt E q_2 8 (fun _ => 0)]]) H := hP
  have hD : va_D A (gW [[(h0, .inr (1, [.ref q_1, .null, .null, .int 0, .int 0]))], [bInt E q_1 8 (fun _ => 0)], [bInt E q_2 8 (fun _ => 0)]]) := hD
  refine va_putF (D := (E.1, E.2.1)) (ci := 1) (v := .ref q_2) (ty := (.array .int)) (C := RX1) (T := TX1) (N := 5) hx hb ht wu_X1 tyX1 tyX1_ok nmX1 hown hK hP hD hS 0 rfl rfl 1 (by decide) (ht _ wk_X1_15) (fun _ h9 => h9) rfl hin rfl (by decide +kernel) rfl rfl (Nat.le_of_ble_eq_true rfl) dX1_init_17 (fun H locs hP hD hS => ?_)
  have hP : gP E (gW [[(h0, .inr (1, [.ref q_1, .ref q_2, .null, .int 0, .int 0]))], [bInt E q_1 8 (fun _ => 0)], [bInt E q_2 8 (fun _ => 0)]]) H := hP
  have hD : va_D A (gW [[(h0, .inr (1, [.ref q_1, .ref q_2, .null, .int 0, .int 0]))], [bInt E q_1 8 (fun _ => 0)], [bInt E q_2 8 (fun _ => 0)]]) := hD
  refine lv_aload_n hx hb dX1_init_20 rfl (lv_at hl 0 rfl) ?_
  refine lv_bipush (v := 6) hx hb dX1_init_21 (by decide) ?_
  refine va_newa (atype := .int) (ty := .int) (n := 6) (N' := 6) (a0 := (6, .inl (fun _ => 0))) hx hb (ht _ wa_int) rfl hK hP hD hS hA (fun _ => rfl) (by decide) (by decide) (Nat.le_of_ble_eq_true rfl) (Nat.le_of_ble_eq_true rfl) (Nat.le_of_ble_eq_true rfl) dX1_init_23 (fun q_3 cA H hK4 hP hD hS => ?_)
  obtain rfl := gK_int hK4
  clear hK4
  have hP := gP_push hP
  have hD := gD_push hD
  have hP : gP E (gW [[(h0, .inr (1, [.ref q_1, .ref q_2, .null, .int 0, .int 0]))], [bInt E q_1 8 (fun _ => 0)], [bInt E q_2 8 (fun _ => 0)], [bInt E q_3 6 (fun _ => 0)]]) H := hP
  have hD : va_D A (gW [[(h0, .inr (1, [.ref q_1, .ref q_2, .null, .int 0, .int 0]))], [bInt E q_1 8 (fun _ => 0)], [bInt E q_2 8 (fun _ => 0)], [bInt E q_3 6 (fun _ => 0)]]) := hD
  refine va_putF (D := (E.1, E.2.1)) (ci := 1) (v := .ref q_3) (ty := (.array .int)) (C := RX1) (T := TX1) (N := 5) hx hb ht wu_X1 tyX1 tyX1_ok nmX1 hown hK hP hD hS 0 rfl rfl 2 (by decide) (ht _ wk_X1_18) (fun _ h9 => h9) rfl hin rfl (by decide +kernel) rfl rfl (Nat.le_of_ble_eq_true rfl) dX1_init_25 (fun H locs hP hD hS => ?_)
  have hP : gP E (gW [[(h0, .inr (1, [.ref q_1, .ref q_2, .ref q_3, .int 0, .int 0]))], [bInt E q_1 8 (fun _ => 0)], [bInt E q_2 8 (fun _ => 0)], [bInt E q_3 6 (fun _ => 0)]]) H := hP
  have hD : va_D A (gW [[(h0, .inr (1, [.ref q_1, .ref q_2, .ref q_3, .int 0, .int 0]))], [bInt E q_1 8 (fun _ => 0)], [bInt E q_2 8 (fun _ => 0)], [bInt E q_3 6 (fun _ => 0)]]) := hD
  refine lv_aload_n hx hb dX1_init_28 rfl (lv_at hl 0 rfl) ?_
  refine lv_iconst (v := 3) hx hb dX1_init_29 (by decide) ?_
  refine va_put (D := (E.1, E.2.1)) (ci := 1) (v := .int 3) (ty := .int) (C := RX1) (T := TX1) (N := 5) hx hb ht wu_X1 tyX1 tyX1_ok nmX1 hown hK hP hD hS 0 rfl rfl 3 (by decide) (ht _ wk_X1_21) (fun _ h9 => h9) rfl (by decide +kernel) rfl rfl (Nat.le_of_ble_eq_true rfl) dX1_init_30 (fun H locs hP hD hS => ?_)
  have hP : gP E (gW [[(h0, .inr (1, [.ref q_1, .ref q_2, .ref q_3, .int 3, .int 0]))], [bInt E q_1 8 (fun _ => 0)], [bInt E q_2 8 (fun _ => 0)], [bInt E q_3 6 (fun _ => 0)]]) H := hP
  have hD : va_D A (gW [[(h0, .inr (1, [.ref q_1, .ref q_2, .ref q_3, .int 3, .int 0]))], [bInt E q_1 8 (fun _ => 0)], [bInt E q_2 8 (fun _ => 0)], [bInt E q_3 6 (fun _ => 0)]]) := hD
  refine lv_aload_n hx hb dX1_init_33 rfl (lv_at hl 0 rfl) ?_
  refine lv_iconst (v := 0) hx hb dX1_init_34 (by decide) ?_
  refine va_put (D := (E.1, E.2.1)) (ci := 1) (v := .int 0) (ty := .int) (C := RX1) (T := TX1) (N := 5) hx hb ht wu_X1 tyX1 tyX1_ok nmX1 hown hK hP hD hS 0 rfl rfl 4 (by decide) (ht _ wk_X1_25) (fun _ h9 => h9) rfl (by decide +kernel) rfl rfl (Nat.le_of_ble_eq_true rfl) dX1_init_35 (fun H locs hP hD hS => ?_)
  have hP : gP E (gW [[(h0, .inr (1, [.ref q_1, .ref q_2, .ref q_3, .int 3, .int 0]))], [bInt E q_1 8 (fun _ => 0)], [bInt E q_2 8 (fun _ => 0)], [bInt E q_3 6 (fun _ => 0)]]) H := hP
  have hD : va_D A (gW [[(h0, .inr (1, [.ref q_1, .ref q_2, .ref q_3, .int 3, .int 0]))], [bInt E q_1 8 (fun _ => 0)], [bInt E q_2 8 (fun _ => 0)], [bInt E q_3 6 (fun _ => 0)]]) := hD
  refine W.widen (k := 3) (n := 22) (Nat.le_of_ble_eq_true rfl) (Nat.le_of_ble_eq_true rfl) ?_
  have hP : gP E (gW [bPlan E (ad (fun k => match k with | 0 => q_1 | 1 => q_2 | 2 => q_3 | _ => h0) h0) plInit]) H := hP
  have hD : va_D A (gW [bPlan E (ad (fun k => match k with | 0 => q_1 | 1 => q_2 | 2 => q_3 | _ => h0) h0) plInit]) := hD
  exact hret _ _ _ _ _ ⟨(fun k => match k with | 0 => q_1 | 1 => q_2 | 2 => q_3 | _ => h0), rfl⟩ hP hD hS dX1_init_38
theorem dX6_init_0 : decode cX6_init 0 = .ok (.aload_n 0, 1) := by decide +kernel
theorem dX6_init_1 : decode cX6_init 1 = .ok (.invokespecial 1, 3) := by decide +kernel
theorem dX6_init_4 : decode cX6_init 4 = .ok (.aload_n 0, 1) := by decide +kernel
theorem dX6_init_5 : decode cX6_init 5 = .ok (.iconst 3, 1) := by decide +kernel
theorem dX6_init_6 : decode cX6_init 6 = .ok (.putfield 7, 3) := by decide +kernel
theorem dX6_init_9 : decode cX6_init 9 = .ok (.aload_n 0, 1) := by decide +kernel
theorem dX6_init_10 : decode cX6_init 10 = .ok (.bipush 6, 2) := by decide +kernel
theorem dX6_init_12 : decode cX6_init 12 = .ok (.newarray .int, 2) := by decide +kernel
theorem dX6_init_14 : decode cX6_init 14 = .ok (.putfield 13, 3) := by decide +kernel
theorem dX6_init_17 : decode cX6_init 17 = .ok (.aload_n 0, 1) := by decide +kernel
theorem dX6_init_18 : decode cX6_init 18 = .ok (.bipush 6, 2) := by decide +kernel
theorem dX6_init_20 : decode cX6_init 20 = .ok (.newarray .int, 2) := by decide +kernel
theorem dX6_init_22 : decode cX6_init 22 = .ok (.putfield 17, 3) := by decide +kernel
theorem dX6_init_25 : decode cX6_init 25 = .ok (.aload_n 0, 1) := by decide +kernel
theorem dX6_init_26 : decode cX6_init 26 = .ok (.bipush 32, 2) := by decide +kernel
theorem dX6_init_28 : decode cX6_init 28 = .ok (.newarray .int, 2) := by decide +kernel
theorem dX6_init_30 : decode cX6_init 30 = .ok (.putfield 20, 3) := by decide +kernel
theorem dX6_init_33 : decode cX6_init 33 = .ok (.aload_n 0, 1) := by decide +kernel
theorem dX6_init_34 : decode cX6_init 34 = .ok (.bipush 32, 2) := by decide +kernel
theorem dX6_init_36 : decode cX6_init 36 = .ok (.newarray .int, 2) := by decide +kernel
theorem dX6_init_38 : decode cX6_init 38 = .ok (.putfield 23, 3) := by decide +kernel
theorem dX6_init_41 : decode cX6_init 41 = .ok (.aload_n 0, 1) := by decide +kernel
theorem dX6_init_42 : decode cX6_init 42 = .ok (.sipush 320, 3) := by decide +kernel
theorem dX6_init_45 : decode cX6_init 45 = .ok (.newarray .int, 2) := by decide +kernel
theorem dX6_init_47 : decode cX6_init 47 = .ok (.putfield 26, 3) := by decide +kernel
theorem dX6_init_50 : decode cX6_init 50 = .ok (.aload_n 0, 1) := by decide +kernel
theorem dX6_init_51 : decode cX6_init 51 = .ok (.bipush 64, 2) := by decide +kernel
theorem dX6_init_53 : decode cX6_init 53 = .ok (.newarray .int, 2) := by decide +kernel
theorem dX6_init_55 : decode cX6_init 55 = .ok (.putfield 29, 3) := by decide +kernel
theorem dX6_init_58 : decode cX6_init 58 = .ok (.aload_n 0, 1) := by decide +kernel
theorem dX6_init_59 : decode cX6_init 59 = .ok (.iconst 2, 1) := by decide +kernel
theorem dX6_init_60 : decode cX6_init 60 = .ok (.newarray .int, 2) := by decide +kernel
theorem dX6_init_62 : decode cX6_init 62 = .ok (.putfield 32, 3) := by decide +kernel
theorem dX6_init_65 : decode cX6_init 65 = .ok (.aload_n 0, 1) := by decide +kernel
theorem dX6_init_66 : decode cX6_init 66 = .ok (.sipush 640, 3) := by decide +kernel
theorem dX6_init_69 : decode cX6_init 69 = .ok (.newarray .int, 2) := by decide +kernel
theorem dX6_init_71 : decode cX6_init 71 = .ok (.putfield 35, 3) := by decide +kernel
theorem dX6_init_74 : decode cX6_init 74 = .ok (.aload_n 0, 1) := by decide +kernel
theorem dX6_init_75 : decode cX6_init 75 = .ok (.sipush 150, 3) := by decide +kernel
theorem dX6_init_78 : decode cX6_init 78 = .ok (.newarray .int, 2) := by decide +kernel
theorem dX6_init_80 : decode cX6_init 80 = .ok (.putfield 38, 3) := by decide +kernel
theorem dX6_init_83 : decode cX6_init 83 = .ok (.aload_n 0, 1) := by decide +kernel
theorem dX6_init_84 : decode cX6_init 84 = .ok (.iconst 4, 1) := by decide +kernel
theorem dX6_init_85 : decode cX6_init 85 = .ok (.newarray .int, 2) := by decide +kernel
theorem dX6_init_87 : decode cX6_init 87 = .ok (.putfield 41, 3) := by decide +kernel
theorem dX6_init_90 : decode cX6_init 90 = .ok (.aload_n 0, 1) := by decide +kernel
theorem dX6_init_91 : decode cX6_init 91 = .ok (.iconst 4, 1) := by decide +kernel
theorem dX6_init_92 : decode cX6_init 92 = .ok (.newarray .int, 2) := by decide +kernel
theorem dX6_init_94 : decode cX6_init 94 = .ok (.putfield 44, 3) := by decide +kernel
theorem dX6_init_97 : decode cX6_init 97 = .ok (.aload_n 0, 1) := by decide +kernel
theorem dX6_init_98 : decode cX6_init 98 = .ok (.sipush 250, 3) := by decide +kernel
theorem dX6_init_101 : decode cX6_init 101 = .ok (.newarray .int, 2) := by decide +kernel
theorem dX6_init_103 : decode cX6_init 103 = .ok (.putfield 47, 3) := by decide +kernel
theorem dX6_init_106 : decode cX6_init 106 = .ok (.aload_n 0, 1) := by decide +kernel
theorem dX6_init_107 : decode cX6_init 107 = .ok (.iconst 4, 1) := by decide +kernel
theorem dX6_init_108 : decode cX6_init 108 = .ok (.newarray .int, 2) := by decide +kernel
theorem dX6_init_110 : decode cX6_init 110 = .ok (.putfield 50, 3) := by decide +kernel
theorem dX6_init_113 : decode cX6_init 113 = .ok (.aload_n 0, 1) := by decide +kernel
theorem dX6_init_114 : decode cX6_init 114 = .ok (.getfield 23, 3) := by decide +kernel
theorem dX6_init_117 : decode cX6_init 117 = .ok (.bipush 9, 2) := by decide +kernel
theorem dX6_init_119 : decode cX6_init 119 = .ok (.bipush (-9), 2) := by decide +kernel
theorem dX6_init_121 : decode cX6_init 121 = .ok (.iastore, 1) := by decide +kernel
theorem dX6_init_122 : decode cX6_init 122 = .ok (.return_, 1) := by decide +kernel
set_option maxHeartbeats 8000000 in
set_option maxRecDepth 100000 in
theorem c_X6_init (E : GE) (l : Launch) (h0 : Nat) (sz : Nat) : Met l yX6_init (wz yX6_init cX6_init 1 none) { frames := 1, cells := 13, slots := 1514, locals := 24 } (gPcN E [.ref h0] (gW [[(h0, .inr (6, [.int 0, .int 0, .null, .int 0, .int 0, .null, .null, .null, .null, .int 0, .int 0, .null, .null, .null, .int 0, .null, .int 0, .null, .null, .long 0, .int 0, .int 0, .int 0, .int 0, .null, .null]))]]) sz) (gQN E (gW [[(h0, .inr (6, [.int 0, .int 0, .null, .int 0, .int 0, .null, .null, .null, .null, .int 0, .int 0, .null, .null, .null, .int 0, .null, .int 0, .null, .null, .long 0, .int 0, .int 0, .int 0, .int 0, .null, .null]))]]) sz (fun w => ∃ a : Nat → Nat, w = gW [bModel E (ad a h0) moInit])) 13 1514 (va_A (gW [[(h0, .inr (6, [.int 0, .int 0, .null, .int 0, .int 0, .null, .null, .null, .null, .int 0, .int 0, .null, .null, .null, .int 0, .null, .int 0, .null, .null, .long 0, .int 0, .int 0, .int 0, .int 0, .null, .null]))]]) sz) := by
  refine g_of_N (by decide) (Nat.le_of_ble_eq_true rfl) rfl ?_ sz
  intro p e s m below meth c A Q hx hb hml hown ht hE hin hP hD hA hret ls hl
  have hK := hE.1
  have hS : va_S A s.heap s.heap [] := va_S.rf
  have hl : lv_has ls 1 [(0, .ref h0)] := hl
  refine lv_aload_n hx hb dX6_init_0 rfl (lv_at hl 0 rfl) ?_
  refine W.objInit hx hb hown (ht _ wk_X6_1) (ht _ wi_obj) (ht _ wc_obj) rfl (by rw [hml]; exact hl.1) rfl dX6_init_1 (Nat.le_of_ble_eq_true rfl) (Nat.le_of_ble_eq_true rfl) ?_
  refine W.eq (g2 := F0 m 4 ls []) rfl ?_
  refine lv_aload_n hx hb dX6_init_4 rfl (lv_at hl 0 rfl) ?_
  refine lv_iconst (v := 3) hx hb dX6_init_5 (by decide) ?_
  refine va_put (D := (E.1, E.2.1)) (ci := 6) (v := .int 3) (ty := .int) (C := RX6) (T := TX6) (N := 26) hx hb ht wu_X6 tyX6 tyX6_ok nmX6 hown hK hP hD hS 0 rfl rfl 0 (by decide) (ht _ wk_X6_7) (fun _ h9 => h9) rfl (by decide +kernel) rfl rfl (Nat.le_of_ble_eq_true rfl) dX6_init_6 (fun H locs hP hD hS => ?_)
  have hP : gP E (gW [[(h0, .inr (6, [.int 3, .int 0, .null, .int 0, .int 0, .null, .null, .null, .null, .int 0, .int 0, .null, .null, .null, .int 0, .null, .int 0, .null, .null, .long 0, .int 0, .int 0, .int 0, .int 0, .null, .null]))]]) H := hP
  have hD : va_D A (gW [[(h0, .inr (6, [.int 3, .int 0, .null, .int 0, .int 0, .null, .null, .null, .null, .int 0, .int 0, .null, .null, .null, .int 0, .null, .int 0, .null, .null, .long 0, .int 0, .int 0, .int 0, .int 0, .null, .null]))]]) := hD
  refine lv_aload_n hx hb dX6_init_9 rfl (lv_at hl 0 rfl) ?_
  refine lv_bipush (v := 6) hx hb dX6_init_10 (by decide) ?_
  refine va_newa (atype := .int) (ty := .int) (n := 6) (N' := 6) (a0 := (6, .inl (fun _ => 0))) hx hb (ht _ wa_int) rfl hK hP hD hS hA (fun _ => rfl) (by decide) (by decide) (Nat.le_of_ble_eq_true rfl) (Nat.le_of_ble_eq_true rfl) (Nat.le_of_ble_eq_true rfl) dX6_init_12 (fun q_1 cA H hK4 hP hD hS => ?_)
  obtain rfl := gK_int hK4
  clear hK4
  have hP := gP_push hP
  have hD := gD_push hD
  have hP : gP E (gW [[(h0, .inr (6, [.int 3, .int 0, .null, .int 0, .int 0, .null, .null, .null, .null, .int 0, .int 0, .null, .null, .null, .int 0, .null, .int 0, .null, .null, .long 0, .int 0, .int 0, .int 0, .int 0, .null, .null]))], [bInt E q_1 6 (fun _ => 0)]]) H := hP
  have hD : va_D A (gW [[(h0, .inr (6, [.int 3, .int 0, .null, .int 0, .int 0, .null, .null, .null, .null, .int 0, .int 0, .null, .null, .null, .int 0, .null, .int 0, .null, .null, .long 0, .int 0, .int 0, .int 0, .int 0, .null, .null]))], [bInt E q_1 6 (fun _ => 0)]]) := hD
  refine va_putF (D := (E.1, E.2.1)) (ci := 6) (v := .ref q_1) (ty := (.array .int)) (C := RX6) (T := TX6) (N := 26) hx hb ht wu_X6 tyX6 tyX6_ok nmX6 hown hK hP hD hS 0 rfl rfl 2 (by decide) (ht _ wk_X6_13) (fun _ h9 => h9) rfl hin rfl (by decide +kernel) rfl rfl (Nat.le_of_ble_eq_true rfl) dX6_init_14 (fun H locs hP hD hS => ?_)
  have hP : gP E (gW [[(h0, .inr (6, [.int 3, .int 0, .ref q_1, .int 0, .int 0, .null, .null, .null, .null, .int 0, .int 0, .null, .null, .null, .int 0, .null, .int 0, .null, .null, .long 0, .int 0, .int 0, .int 0, .int 0, .null, .null]))], [bInt E q_1 6 (fun _ => 0)]]) H := hP
  have hD : va_D A (gW [[(h0, .inr (6, [.int 3, .int 0, .ref q_1, .int 0, .int 0, .null, .null, .null, .null, .int 0, .int 0, .null, .null, .null, .int 0, .null, .int 0, .null, .null, .long 0, .int 0, .int 0, .int 0, .int 0, .null, .null]))], [bInt E q_1 6 (fun _ => 0)]]) := hD
  refine lv_aload_n hx hb dX6_init_17 rfl (lv_at hl 0 rfl) ?_
  refine lv_bipush (v := 6) hx hb dX6_init_18 (by decide) ?_
  refine va_newa (atype := .int) (ty := .int) (n := 6) (N' := 6) (a0 := (6, .inl (fun _ => 0))) hx hb (ht _ wa_int) rfl hK hP hD hS hA (fun _ => rfl) (by decide) (by decide) (Nat.le_of_ble_eq_true rfl) (Nat.le_of_ble_eq_true rfl) (Nat.le_of_ble_eq_true rfl) dX6_init_20 (fun q_2 cA H hK4 hP hD hS => ?_)
  obtain rfl := gK_int hK4
  clear hK4
  have hP := gP_push hP
  have hD := gD_push hD
  have hP : gP E (gW [[(h0, .inr (6, [.int 3, .int 0, .ref q_1, .int 0, .int 0, .null, .null, .null, .null, .int 0, .int 0, .null, .null, .null, .int 0, .null, .int 0, .null, .null, .long 0, .int 0, .int 0, .int 0, .int 0, .null, .null]))], [bInt E q_1 6 (fun _ => 0)], [bInt E q_2 6 (fun _ => 0)]]) H := hP
  have hD : va_D A (gW [[(h0, .inr (6, [.int 3, .int 0, .ref q_1, .int 0, .int 0, .null, .null, .null, .null, .int 0, .int 0, .null, .null, .null, .int 0, .null, .int 0, .null, .null, .long 0, .int 0, .int 0, .int 0, .int 0, .null, .null]))], [bInt E q_1 6 (fun _ => 0)], [bInt E q_2 6 (fun _ => 0)]]) := hD
  refine va_putF (D := (E.1, E.2.1)) (ci := 6) (v := .ref q_2) (ty := (.array .int)) (C := RX6) (T := TX6) (N := 26) hx hb ht wu_X6 tyX6 tyX6_ok nmX6 hown hK hP hD hS 0 rfl rfl 5 (by decide) (ht _ wk_X6_17) (fun _ h9 => h9) rfl hin rfl (by decide +kernel) rfl rfl (Nat.le_of_ble_eq_true rfl) dX6_init_22 (fun H locs hP hD hS => ?_)
  have hP : gP E (gW [[(h0, .inr (6, [.int 3, .int 0, .ref q_1, .int 0, .int 0, .ref q_2, .null, .null, .null, .int 0, .int 0, .null, .null, .null, .int 0, .null, .int 0, .null, .null, .long 0, .int 0, .int 0, .int 0, .int 0, .null, .null]))], [bInt E q_1 6 (fun _ => 0)], [bInt E q_2 6 (fun _ => 0)]]) H := hP
  have hD : va_D A (gW [[(h0, .inr (6, [.int 3, .int 0, .ref q_1, .int 0, .int 0, .ref q_2, .null, .null, .null, .int 0, .int 0, .null, .null, .null, .int 0, .null, .int 0, .null, .null, .long 0, .int 0, .int 0, .int 0, .int 0, .null, .null]))], [bInt E q_1 6 (fun _ => 0)], [bInt E q_2 6 (fun _ => 0)]]) := hD
  refine lv_aload_n hx hb dX6_init_25 rfl (lv_at hl 0 rfl) ?_
  refine lv_bipush (v := 32) hx hb dX6_init_26 (by decide) ?_
  refine va_newa (atype := .int) (ty := .int) (n := 32) (N' := 32) (a0 := (32, .inl (fun _ => 0))) hx hb (ht _ wa_int) rfl hK hP hD hS hA (fun _ => rfl) (by decide) (by decide) (Nat.le_of_ble_eq_true rfl) (Nat.le_of_ble_eq_true rfl) (Nat.le_of_ble_eq_true rfl) dX6_init_28 (fun q_3 cA H hK4 hP hD hS => ?_)
  obtain rfl := gK_int hK4
  clear hK4
  have hP := gP_push hP
  have hD := gD_push hD
  have hP : gP E (gW [[(h0, .inr (6, [.int 3, .int 0, .ref q_1, .int 0, .int 0, .ref q_2, .null, .null, .null, .int 0, .int 0, .null, .null, .null, .int 0, .null, .int 0, .null, .null, .long 0, .int 0, .int 0, .int 0, .int 0, .null, .null]))], [bInt E q_1 6 (fun _ => 0)], [bInt E q_2 6 (fun _ => 0)], [bInt E q_3 32 (fun _ => 0)]]) H := hP
  have hD : va_D A (gW [[(h0, .inr (6, [.int 3, .int 0, .ref q_1, .int 0, .int 0, .ref q_2, .null, .null, .null, .int 0, .int 0, .null, .null, .null, .int 0, .null, .int 0, .null, .null, .long 0, .int 0, .int 0, .int 0, .int 0, .null, .null]))], [bInt E q_1 6 (fun _ => 0)], [bInt E q_2 6 (fun _ => 0)], [bInt E q_3 32 (fun _ => 0)]]) := hD
  refine va_putF (D := (E.1, E.2.1)) (ci := 6) (v := .ref q_3) (ty := (.array .int)) (C := RX6) (T := TX6) (N := 26) hx hb ht wu_X6 tyX6 tyX6_ok nmX6 hown hK hP hD hS 0 rfl rfl 6 (by decide) (ht _ wk_X6_20) (fun _ h9 => h9) rfl hin rfl (by decide +kernel) rfl rfl (Nat.le_of_ble_eq_true rfl) dX6_init_30 (fun H locs hP hD hS => ?_)
  have hP : gP E (gW [[(h0, .inr (6, [.int 3, .int 0, .ref q_1, .int 0, .int 0, .ref q_2, .ref q_3, .null, .null, .int 0, .int 0, .null, .null, .null, .int 0, .null, .int 0, .null, .null, .long 0, .int 0, .int 0, .int 0, .int 0, .null, .null]))], [bInt E q_1 6 (fun _ => 0)], [bInt E q_2 6 (fun _ => 0)], [bInt E q_3 32 (fun _ => 0)]]) H := hP
  have hD : va_D A (gW [[(h0, .inr (6, [.int 3, .int 0, .ref q_1, .int 0, .int 0, .ref q_2, .ref q_3, .null, .null, .int 0, .int 0, .null, .null, .null, .int 0, .null, .int 0, .null, .null, .long 0, .int 0, .int 0, .int 0, .int 0, .null, .null]))], [bInt E q_1 6 (fun _ => 0)], [bInt E q_2 6 (fun _ => 0)], [bInt E q_3 32 (fun _ => 0)]]) := hD
  refine lv_aload_n hx hb dX6_init_33 rfl (lv_at hl 0 rfl) ?_
  refine lv_bipush (v := 32) hx hb dX6_init_34 (by decide) ?_
  refine va_newa (atype := .int) (ty := .int) (n := 32) (N' := 32) (a0 := (32, .inl (fun _ => 0))) hx hb (ht _ wa_int) rfl hK hP hD hS hA (fun _ => rfl) (by decide) (by decide) (Nat.le_of_ble_eq_true rfl) (Nat.le_of_ble_eq_true rfl) (Nat.le_of_ble_eq_true rfl) dX6_init_36 (fun q_4 cA H hK4 hP hD hS => ?_)
  obtain rfl := gK_int hK4
  clear hK4
  have hP := gP_push hP
  have hD := gD_push hD
  have hP : gP E (gW [[(h0, .inr (6, [.int 3, .int 0, .ref q_1, .int 0, .int 0, .ref q_2, .ref q_3, .null, .null, .int 0, .int 0, .null, .null, .null, .int 0, .null, .int 0, .null, .null, .long 0, .int 0, .int 0, .int 0, .int 0, .null, .null]))], [bInt E q_1 6 (fun _ => 0)], [bInt E q_2 6 (fun _ => 0)], [bInt E q_3 32 (fun _ => 0)], [bInt E q_4 32 (fun _ => 0)]]) H := hP
  have hD : va_D A (gW [[(h0, .inr (6, [.int 3, .int 0, .ref q_1, .int 0, .int 0, .ref q_2, .ref q_3, .null, .null, .int 0, .int 0, .null, .null, .null, .int 0, .null, .int 0, .null, .null, .long 0, .int 0, .int 0, .int 0, .int 0, .null, .null]))], [bInt E q_1 6 (fun _ => 0)], [bInt E q_2 6 (fun _ => 0)], [bInt E q_3 32 (fun _ => 0)], [bInt E q_4 32 (fun _ => 0)]]) := hD
  refine va_putF (D := (E.1, E.2.1)) (ci := 6) (v := .ref q_4) (ty := (.array .int)) (C := RX6) (T := TX6) (N := 26) hx hb ht wu_X6 tyX6 tyX6_ok nmX6 hown hK hP hD hS 0 rfl rfl 7 (by decide) (ht _ wk_X6_23) (fun _ h9 => h9) rfl hin rfl (by decide +kernel) rfl rfl (Nat.le_of_ble_eq_true rfl) dX6_init_38 (fun H locs hP hD hS => ?_)
  have hP : gP E (gW [[(h0, .inr (6, [.int 3, .int 0, .ref q_1, .int 0, .int 0, .ref q_2, .ref q_3, .ref q_4, .null, .int 0, .int 0, .null, .null, .null, .int 0, .null, .int 0, .null, .null, .long 0, .int 0, .int 0, .int 0, .int 0, .null, .null]))], [bInt E q_1 6 (fun _ => 0)], [bInt E q_2 6 (fun _ => 0)], [bInt E q_3 32 (fun _ => 0)], [bInt E q_4 32 (fun _ => 0)]]) H := hP
  have hD : va_D A (gW [[(h0, .inr (6, [.int 3, .int 0, .ref q_1, .int 0, .int 0, .ref q_2, .ref q_3, .ref q_4, .null, .int 0, .int 0, .null, .null, .null, .int 0, .null, .int 0, .null, .null, .long 0, .int 0, .int 0, .int 0, .int 0, .null, .null]))], [bInt E q_1 6 (fun _ => 0)], [bInt E q_2 6 (fun _ => 0)], [bInt E q_3 32 (fun _ => 0)], [bInt E q_4 32 (fun _ => 0)]]) := hD
  refine lv_aload_n hx hb dX6_init_41 rfl (lv_at hl 0 rfl) ?_
  refine lv_sipush (v := 320) hx hb dX6_init_42 (by decide) ?_
  refine va_newa (atype := .int) (ty := .int) (n := 320) (N' := 320) (a0 := (320, .inl (fun _ => 0))) hx hb (ht _ wa_int) rfl hK hP hD hS hA (fun _ => rfl) (by decide) (by decide) (Nat.le_of_ble_eq_true rfl) (Nat.le_of_ble_eq_true rfl) (Nat.le_of_ble_eq_true rfl) dX6_init_45 (fun q_5 cA H hK4 hP hD hS => ?_)
  obtain rfl := gK_int hK4
  clear hK4
  have hP := gP_push hP
  have hD := gD_push hD
  have hP : gP E (gW [[(h0, .inr (6, [.int 3, .int 0, .ref q_1, .int 0, .int 0, .ref q_2, .ref q_3, .ref q_4, .null, .int 0, .int 0, .null, .null, .null, .int 0, .null, .int 0, .null, .null, .long 0, .int 0, .int 0, .int 0, .int 0, .null, .null]))], [bInt E q_1 6 (fun _ => 0)], [bInt E q_2 6 (fun _ => 0)], [bInt E q_3 32 (fun _ => 0)], [bInt E q_4 32 (fun _ => 0)], [bInt E q_5 320 (fun _ => 0)]]) H := hP
  have hD : va_D A (gW [[(h0, .inr (6, [.int 3, .int 0, .ref q_1, .int 0, .int 0, .ref q_2, .ref q_3, .ref q_4, .null, .int 0, .int 0, .null, .null, .null, .int 0, .null, .int 0, .null, .null, .long 0, .int 0, .int 0, .int 0, .int 0, .null, .null]))], [bInt E q_1 6 (fun _ => 0)], [bInt E q_2 6 (fun _ => 0)], [bInt E q_3 32 (fun _ => 0)], [bInt E q_4 32 (fun _ => 0)], [bInt E q_5 320 (fun _ => 0)]]) := hD
  refine va_putF (D := (E.1, E.2.1)) (ci := 6) (v := .ref q_5) (ty := (.array .int)) (C := RX6) (T := TX6) (N := 26) hx hb ht wu_X6 tyX6 tyX6_ok nmX6 hown hK hP hD hS 0 rfl rfl 8 (by decide) (ht _ wk_X6_26) (fun _ h9 => h9) rfl hin rfl (by decide +kernel) rfl rfl (Nat.le_of_ble_eq_true rfl) dX6_init_47 (fun H locs hP hD hS => ?_)
  have hP : gP E (gW [[(h0, .inr (6, [.int 3, .int 0, .ref q_1, .int 0, .int 0, .ref q_2, .ref q_3, .ref q_4, .ref q_5, .int 0, .int 0, .null, .null, .null, .int 0, .null, .int 0, .null, .null, .long 0, .int 0, .int 0, .int 0, .int 0, .null, .null]))], [bInt E q_1 6 (fun _ => 0)], [bInt E q_2 6 (fun _ => 0)], [bInt E q_3 32 (fun _ => 0)], [bInt E q_4 32 (fun _ => 0)], [bInt E q_5 320 (fun _ => 0)]]) H := hP
  have hD : va_D A (gW [[(h0, .inr (6, [.int 3, .int 0, .ref q_1, .int 0, .int 0, .ref q_2, .ref q_3, .ref q_4, .ref q_5, .int 0, .int 0, .null, .null, .null, .int 0, .null, .int 0, .null, .null, .long 0, .int 0, .int 0, .int 0, .int 0, .null, .null]))], [bInt E q_1 6 (fun _ => 0)], [bInt E q_2 6 (fun _ => 0)], [bInt E q_3 32 (fun _ => 0)], [bInt E q_4 32 (fun _ => 0)], [bInt E q_5 320 (fun _ => 0)]]) := hD
  refine lv_aload_n hx hb dX6_init_50 rfl (lv_at hl 0 rfl) ?_
  refine lv_bipush (v := 64) hx hb dX6_init_51 (by decide) ?_
  refine va_newa (atype := .int) (ty := .int) (n := 64) (N' := 64) (a0 := (64, .inl (fun _ => 0))) hx hb (ht _ wa_int) rfl hK hP hD hS hA (fun _ => rfl) (by decide) (by decide) (Nat.le_of_ble_eq_true rfl) (Nat.le_of_ble_eq_true rfl) (Nat.le_of_ble_eq_true rfl) dX6_init_53 (fun q_6 cA H hK4 hP hD hS => ?_)
  obtain rfl := gK_int hK4
  clear hK4
  have hP := gP_push hP
  have hD := gD_push hD
  have hP : gP E (gW [[(h0, .inr (6, [.int 3, .int 0, .ref q_1, .int 0, .int 0, .ref q_2, .ref q_3, .ref q_4, .ref q_5, .int 0, .int 0, .null, .null, .null, .int 0, .null, .int 0, .null, .null, .long 0, .int 0, .int 0, .int 0, .int 0, .null, .null]))], [bInt E q_1 6 (fun _ => 0)], [bInt E q_2 6 (fun _ => 0)], [bInt E q_3 32 (fun _ => 0)], [bInt E q_4 32 (fun _ => 0)], [bInt E q_5 320 (fun _ => 0)], [bInt E q_6 64 (fun _ => 0)]]) H := hP
  have hD : va_D A (gW [[(h0, .inr (6, [.int 3, .int 0, .ref q_1, .int 0, .int 0, .ref q_2, .ref q_3, .ref q_4, .ref q_5, .int 0, .int 0, .null, .null, .null, .int 0, .null, .int 0, .null, .null, .long 0, .int 0, .int 0, .int 0, .int 0, .null, .null]))], [bInt E q_1 6 (fun _ => 0)], [bInt E q_2 6 (fun _ => 0)], [bInt E q_3 32 (fun _ => 0)], [bInt E q_4 32 (fun _ => 0)], [bInt E q_5 320 (fun _ => 0)], [bInt E q_6 64 (fun _ => 0)]]) := hD
  refine va_putF (D := (E.1, E.2.1)) (ci := 6) (v := .ref q_6) (ty := (.array .int)) (C := RX6) (T := TX6) (N := 26) hx hb ht wu_X6 tyX6 tyX6_ok nmX6 hown hK hP hD hS 0 rfl rfl 11 (by decide) (ht _ wk_X6_29) (fun _ h9 => h9) rfl hin rfl (by decide +kernel) rfl rfl (Nat.le_of_ble_eq_true rfl) dX6_init_55 (fun H locs hP hD hS => ?_)
  have hP : gP E (gW [[(h0, .inr (6, [.int 3, .int 0, .ref q_1, .int 0, .int 0, .ref q_2, .ref q_3, .ref q_4, .ref q_5, .int 0, .int 0, .ref q_6, .null, .null, .int 0, .null, .int 0, .null, .null, .long 0, .int 0, .int 0, .int 0, .int 0, .null, .null]))], [bInt E q_1 6 (fun _ => 0)], [bInt E q_2 6 (fun _ => 0)], [bInt E q_3 32 (fun _ => 0)], [bInt E q_4 32 (fun _ => 0)], [bInt E q_5 320 (fun _ => 0)], [bInt E q_6 64 (fun _ => 0)]]) H := hP
  have hD : va_D A (gW [[(h0, .inr (6, [.int 3, .int 0, .ref q_1, .int 0, .int 0, .ref q_2, .ref q_3, .ref q_4, .ref q_5, .int 0, .int 0, .ref q_6, .null, .null, .int 0, .null, .int 0, .null, .null, .long 0, .int 0, .int 0, .int 0, .int 0, .null, .null]))], [bInt E q_1 6 (fun _ => 0)], [bInt E q_2 6 (fun _ => 0)], [bInt E q_3 32 (fun _ => 0)], [bInt E q_4 32 (fun _ => 0)], [bInt E q_5 320 (fun _ => 0)], [bInt E q_6 64 (fun _ => 0)]]) := hD
  refine lv_aload_n hx hb dX6_init_58 rfl (lv_at hl 0 rfl) ?_
  refine lv_iconst (v := 2) hx hb dX6_init_59 (by decide) ?_
  refine va_newa (atype := .int) (ty := .int) (n := 2) (N' := 2) (a0 := (2, .inl (fun _ => 0))) hx hb (ht _ wa_int) rfl hK hP hD hS hA (fun _ => rfl) (by decide) (by decide) (Nat.le_of_ble_eq_true rfl) (Nat.le_of_ble_eq_true rfl) (Nat.le_of_ble_eq_true rfl) dX6_init_60 (fun q_7 cA H hK4 hP hD hS => ?_)
  obtain rfl := gK_int hK4
  clear hK4
  have hP := gP_push hP
  have hD := gD_push hD
  have hP : gP E (gW [[(h0, .inr (6, [.int 3, .int 0, .ref q_1, .int 0, .int 0, .ref q_2, .ref q_3, .ref q_4, .ref q_5, .int 0, .int 0, .ref q_6, .null, .null, .int 0, .null, .int 0, .null, .null, .long 0, .int 0, .int 0, .int 0, .int 0, .null, .null]))], [bInt E q_1 6 (fun _ => 0)], [bInt E q_2 6 (fun _ => 0)], [bInt E q_3 32 (fun _ => 0)], [bInt E q_4 32 (fun _ => 0)], [bInt E q_5 320 (fun _ => 0)], [bInt E q_6 64 (fun _ => 0)], [bInt E q_7 2 (fun _ => 0)]]) H := hP
  have hD : va_D A (gW [[(h0, .inr (6, [.int 3, .int 0, .ref q_1, .int 0, .int 0, .ref q_2, .ref q_3, .ref q_4, .ref q_5, .int 0, .int 0, .ref q_6, .null, .null, .int 0, .null, .int 0, .null, .null, .long 0, .int 0, .int 0, .int 0, .int 0, .null, .null]))], [bInt E q_1 6 (fun _ => 0)], [bInt E q_2 6 (fun _ => 0)], [bInt E q_3 32 (fun _ => 0)], [bInt E q_4 32 (fun _ => 0)], [bInt E q_5 320 (fun _ => 0)], [bInt E q_6 64 (fun _ => 0)], [bInt E q_7 2 (fun _ => 0)]]) := hD
  refine va_putF (D := (E.1, E.2.1)) (ci := 6) (v := .ref q_7) (ty := (.array .int)) (C := RX6) (T := TX6) (N := 26) hx hb ht wu_X6 tyX6 tyX6_ok nmX6 hown hK hP hD hS 0 rfl rfl 12 (by decide) (ht _ wk_X6_32) (fun _ h9 => h9) rfl hin rfl (by decide +kernel) rfl rfl (Nat.le_of_ble_eq_true rfl) dX6_init_62 (fun H locs hP hD hS => ?_)
  have hP : gP E (gW [[(h0, .inr (6, [.int 3, .int 0, .ref q_1, .int 0, .int 0, .ref q_2, .ref q_3, .ref q_4, .ref q_5, .int 0, .int 0, .ref q_6, .ref q_7, .null, .int 0, .null, .int 0, .null, .null, .long 0, .int 0, .int 0, .int 0, .int 0, .null, .null]))], [bInt E q_1 6 (fun _ => 0)], [bInt E q_2 6 (fun _ => 0)], [bInt E q_3 32 (fun _ => 0)], [bInt E q_4 32 (fun _ => 0)], [bInt E q_5 320 (fun _ => 0)], [bInt E q_6 64 (fun _ => 0)], [bInt E q_7 2 (fun _ => 0)]]) H := hP
  have hD : va_D A (gW [[(h0, .inr (6, [.int 3, .int 0, .ref q_1, .int 0, .int 0, .ref q_2, .ref q_3, .ref q_4, .ref q_5, .int 0, .int 0, .ref q_6, .ref q_7, .null, .int 0, .null, .int 0, .null, .null, .long 0, .int 0, .int 0, .int 0, .int 0, .null, .null]))], [bInt E q_1 6 (fun _ => 0)], [bInt E q_2 6 (fun _ => 0)], [bInt E q_3 32 (fun _ => 0)], [bInt E q_4 32 (fun _ => 0)], [bInt E q_5 320 (fun _ => 0)], [bInt E q_6 64 (fun _ => 0)], [bInt E q_7 2 (fun _ => 0)]]) := hD
  refine lv_aload_n hx hb dX6_init_65 rfl (lv_at hl 0 rfl) ?_
  refine lv_sipush (v := 640) hx hb dX6_init_66 (by decide) ?_
  refine va_newa (atype := .int) (ty := .int) (n := 640) (N' := 640) (a0 := (640, .inl (fun _ => 0))) hx hb (ht _ wa_int) rfl hK hP hD hS hA (fun _ => rfl) (by decide) (by decide) (Nat.le_of_ble_eq_true rfl) (Nat.le_of_ble_eq_true rfl) (Nat.le_of_ble_eq_true rfl) dX6_init_69 (fun q_8 cA H hK4 hP hD hS => ?_)
  obtain rfl := gK_int hK4
  clear hK4
  have hP := gP_push hP
  have hD := gD_push hD
  have hP : gP E (gW [[(h0, .inr (6, [.int 3, .int 0, .ref q_1, .int 0, .int 0, .ref q_2, .ref q_3, .ref q_4, .ref q_5, .int 0, .int 0, .ref q_6, .ref q_7, .null, .int 0, .null, .int 0, .null, .null, .long 0, .int 0, .int 0, .int 0, .int 0, .null, .null]))], [bInt E q_1 6 (fun _ => 0)], [bInt E q_2 6 (fun _ => 0)], [bInt E q_3 32 (fun _ => 0)], [bInt E q_4 32 (fun _ => 0)], [bInt E q_5 320 (fun _ => 0)], [bInt E q_6 64 (fun _ => 0)], [bInt E q_7 2 (fun _ => 0)], [bInt E q_8 640 (fun _ => 0)]]) H := hP
  have hD : va_D A (gW [[(h0, .inr (6, [.int 3, .int 0, .ref q_1, .int 0, .int 0, .ref q_2, .ref q_3, .ref q_4, .ref q_5, .int 0, .int 0, .ref q_6, .ref q_7, .null, .int 0, .null, .int 0, .null, .null, .long 0, .int 0, .int 0, .int 0, .int 0, .null, .null]))], [bInt E q_1 6 (fun _ => 0)], [bInt E q_2 6 (fun _ => 0)], [bInt E q_3 32 (fun _ => 0)], [bInt E q_4 32 (fun _ => 0)], [bInt E q_5 320 (fun _ => 0)], [bInt E q_6 64 (fun _ => 0)], [bInt E q_7 2 (fun _ => 0)], [bInt E q_8 640 (fun _ => 0)]]) := hD
  refine va_putF (D := (E.1, E.2.1)) (ci := 6) (v := .ref q_8) (ty := (.array .int)) (C := RX6) (T := TX6) (N := 26) hx hb ht wu_X6 tyX6 tyX6_ok nmX6 hown hK hP hD hS 0 rfl rfl 13 (by decide) (ht _ wk_X6_35) (fun _ h9 => h9) rfl hin rfl (by decide +kernel) rfl rfl (Nat.le_of_ble_eq_true rfl) dX6_init_71 (fun H locs hP hD hS => ?_)
  have hP : gP E (gW [[(h0, .inr (6, [.int 3, .int 0, .ref q_1, .int 0, .int 0, .ref q_2, .ref q_3, .ref q_4, .ref q_5, .int 0, .int 0, .ref q_6, .ref q_7, .ref q_8, .int 0, .null, .int 0, .null, .null, .long 0, .int 0, .int 0, .int 0, .int 0, .null, .null]))], [bInt E q_1 6 (fun _ => 0)], [bInt E q_2 6 (fun _ => 0)], [bInt E q_3 32 (fun _ => 0)], [bInt E q_4 32 (fun _ => 0)], [bInt E q_5 320 (fun _ => 0)], [bInt E q_6 64 (fun _ => 0)], [bInt E q_7 2 (fun _ => 0)], [bInt E q_8 640 (fun _ => 0)]]) H := hP
  have hD : va_D A (gW [[(h0, .inr (6, [.int 3, .int 0, .ref q_1, .int 0, .int 0, .ref q_2, .ref q_3, .ref q_4, .ref q_5, .int 0, .int 0, .ref q_6, .ref q_7, .ref q_8, .int 0, .null, .int 0, .null, .null, .long 0, .int 0, .int 0, .int 0, .int 0, .null, .null]))], [bInt E q_1 6 (fun _ => 0)], [bInt E q_2 6 (fun _ => 0)], [bInt E q_3 32 (fun _ => 0)], [bInt E q_4 32 (fun _ => 0)], [bInt E q_5 320 (fun _ => 0)], [bInt E q_6 64 (fun _ => 0)], [bInt E q_7 2 (fun _ => 0)], [bInt E q_8 640 (fun _ => 0)]]) := hD
  refine lv_aload_n hx hb dX6_init_74 rfl (lv_at hl 0 rfl) ?_
  refine lv_sipush (v := 150) hx hb dX6_init_75 (by decide) ?_
  refine va_newa (atype := .int) (ty := .int) (n := 150) (N' := 150) (a0 := (150, .inl (fun _ => 0))) hx hb (ht _ wa_int) rfl hK hP hD hS hA (fun _ => rfl) (by decide) (by decide) (Nat.le_of_ble_eq_true rfl) (Nat.le_of_ble_eq_true rfl) (Nat.le_of_ble_eq_true rfl) dX6_init_78 (fun q_9 cA H hK4 hP hD hS => ?_)
  obtain rfl := gK_int hK4
  clear hK4
  have hP := gP_push hP
  have hD := gD_push hD
  have hP : gP E (gW [[(h0, .inr (6, [.int 3, .int 0, .ref q_1, .int 0, .int 0, .ref q_2, .ref q_3, .ref q_4, .ref q_5, .int 0, .int 0, .ref q_6, .ref q_7, .ref q_8, .int 0, .null, .int 0, .null, .null, .long 0, .int 0, .int 0, .int 0, .int 0, .null, .null]))], [bInt E q_1 6 (fun _ => 0)], [bInt E q_2 6 (fun _ => 0)], [bInt E q_3 32 (fun _ => 0)], [bInt E q_4 32 (fun _ => 0)], [bInt E q_5 320 (fun _ => 0)], [bInt E q_6 64 (fun _ => 0)], [bInt E q_7 2 (fun _ => 0)], [bInt E q_8 640 (fun _ => 0)], [bInt E q_9 150 (fun _ => 0)]]) H := hP
  have hD : va_D A (gW [[(h0, .inr (6, [.int 3, .int 0, .ref q_1, .int 0, .int 0, .ref q_2, .ref q_3, .ref q_4, .ref q_5, .int 0, .int 0, .ref q_6, .ref q_7, .ref q_8, .int 0, .null, .int 0, .null, .null, .long 0, .int 0, .int 0, .int 0, .int 0, .null, .null]))], [bInt E q_1 6 (fun _ => 0)], [bInt E q_2 6 (fun _ => 0)], [bInt E q_3 32 (fun _ => 0)], [bInt E q_4 32 (fun _ => 0)], [bInt E q_5 320 (fun _ => 0)], [bInt E q_6 64 (fun _ => 0)], [bInt E q_7 2 (fun _ => 0)], [bInt E q_8 640 (fun _ => 0)], [bInt E q_9 150 (fun _ => 0)]]) := hD
  refine va_putF (D := (E.1, E.2.1)) (ci := 6) (v := .ref q_9) (ty := (.array .int)) (C := RX6) (T := TX6) (N := 26) hx hb ht wu_X6 tyX6 tyX6_ok nmX6 hown hK hP hD hS 0 rfl rfl 15 (by decide) (ht _ wk_X6_38) (fun _ h9 => h9) rfl hin rfl (by decide +kernel) rfl rfl (Nat.le_of_ble_eq_true rfl) dX6_init_80 (fun H locs hP hD hS => ?_)
  have hP : gP E (gW [[(h0, .inr (6, [.int 3, .int 0, .ref q_1, .int 0, .int 0, .ref q_2, .ref q_3, .ref q_4, .ref q_5, .int 0, .int 0, .ref q_6, .ref q_7, .ref q_8, .int 0, .ref q_9, .int 0, .null, .null, .long 0, .int 0, .int 0, .int 0, .int 0, .null, .null]))], [bInt E q_1 6 (fun _ => 0)], [bInt E q_2 6 (fun _ => 0)], [bInt E q_3 32 (fun _ => 0)], [bInt E q_4 32 (fun _ => 0)], [bInt E q_5 320 (fun _ => 0)], [bInt E q_6 64 (fun _ => 0)], [bInt E q_7 2 (fun _ => 0)], [bInt E q_8 640 (fun _ => 0)], [bInt E q_9 150 (fun _ => 0)]]) H := hP
  have hD : va_D A (gW [[(h0, .inr (6, [.int 3, .int 0, .ref q_1, .int 0, .int 0, .ref q_2, .ref q_3, .ref q_4, .ref q_5, .int 0, .int 0, .ref q_6, .ref q_7, .ref q_8, .int 0, .ref q_9, .int 0, .null, .null, .long 0, .int 0, .int 0, .int 0, .int 0, .null, .null]))], [bInt E q_1 6 (fun _ => 0)], [bInt E q_2 6 (fun _ => 0)], [bInt E q_3 32 (fun _ => 0)], [bInt E q_4 32 (fun _ => 0)], [bInt E q_5 320 (fun _ => 0)], [bInt E q_6 64 (fun _ => 0)], [bInt E q_7 2 (fun _ => 0)], [bInt E q_8 640 (fun _ => 0)], [bInt E q_9 150 (fun _ => 0)]]) := hD
  refine lv_aload_n hx hb dX6_init_83 rfl (lv_at hl 0 rfl) ?_
  refine lv_iconst (v := 4) hx hb dX6_init_84 (by decide) ?_
  refine va_newa (atype := .int) (ty := .int) (n := 4) (N' := 4) (a0 := (4, .inl (fun _ => 0))) hx hb (ht _ wa_int) rfl hK hP hD hS hA (fun _ => rfl) (by decide) (by decide) (Nat.le_of_ble_eq_true rfl) (Nat.le_of_ble_eq_true rfl) (Nat.le_of_ble_eq_true rfl) dX6_init_85 (fun q_10 cA H hK4 hP hD hS => ?_)
  obtain rfl := gK_int hK4
  clear hK4
  have hP := gP_push hP
  have hD := gD_push hD
  have hP : gP E (gW [[(h0, .inr (6, [.int 3, .int 0, .ref q_1, .int 0, .int 0, .ref q_2, .ref q_3, .ref q_4, .ref q_5, .int 0, .int 0, .ref q_6, .ref q_7, .ref q_8, .int 0, .ref q_9, .int 0, .null, .null, .long 0, .int 0, .int 0, .int 0, .int 0, .null, .null]))], [bInt E q_1 6 (fun _ => 0)], [bInt E q_2 6 (fun _ => 0)], [bInt E q_3 32 (fun _ => 0)], [bInt E q_4 32 (fun _ => 0)], [bInt E q_5 320 (fun _ => 0)], [bInt E q_6 64 (fun _ => 0)], [bInt E q_7 2 (fun _ => 0)], [bInt E q_8 640 (fun _ => 0)], [bInt E q_9 150 (fun _ => 0)], [bInt E q_10 4 (fun _ => 0)]]) H := hP
  have hD : va_D A (gW [[(h0, .inr (6, [.int 3, .int 0, .ref q_1, .int 0, .int 0, .ref q_2, .ref q_3, .ref q_4, .ref q_5, .int 0, .int 0, .ref q_6, .ref q_7, .ref q_8, .int 0, .ref q_9, .int 0, .null, .null, .long 0, .int 0, .int 0, .int 0, .int 0, .null, .null]))], [bInt E q_1 6 (fun _ => 0)], [bInt E q_2 6 (fun _ => 0)], [bInt E q_3 32 (fun _ => 0)], [bInt E q_4 32 (fun _ => 0)], [bInt E q_5 320 (fun _ => 0)], [bInt E q_6 64 (fun _ => 0)], [bInt E q_7 2 (fun _ => 0)], [bInt E q_8 640 (fun _ => 0)], [bInt E q_9 150 (fun _ => 0)], [bInt E q_10 4 (fun _ => 0)]]) := hD
  refine va_putF (D := (E.1, E.2.1)) (ci := 6) (v := .ref q_10) (ty := (.array .int)) (C := RX6) (T := TX6) (N := 26) hx hb ht wu_X6 tyX6 tyX6_ok nmX6 hown hK hP hD hS 0 rfl rfl 17 (by decide) (ht _ wk_X6_41) (fun _ h9 => h9) rfl hin rfl (by decide +kernel) rfl rfl (Nat.le_of_ble_eq_true rfl) dX6_init_87 (fun H locs hP hD hS => ?_)
  have hP : gP E (gW [[(h0, .inr (6, [.int 3, .int 0, .ref q_1, .int 0, .int 0, .ref q_2, .ref q_3, .ref q_4, .ref q_5, .int 0, .int 0, .ref q_6, .ref q_7, .ref q_8, .int 0, .ref q_9, .int 0, .ref q_10, .null, .long 0, .int 0, .int 0, .int 0, .int 0, .null, .null]))], [bInt E q_1 6 (fun _ => 0)], [bInt E q_2 6 (fun _ => 0)], [bInt E q_3 32 (fun _ => 0)], [bInt E q_4 32 (fun _ => 0)], [bInt E q_5 320 (fun _ => 0)], [bInt E q_6 64 (fun _ => 0)], [bInt E q_7 2 (fun _ => 0)], [bInt E q_8 640 (fun _ => 0)], [bInt E q_9 150 (fun _ => 0)], [bInt E q_10 4 (fun _ => 0)]]) H := hP
  have hD : va_D A (gW [[(h0, .inr (6, [.int 3, .int 0, .ref q_1, .int 0, .int 0, .ref q_2, .ref q_3, .ref q_4, .ref q_5, .int 0, .int 0, .ref q_6, .ref q_7, .ref q_8, .int 0, .ref q_9, .int 0, .ref q_10, .null, .long 0, .int 0, .int 0, .int 0, .int 0, .null, .null]))], [bInt E q_1 6 (fun _ => 0)], [bInt E q_2 6 (fun _ => 0)], [bInt E q_3 32 (fun _ => 0)], [bInt E q_4 32 (fun _ => 0)], [bInt E q_5 320 (fun _ => 0)], [bInt E q_6 64 (fun _ => 0)], [bInt E q_7 2 (fun _ => 0)], [bInt E q_8 640 (fun _ => 0)], [bInt E q_9 150 (fun _ => 0)], [bInt E q_10 4 (fun _ => 0)]]) := hD
  refine lv_aload_n hx hb dX6_init_90 rfl (lv_at hl 0 rfl) ?_
  refine lv_iconst (v := 4) hx hb dX6_init_91 (by decide) ?_
  refine va_newa (atype := .int) (ty := .int) (n := 4) (N' := 4) (a0 := (4, .inl (fun _ => 0))) hx hb (ht _ wa_int) rfl hK hP hD hS hA (fun _ => rfl) (by decide) (by decide) (Nat.le_of_ble_eq_true rfl) (Nat.le_of_ble_eq_true rfl) (Nat.le_of_ble_eq_true rfl) dX6_init_92 (fun q_11 cA H hK4 hP hD hS => ?_)
  obtain rfl := gK_int hK4
  clear hK4
  have hP := gP_push hP
  have hD := gD_push hD
  have hP : gP E (gW [[(h0, .inr (6, [.int 3, .int 0, .ref q_1, .int 0, .int 0, .ref q_2, .ref q_3, .ref q_4, .ref q_5, .int 0, .int 0, .ref q_6, .ref q_7, .ref q_8, .int 0, .ref q_9, .int 0, .ref q_10, .null, .long 0, .int 0, .int 0, .int 0, .int 0, .null, .null]))], [bInt E q_1 6 (fun _ => 0)], [bInt E q_2 6 (fun _ => 0)], [bInt E q_3 32 (fun _ => 0)], [bInt E q_4 32 (fun _ => 0)], [bInt E q_5 320 (fun _ => 0)], [bInt E q_6 64 (fun _ => 0)], [bInt E q_7 2 (fun _ => 0)], [bInt E q_8 640 (fun _ => 0)], [bInt E q_9 150 (fun _ => 0)], [bInt E q_10 4 (fun _ => 0)], [bInt E q_11 4 (fun _ => 0)]]) H := hP
  have hD : va_D A (gW [[(h0, .inr (6, [.int 3, .int 0, .ref q_1, .int 0, .int 0, .ref q_2, .ref q_3, .ref q_4, .ref q_5, .int 0, .int 0, .ref q_6, .ref q_7, .ref q_8, .int 0, .ref q_9, .int 0, .ref q_10, .null, .long 0, .int 0, .int 0, .int 0, .int 0, .null, .null]))], [bInt E q_1 6 (fun _ => 0)], [bInt E q_2 6 (fun _ => 0)], [bInt E q_3 32 (fun _ => 0)], [bInt E q_4 32 (fun _ => 0)], [bInt E q_5 320 (fun _ => 0)], [bInt E q_6 64 (fun _ => 0)], [bInt E q_7 2 (fun _ => 0)], [bInt E q_8 640 (fun _ => 0)], [bInt E q_9 150 (fun _ => 0)], [bInt E q_10 4 (fun _ => 0)], [bInt E q_11 4 (fun _ => 0)]]) := hD
  refine va_putF (D := (E.1, E.2.1)) (ci := 6) (v := .ref q_11) (ty := (.array .int)) (C := RX6) (T := TX6) (N := 26) hx hb ht wu_X6 tyX6 tyX6_ok nmX6 hown hK hP hD hS 0 rfl rfl 18 (by decide) (ht _ wk_X6_44) (fun _ h9 => h9) rfl hin rfl (by decide +kernel) rfl rfl (Nat.le_of_ble_eq_true rfl) dX6_init_94 (fun H locs hP hD hS => ?_)
  have hP : gP E (gW [[(h0, .inr (6, [.int 3, .int 0, .ref q_1, .int 0, .int 0, .ref q_2, .ref q_3, .ref q_4, .ref q_5, .int 0, .int 0, .ref q_6, .ref q_7, .ref q_8, .int 0, .ref q_9, .int 0, .ref q_10, .ref q_11, .long 0, .int 0, .int 0, .int 0, .int 0, .null, .null]))], [bInt E q_1 6 (fun _ => 0)], [bInt E q_2 6 (fun _ => 0)], [bInt E q_3 32 (fun _ => 0)], [bInt E q_4 32 (fun _ => 0)], [bInt E q_5 320 (fun _ => 0)], [bInt E q_6 64 (fun _ => 0)], [bInt E q_7 2 (fun _ => 0)], [bInt E q_8 640 (fun _ => 0)], [bInt E q_9 150 (fun _ => 0)], [bInt E q_10 4 (fun _ => 0)], [bInt E q_11 4 (fun _ => 0)]]) H := hP
  have hD : va_D A (gW [[(h0, .inr (6, [.int 3, .int 0, .ref q_1, .int 0, .int 0, .ref q_2, .ref q_3, .ref q_4, .ref q_5, .int 0, .int 0, .ref q_6, .ref q_7, .ref q_8, .int 0, .ref q_9, .int 0, .ref q_10, .ref q_11, .long 0, .int 0, .int 0, .int 0, .int 0, .null, .null]))], [bInt E q_1 6 (fun _ => 0)], [bInt E q_2 6 (fun _ => 0)], [bInt E q_3 32 (fun _ => 0)], [bInt E q_4 32 (fun _ => 0)], [bInt E q_5 320 (fun _ => 0)], [bInt E q_6 64 (fun _ => 0)], [bInt E q_7 2 (fun _ => 0)], [bInt E q_8 640 (fun _ => 0)], [bInt E q_9 150 (fun _ => 0)], [bInt E q_10 4 (fun _ => 0)], [bInt E q_11 4 (fun _ => 0)]]) := hD
  refine lv_aload_n hx hb dX6_init_97 rfl (lv_at hl 0 rfl) ?_
  refine lv_sipush (v := 250) hx hb dX6_init_98 (by decide) ?_
  refine va_newa (atype := .int) (ty := .int) (n := 250) (N' := 250) (a0 := (250, .inl (fun _ => 0))) hx hb (ht _ wa_int) rfl hK hP hD hS hA (fun _ => rfl) (by decide) (by decide) (Nat.le_of_ble_eq_true rfl) (Nat.le_of_ble_eq_true rfl) (Nat.le_of_ble_eq_true rfl) dX6_init_101 (fun q_12 cA H hK4 hP hD hS => ?_)
  obtain rfl := gK_int hK4
  clear hK4
  have hP := gP_push hP
  have hD := gD_push hD
  have hP : gP E (gW [[(h0, .inr (6, [.int 3, .int 0, .ref q_1, .int 0, .int 0, .ref q_2, .ref q_3, .ref q_4, .ref q_5, .int 0, .int 0, .ref q_6, .ref q_7, .ref q_8, .int 0, .ref q_9, .int 0, .ref q_10, .ref q_11, .long 0, .int 0, .int 0, .int 0, .int 0, .null, .null]))], [bInt E q_1 6 (fun _ => 0)], [bInt E q_2 6 (fun _ => 0)], [bInt E q_3 32 (fun _ => 0)], [bInt E q_4 32 (fun _ => 0)], [bInt E q_5 320 (fun _ => 0)], [bInt E q_6 64 (fun _ => 0)], [bInt E q_7 2 (fun _ => 0)], [bInt E q_8 640 (fun _ => 0)], [bInt E q_9 150 (fun _ => 0)], [bInt E q_10 4 (fun _ => 0)], [bInt E q_11 4 (fun _ => 0)], [bInt E q_12 250 (fun _ => 0)]]) H := hP
  have hD : va_D A (gW [[(h0, .inr (6, [.int 3, .int 0, .ref q_1, .int 0, .int 0, .ref q_2, .ref q_3, .ref q_4, .ref q_5, .int 0, .int 0, .ref q_6, .ref q_7, .ref q_8, .int 0, .ref q_9, .int 0, .ref q_10, .ref q_11, .long 0, .int 0, .int 0, .int 0, .int 0, .null, .null]))], [bInt E q_1 6 (fun _ => 0)], [bInt E q_2 6 (fun _ => 0)], [bInt E q_3 32 (fun _ => 0)], [bInt E q_4 32 (fun _ => 0)], [bInt E q_5 320 (fun _ => 0)], [bInt E q_6 64 (fun _ => 0)], [bInt E q_7 2 (fun _ => 0)], [bInt E q_8 640 (fun _ => 0)], [bInt E q_9 150 (fun _ => 0)], [bInt E q_10 4 (fun _ => 0)], [bInt E q_11 4 (fun _ => 0)], [bInt E q_12 250 (fun _ => 0)]]) := hD
  refine va_putF (D := (E.1, E.2.1)) (ci := 6) (v := .ref q_12) (ty := (.array .int)) (C := RX6) (T := TX6) (N := 26) hx hb ht wu_X6 tyX6 tyX6_ok nmX6 hown hK hP hD hS 0 rfl rfl 24 (by decide) (ht _ wk_X6_47) (fun _ h9 => h9) rfl hin rfl (by decide +kernel) rfl rfl (Nat.le_of_ble_eq_true rfl) dX6_init_103 (fun H locs hP hD hS => ?_)
  have hP : gP E (gW [[(h0, .inr (6, [.int 3, .int 0, .ref q_1, .int 0, .int 0, .ref q_2, .ref q_3, .ref q_4, .ref q_5, .int 0, .int 0, .ref q_6, .ref q_7, .ref q_8, .int 0, .ref q_9, .int 0, .ref q_10, .ref q_11, .long 0, .int 0, .int 0, .int 0, .int 0, .ref q_12, .null]))], [bInt E q_1 6 (fun _ => 0)], [bInt E q_2 6 (fun _ => 0)], [bInt E q_3 32 (fun _ => 0)], [bInt E q_4 32 (fun _ => 0)], [bInt E q_5 320 (fun _ => 0)], [bInt E q_6 64 (fun _ => 0)], [bInt E q_7 2 (fun _ => 0)], [bInt E q_8 640 (fun _ => 0)], [bInt E q_9 150 (fun _ => 0)], [bInt E q_10 4 (fun _ => 0)], [bInt E q_11 4 (fun _ => 0)], [bInt E q_12 250 (fun _ => 0)]]) H := hP
  have hD : va_D A (gW [[(h0, .inr (6, [.int 3, .int 0, .ref q_1, .int 0, .int 0, .ref q_2, .ref q_3, .ref q_4, .ref q_5, .int 0, .int 0, .ref q_6, .ref q_7, .ref q_8, .int 0, .ref q_9, .int 0, .ref q_10, .ref q_11, .long 0, .int 0, .int 0, .int 0, .int 0, .ref q_12, .null]))], [bInt E q_1 6 (fun _ => 0)], [bInt E q_2 6 (fun _ => 0)], [bInt E q_3 32 (fun _ => 0)], [bInt E q_4 32 (fun _ => 0)], [bInt E q_5 320 (fun _ => 0)], [bInt E q_6 64 (fun _ => 0)], [bInt E q_7 2 (fun _ => 0)], [bInt E q_8 640 (fun _ => 0)], [bInt E q_9 150 (fun _ => 0)], [bInt E q_10 4 (fun _ => 0)], [bInt E q_11 4 (fun _ => 0)], [bInt E q_12 250 (fun _ => 0)]]) := hD
  refine lv_aload_n hx hb dX6_init_106 rfl (lv_at hl 0 rfl) ?_
  refine lv_iconst (v := 4) hx hb dX6_init_107 (by decide) ?_
  refine va_newa (atype := .int) (ty := .int) (n := 4) (N' := 4) (a0 := (4, .inl (fun _ => 0))) hx hb (ht _ wa_int) rfl hK hP hD hS hA (fun _ => rfl) (by decide) (by decide) (Nat.le_of_ble_eq_true rfl) (Nat.le_of_ble_eq_true rfl) (Nat.le_of_ble_eq_true rfl) dX6_init_108 (fun q_13 cA H hK4 hP hD hS => ?_)
  obtain rfl := gK_int hK4
  clear hK4
  have hP := gP_push hP
  have hD := gD_push hD
  have hP : gP E (gW [[(h0, .inr (6, [.int 3, .int 0, .ref q_1, .int 0, .int 0, .ref q_2, .ref q_3, .ref q_4, .ref q_5, .int 0, .int 0, .ref q_6, .ref q_7, .ref q_8, .int 0, .ref q_9, .int 0, .ref q_10, .ref q_11, .long 0, .int 0, .int 0, .int 0, .int 0, .ref q_12, .null]))], [bInt E q_1 6 (fun _ => 0)], [bInt E q_2 6 (fun _ => 0)], [bInt E q_3 32 (fun _ => 0)], [bInt E q_4 32 (fun _ => 0)], [bInt E q_5 320 (fun _ => 0)], [bInt E q_6 64 (fun _ => 0)], [bInt E q_7 2 (fun _ => 0)], [bInt E q_8 640 (fun _ => 0)], [bInt E q_9 150 (fun _ => 0)], [bInt E q_10 4 (fun _ => 0)], [bInt E q_11 4 (fun _ => 0)], [bInt E q_12 250 (fun _ => 0)], [bInt E q_13 4 (fun _ => 0)]]) H := hP
  have hD : va_D A (gW [[(h0, .inr (6, [.int 3, .int 0, .ref q_1, .int 0, .int 0, .ref q_2, .ref q_3, .ref q_4, .ref q_5, .int 0, .int 0, .ref q_6, .ref q_7, .ref q_8, .int 0, .ref q_9, .int 0, .ref q_10, .ref q_11, .long 0, .int 0, .int 0, .int 0, .int 0, .ref q_12, .null]))], [bInt E q_1 6 (fun _ => 0)], [bInt E q_2 6 (fun _ => 0)], [bInt E q_3 32 (fun _ => 0)], [bInt E q_4 32 (fun _ => 0)], [bInt E q_5 320 (fun _ => 0)], [bInt E q_6 64 (fun _ => 0)], [bInt E q_7 2 (fun _ => 0)], [bInt E q_8 640 (fun _ => 0)], [bInt E q_9 150 (fun _ => 0)], [bInt E q_10 4 (fun _ => 0)], [bInt E q_11 4 (fun _ => 0)], [bInt E q_12 250 (fun _ => 0)], [bInt E q_13 4 (fun _ => 0)]]) := hD
  refine va_putF (D := (E.1, E.2.1)) (ci := 6) (v := .ref q_13) (ty := (.array .int)) (C := RX6) (T := TX6) (N := 26) hx hb ht wu_X6 tyX6 tyX6_ok nmX6 hown hK hP hD hS 0 rfl rfl 25 (by decide) (ht _ wk_X6_50) (fun _ h9 => h9) rfl hin rfl (by decide +kernel) rfl rfl (Nat.le_of_ble_eq_true rfl) dX6_init_110 (fun H locs hP hD hS => ?_)
  have hP : gP E (gW [[(h0, .inr (6, [.int 3, .int 0, .ref q_1, .int 0, .int 0, .ref q_2, .ref q_3, .ref q_4, .ref q_5, .int 0, .int 0, .ref q_6, .ref q_7, .ref q_8, .int 0, .ref q_9, .int 0, .ref q_10, .ref q_11, .long 0, .int 0, .int 0, .int 0, .int 0, .ref q_12, .ref q_13]))], [bInt E q_1 6 (fun _ => 0)], [bInt E q_2 6 (fun _ => 0)], [bInt E q_3 32 (fun _ => 0)], [bInt E q_4 32 (fun _ => 0)], [bInt E q_5 320 (fun _ => 0)], [bInt E q_6 64 (fun _ => 0)], [bInt E q_7 2 (fun _ => 0)], [bInt E q_8 640 (fun _ => 0)], [bInt E q_9 150 (fun _ => 0)], [bInt E q_10 4 (fun _ => 0)], [bInt E q_11 4 (fun _ => 0)], [bInt E q_12 250 (fun _ => 0)], [bInt E q_13 4 (fun _ => 0)]]) H := hP
  have hD : va_D A (gW [[(h0, .inr (6, [.int 3, .int 0, .ref q_1, .int 0, .int 0, .ref q_2, .ref q_3, .ref q_4, .ref q_5, .int 0, .int 0, .ref q_6, .ref q_7, .ref q_8, .int 0, .ref q_9, .int 0, .ref q_10, .ref q_11, .long 0, .int 0, .int 0, .int 0, .int 0, .ref q_12, .ref q_13]))], [bInt E q_1 6 (fun _ => 0)], [bInt E q_2 6 (fun _ => 0)], [bInt E q_3 32 (fun _ => 0)], [bInt E q_4 32 (fun _ => 0)], [bInt E q_5 320 (fun _ => 0)], [bInt E q_6 64 (fun _ => 0)], [bInt E q_7 2 (fun _ => 0)], [bInt E q_8 640 (fun _ => 0)], [bInt E q_9 150 (fun _ => 0)], [bInt E q_10 4 (fun _ => 0)], [bInt E q_11 4 (fun _ => 0)], [bInt E q_12 250 (fun _ => 0)], [bInt E q_13 4 (fun _ => 0)]]) := hD
  refine lv_aload_n hx hb dX6_init_113 rfl (lv_at hl 0 rfl) ?_
  refine va_get (D := (E.1, E.2.1)) (ci := 6) (v := .ref q_4) (C := RX6) (T := TX6) (N := 26) hx hb ht wu_X6 hown hK hP 0 rfl rfl 7 (by decide) (ht _ wk_X6_23) (fun _ h9 => h9) rfl dX6_init_114 ?_
  refine lv_bipush (v := 9) hx hb dX6_init_117 (by decide) ?_
  refine lv_bipush (v := (-9)) hx hb dX6_init_119 (by decide) ?_
  refine va_iast hx hb hK hP hD hS 4 0 rfl rfl (by unfold vp_in; decide) dX6_init_121 (fun H locs hP hD hS => ?_)
  have hP : gP E (gW [[(h0, .inr (6, [.int 3, .int 0, .ref q_1, .int 0, .int 0, .ref q_2, .ref q_3, .ref q_4, .ref q_5, .int 0, .int 0, .ref q_6, .ref q_7, .ref q_8, .int 0, .ref q_9, .int 0, .ref q_10, .ref q_11, .long 0, .int 0, .int 0, .int 0, .int 0, .ref q_12, .ref q_13]))], [bInt E q_1 6 (fun _ => 0)], [bInt E q_2 6 (fun _ => 0)], [bInt E q_3 32 (fun _ => 0)], [bInt E q_4 32 (upd (fun _ => 0) 9 (-9))], [bInt E q_5 320 (fun _ => 0)], [bInt E q_6 64 (fun _ => 0)], [bInt E q_7 2 (fun _ => 0)], [bInt E q_8 640 (fun _ => 0)], [bInt E q_9 150 (fun _ => 0)], [bInt E q_10 4 (fun _ => 0)], [bInt E q_11 4 (fun _ => 0)], [bInt E q_12 250 (fun _ => 0)], [bInt E q_13 4 (fun _ => 0)]]) H := hP
  have hD : va_D A (gW [[(h0, .inr (6, [.int 3, .int 0, .ref q_1, .int 0, .int 0, .ref q_2, .ref q_3, .ref q_4, .ref q_5, .int 0, .int 0, .ref q_6, .ref q_7, .ref q_8, .int 0, .ref q_9, .int 0, .ref q_10, .ref q_11, .long 0, .int 0, .int 0, .int 0, .int 0, .ref q_12, .ref q_13]))], [bInt E q_1 6 (fun _ => 0)], [bInt E q_2 6 (fun _ => 0)], [bInt E q_3 32 (fun _ => 0)], [bInt E q_4 32 (upd (fun _ => 0) 9 (-9))], [bInt E q_5 320 (fun _ => 0)], [bInt E q_6 64 (fun _ => 0)], [bInt E q_7 2 (fun _ => 0)], [bInt E q_8 640 (fun _ => 0)], [bInt E q_9 150 (fun _ => 0)], [bInt E q_10 4 (fun _ => 0)], [bInt E q_11 4 (fun _ => 0)], [bInt E q_12 250 (fun _ => 0)], [bInt E q_13 4 (fun _ => 0)]]) := hD
  refine W.widen (k := 13) (n := 1514) (Nat.le_of_ble_eq_true rfl) (Nat.le_of_ble_eq_true rfl) ?_
  have hP : gP E (gW [bModel E (ad (fun k => match k with | 2 => q_1 | 5 => q_2 | 6 => q_3 | 7 => q_4 | 8 => q_5 | 11 => q_6 | 12 => q_7 | 13 => q_8 | 15 => q_9 | 17 => q_10 | 18 => q_11 | 24 => q_12 | 25 => q_13 | _ => h0) h0) moInit]) H := hP
  have hD : va_D A (gW [bModel E (ad (fun k => match k with | 2 => q_1 | 5 => q_2 | 6 => q_3 | 7 => q_4 | 8 => q_5 | 11 => q_6 | 12 => q_7 | 13 => q_8 | 15 => q_9 | 17 => q_10 | 18 => q_11 | 24 => q_12 | 25 => q_13 | _ => h0) h0) moInit]) := hD
  exact hret _ _ _ _ _ ⟨(fun k => match k with | 2 => q_1 | 5 => q_2 | 6 => q_3 | 7 => q_4 | 8 => q_5 | 11 => q_6 | 12 => q_7 | 13 => q_8 | 15 => q_9 | 17 => q_10 | 18 => q_11 | 24 => q_12 | 25 => q_13 | _ => h0), rfl⟩ hP hD hS dX6_init_122
theorem dX2_init_0 : decode cX2_init 0 = .ok (.aload_n 0, 1) := by decide +kernel
theorem dX2_init_1 : decode cX2_init 1 = .ok (.invokespecial 3, 3) := by decide +kernel
theorem dX2_init_4 : decode cX2_init 4 = .ok (.aload_n 0, 1) := by decide +kernel
theorem dX2_init_5 : decode cX2_init 5 = .ok (.sipush 1000, 3) := by decide +kernel
theorem dX2_init_8 : decode cX2_init 8 = .ok (.newarray .int, 2) := by decide +kernel
theorem dX2_init_10 : decode cX2_init 10 = .ok (.putfield 9, 3) := by decide +kernel
theorem dX2_init_13 : decode cX2_init 13 = .ok (.aload_n 0, 1) := by decide +kernel
theorem dX2_init_14 : decode cX2_init 14 = .ok (.iconst 0, 1) := by decide +kernel
theorem dX2_init_15 : decode cX2_init 15 = .ok (.putfield 15, 3) := by decide +kernel
theorem dX2_init_18 : decode cX2_init 18 = .ok (.aload_n 0, 1) := by decide +kernel
theorem dX2_init_19 : decode cX2_init 19 = .ok (.iconst 0, 1) := by decide +kernel
theorem dX2_init_20 : decode cX2_init 20 = .ok (.putfield 19, 3) := by decide +kernel
theorem dX2_init_23 : decode cX2_init 23 = .ok (.aload_n 0, 1) := by decide +kernel
theorem dX2_init_24 : decode cX2_init 24 = .ok (.bipush 10, 2) := by decide +kernel
theorem dX2_init_26 : decode cX2_init 26 = .ok (.newarray .int, 2) := by decide +kernel
theorem dX2_init_28 : decode cX2_init 28 = .ok (.putfield 22, 3) := by decide +kernel
theorem dX2_init_31 : decode cX2_init 31 = .ok (.aload_n 0, 1) := by decide +kernel
theorem dX2_init_32 : decode cX2_init 32 = .ok (.bipush 10, 2) := by decide +kernel
theorem dX2_init_34 : decode cX2_init 34 = .ok (.newarray .int, 2) := by decide +kernel
theorem dX2_init_36 : decode cX2_init 36 = .ok (.putfield 25, 3) := by decide +kernel
theorem dX2_init_39 : decode cX2_init 39 = .ok (.aload_n 0, 1) := by decide +kernel
theorem dX2_init_40 : decode cX2_init 40 = .ok (.bipush 10, 2) := by decide +kernel
theorem dX2_init_42 : decode cX2_init 42 = .ok (.newarray .int, 2) := by decide +kernel
theorem dX2_init_44 : decode cX2_init 44 = .ok (.putfield 28, 3) := by decide +kernel
theorem dX2_init_47 : decode cX2_init 47 = .ok (.aload_n 0, 1) := by decide +kernel
theorem dX2_init_48 : decode cX2_init 48 = .ok (.bipush 100, 2) := by decide +kernel
theorem dX2_init_50 : decode cX2_init 50 = .ok (.newarray .int, 2) := by decide +kernel
theorem dX2_init_52 : decode cX2_init 52 = .ok (.putfield 31, 3) := by decide +kernel
theorem dX2_init_55 : decode cX2_init 55 = .ok (.aload_n 0, 1) := by decide +kernel
theorem dX2_init_56 : decode cX2_init 56 = .ok (.bipush 100, 2) := by decide +kernel
theorem dX2_init_58 : decode cX2_init 58 = .ok (.newarray .int, 2) := by decide +kernel
theorem dX2_init_60 : decode cX2_init 60 = .ok (.putfield 34, 3) := by decide +kernel
theorem dX2_init_63 : decode cX2_init 63 = .ok (.aload_n 0, 1) := by decide +kernel
theorem dX2_init_64 : decode cX2_init 64 = .ok (.bipush 100, 2) := by decide +kernel
theorem dX2_init_66 : decode cX2_init 66 = .ok (.newarray .int, 2) := by decide +kernel
theorem dX2_init_68 : decode cX2_init 68 = .ok (.putfield 37, 3) := by decide +kernel
theorem dX2_init_71 : decode cX2_init 71 = .ok (.aload_n 0, 1) := by decide +kernel
theorem dX2_init_72 : decode cX2_init 72 = .ok (.invokevirtual 40, 3) := by decide +kernel
theorem dX2_init_75 : decode cX2_init 75 = .ok (.return_, 1) := by decide +kernel
set_option maxHeartbeats 8000000 in
set_option maxRecDepth 100000 in
theorem c_X2_init (E : GE) (l : Launch) (h0 : Nat) (postR : Ob → Prop) (hR : wp_X2_forgetAll obZero postR) (sz : Nat) : Met l yX2_init (wz yX2_init cX2_init 1 none) { frames := 1, cells := 7, slots := 1330, locals := 24 } (gPcN E [.ref h0] (gW [[(h0, .inr (2, [.null, .int 0, .int 0, .null, .null, .null, .null, .null, .null]))]]) sz) (gQN E (gW [[(h0, .inr (2, [.null, .int 0, .int 0, .null, .null, .null, .null, .null, .null]))]]) sz (fun w => ∃ (a : Nat → Nat) (S : Ob), postR S ∧ w = gW [bRumour E (ad a h0) S])) 7 1330 (va_A (gW [[(h0, .inr (2, [.null, .int 0, .int 0, .null, .null, .null, .null, .null, .null]))]]) sz) := by
  refine g_of_N (by decide) (Nat.le_of_ble_eq_true rfl) rfl ?_ sz
  intro p e s m below meth c A Q hx hb hml hown ht hE hin hP hD hA hret ls hl
  have hK := hE.1
  have hS : va_S A s.heap s.heap [] := va_S.rf
  have hl : lv_has ls 1 [(0, .ref h0)] := hl
  refine lv_aload_n hx hb dX2_init_0 rfl (lv_at hl 0 rfl) ?_
  refine W.objInit hx hb hown (ht _ wk_X2_3) (ht _ wi_obj) (ht _ wc_obj) rfl (by rw [hml]; exact hl.1) rfl dX2_init_1 (Nat.le_of_ble_eq_true rfl) (Nat.le_of_ble_eq_true rfl) ?_
  refine W.eq (g2 := F0 m 4 ls []) rfl ?_
  refine lv_aload_n hx hb dX2_init_4 rfl (lv_at hl 0 rfl) ?_
  refine lv_sipush (v := 1000) hx hb dX2_init_5 (by decide) ?_
  refine va_newa (atype := .int) (ty := .int) (n := 1000) (N' := 1000) (a0 := (1000, .inl (fun _ => 0))) hx hb (ht _ wa_int) rfl hK hP hD hS hA (fun _ => rfl) (by decide) (by decide) (Nat.le_of_ble_eq_true rfl) (Nat.le_of_ble_eq_true rfl) (Nat.le_of_ble_eq_true rfl) dX2_init_8 (fun q_1 cA H hK4 hP hD hS => ?_)
  obtain rfl := gK_int hK4
  clear hK4
  have hP := gP_push hP
  have hD := gD_push hD
  have hP : gP E (gW [[(h0, .inr (2, [.null, .int 0, .int 0, .null, .null, .null, .null, .null, .null]))], [bInt E q_1 1000 (fun _ => 0)]]) H := hP
  have hD : va_D A (gW [[(h0, .inr (2, [.null, .int 0, .int 0, .null, .null, .null, .null, .null, .null]))], [bInt E q_1 1000 (fun _ => 0)]]) := hD
  refine va_putF (D := (E.1, E.2.1)) (ci := 2) (v := .ref q_1) (ty := (.array .int)) (C := RX2) (T := TX2) (N := 9) hx hb ht wu_X2 tyX2 tyX2_ok nmX2 hown hK hP hD hS 0 rfl rfl 0 (by decide) (ht _ wk_X2_9) (fun _ h9 => h9) rfl hin rfl (by decide +kernel) rfl rfl (Nat.le_of_ble_eq_true rfl) dX2_init_10 (fun H locs hP hD hS => ?_)
  have hP : gP E (gW [[(h0, .inr (2, [.ref q_1, .int 0, .int 0, .null, .null, .null, .null, .null, .null]))], [bInt E q_1 1000 (fun _ => 0)]]) H := hP
  have hD : va_D A (gW [[(h0, .inr (2, [.ref q_1, .int 0, .int 0, .null, .null, .null, .null, .null, .null]))], [bInt E q_1 1000 (fun _ => 0)]]) := hD
  refine lv_aload_n hx hb dX2_init_13 rfl (lv_at hl 0 rfl) ?_
  refine lv_iconst (v := 0) hx hb dX2_init_14 (by decide) ?_
  refine va_put (D := (E.1, E.2.1)) (ci := 2) (v := .int 0) (ty := .int) (C := RX2) (T := TX2) (N := 9) hx hb ht wu_X2 tyX2 tyX2_ok nmX2 hown hK hP hD hS 0 rfl rfl 1 (by decide) (ht _ wk_X2_15) (fun _ h9 => h9) rfl (by decide +kernel) rfl rfl (Nat.le_of_ble_eq_true rfl) dX2_init_15 (fun H locs hP hD hS => ?_)
  have hP : gP E (gW [[(h0, .inr (2, [.ref q_1, .int 0, .int 0, .null, .null, .null, .null, .null, .null]))], [bInt E q_1 1000 (fun _ => 0)]]) H := hP
  have hD : va_D A (gW [[(h0, .inr (2, [.ref q_1, .int 0, .int 0, .null, .null, .null, .null, .null, .null]))], [bInt E q_1 1000 (fun _ => 0)]]) := hD
  refine lv_aload_n hx hb dX2_init_18 rfl (lv_at hl 0 rfl) ?_
  refine lv_iconst (v := 0) hx hb dX2_init_19 (by decide) ?_
  refine va_put (D := (E.1, E.2.1)) (ci := 2) (v := .int 0) (ty := .int) (C := RX2) (T := TX2) (N := 9) hx hb ht wu_X2 tyX2 tyX2_ok nmX2 hown hK hP hD hS 0 rfl rfl 2 (by decide) (ht _ wk_X2_19) (fun _ h9 => h9) rfl (by decide +kernel) rfl rfl (Nat.le_of_ble_eq_true rfl) dX2_init_20 (fun H locs hP hD hS => ?_)
  have hP : gP E (gW [[(h0, .inr (2, [.ref q_1, .int 0, .int 0, .null, .null, .null, .null, .null, .null]))], [bInt E q_1 1000 (fun _ => 0)]]) H := hP
  have hD : va_D A (gW [[(h0, .inr (2, [.ref q_1, .int 0, .int 0, .null, .null, .null, .null, .null, .null]))], [bInt E q_1 1000 (fun _ => 0)]]) := hD
  refine lv_aload_n hx hb dX2_init_23 rfl (lv_at hl 0 rfl) ?_
  refine lv_bipush (v := 10) hx hb dX2_init_24 (by decide) ?_
  refine va_newa (atype := .int) (ty := .int) (n := 10) (N' := 10) (a0 := (10, .inl (fun _ => 0))) hx hb (ht _ wa_int) rfl hK hP hD hS hA (fun _ => rfl) (by decide) (by decide) (Nat.le_of_ble_eq_true rfl) (Nat.le_of_ble_eq_true rfl) (Nat.le_of_ble_eq_true rfl) dX2_init_26 (fun q_2 cA H hK4 hP hD hS => ?_)
  obtain rfl := gK_int hK4
  clear hK4
  have hP := gP_push hP
  have hD := gD_push hD
  have hP : gP E (gW [[(h0, .inr (2, [.ref q_1, .int 0, .int 0, .null, .null, .null, .null, .null, .null]))], [bInt E q_1 1000 (fun _ => 0)], [bInt E q_2 10 (fun _ => 0)]]) H := hP
  have hD : va_D A (gW [[(h0, .inr (2, [.ref q_1, .int 0, .int 0, .null, .null, .null, .null, .null, .null]))], [bInt E q_1 1000 (fun _ => 0)], [bInt E q_2 10 (fun _ => 0)]]) := hD
  refine va_putF (D := (E.1, E.2.1)) (ci := 2) (v := .ref q_2) (ty := (.array .int)) (C := RX2) (T := TX2) (N := 9) hx hb ht wu_X2 tyX2 tyX2_ok nmX2 hown hK hP hD hS 0 rfl rfl 3 (by decide) (ht _ wk_X2_22) (fun _ h9 => h9) rfl hin rfl (by decide +kernel) rfl rfl (Nat.le_of_ble_eq_true rfl) dX2_init_28 (fun H locs hP hD hS => ?_)
  have hP : gP E (gW [[(h0, .inr (2, [.ref q_1, .int 0, .int 0, .ref q_2, .null, .null, .null, .null, .null]))], [bInt E q_1 1000 (fun _ => 0)], [bInt E q_2 10 (fun _ => 0)]]) H := hP
  have hD : va_D A (gW [[(h0, .inr (2, [.ref q_1, .int 0, .int 0, .ref q_2, .null, .null, .null, .null, .null]))], [bInt E q_1 1000 (fun _ => 0)], [bInt E q_2 10 (fun _ => 0)]]) := hD
  refine lv_aload_n hx hb dX2_init_31 rfl (lv_at hl 0 rfl) ?_
  refine lv_bipush (v := 10) hx hb dX2_init_32 (by decide) ?_
  refine va_newa (atype := .int) (ty := .int) (n := 10) (N' := 10) (a0 := (10, .inl (fun _ => 0))) hx hb (ht _ wa_int) rfl hK hP hD hS hA (fun _ => rfl) (by decide) (by decide) (Nat.le_of_ble_eq_true rfl) (Nat.le_of_ble_eq_true rfl) (Nat.le_of_ble_eq_true rfl) dX2_init_34 (fun q_3 cA H hK4 hP hD hS => ?_)
  obtain rfl := gK_int hK4
  clear hK4
  have hP := gP_push hP
  have hD := gD_push hD
  have hP : gP E (gW [[(h0, .inr (2, [.ref q_1, .int 0, .int 0, .ref q_2, .null, .null, .null, .null, .null]))], [bInt E q_1 1000 (fun _ => 0)], [bInt E q_2 10 (fun _ => 0)], [bInt E q_3 10 (fun _ => 0)]]) H := hP
  have hD : va_D A (gW [[(h0, .inr (2, [.ref q_1, .int 0, .int 0, .ref q_2, .null, .null, .null, .null, .null]))], [bInt E q_1 1000 (fun _ => 0)], [bInt E q_2 10 (fun _ => 0)], [bInt E q_3 10 (fun _ => 0)]]) := hD
  refine va_putF (D := (E.1, E.2.1)) (ci := 2) (v := .ref q_3) (ty := (.array .int)) (C := RX2) (T := TX2) (N := 9) hx hb ht wu_X2 tyX2 tyX2_ok nmX2 hown hK hP hD hS 0 rfl rfl 4 (by decide) (ht _ wk_X2_25) (fun _ h9 => h9) rfl hin rfl (by decide +kernel) rfl rfl (Nat.le_of_ble_eq_true rfl) dX2_init_36 (fun H locs hP hD hS => ?_)
  have hP : gP E (gW [[(h0, .inr (2, [.ref q_1, .int 0, .int 0, .ref q_2, .ref q_3, .null, .null, .null, .null]))], [bInt E q_1 1000 (fun _ => 0)], [bInt E q_2 10 (fun _ => 0)], [bInt E q_3 10 (fun _ => 0)]]) H := hP
  have hD : va_D A (gW [[(h0, .inr (2, [.ref q_1, .int 0, .int 0, .ref q_2, .ref q_3, .null, .null, .null, .null]))], [bInt E q_1 1000 (fun _ => 0)], [bInt E q_2 10 (fun _ => 0)], [bInt E q_3 10 (fun _ => 0)]]) := hD
  refine lv_aload_n hx hb dX2_init_39 rfl (lv_at hl 0 rfl) ?_
  refine lv_bipush (v := 10) hx hb dX2_init_40 (by decide) ?_
  refine va_newa (atype := .int) (ty := .int) (n := 10) (N' := 10) (a0 := (10, .inl (fun _ => 0))) hx hb (ht _ wa_int) rfl hK hP hD hS hA (fun _ => rfl) (by decide) (by decide) (Nat.le_of_ble_eq_true rfl) (Nat.le_of_ble_eq_true rfl) (Nat.le_of_ble_eq_true rfl) dX2_init_42 (fun q_4 cA H hK4 hP hD hS => ?_)
  obtain rfl := gK_int hK4
  clear hK4
  have hP := gP_push hP
  have hD := gD_push hD
  have hP : gP E (gW [[(h0, .inr (2, [.ref q_1, .int 0, .int 0, .ref q_2, .ref q_3, .null, .null, .null, .null]))], [bInt E q_1 1000 (fun _ => 0)], [bInt E q_2 10 (fun _ => 0)], [bInt E q_3 10 (fun _ => 0)], [bInt E q_4 10 (fun _ => 0)]]) H := hP
  have hD : va_D A (gW [[(h0, .inr (2, [.ref q_1, .int 0, .int 0, .ref q_2, .ref q_3, .null, .null, .null, .null]))], [bInt E q_1 1000 (fun _ => 0)], [bInt E q_2 10 (fun _ => 0)], [bInt E q_3 10 (fun _ => 0)], [bInt E q_4 10 (fun _ => 0)]]) := hD
  refine va_putF (D := (E.1, E.2.1)) (ci := 2) (v := .ref q_4) (ty := (.array .int)) (C := RX2) (T := TX2) (N := 9) hx hb ht wu_X2 tyX2 tyX2_ok nmX2 hown hK hP hD hS 0 rfl rfl 5 (by decide) (ht _ wk_X2_28) (fun _ h9 => h9) rfl hin rfl (by decide +kernel) rfl rfl (Nat.le_of_ble_eq_true rfl) dX2_init_44 (fun H locs hP hD hS => ?_)
  have hP : gP E (gW [[(h0, .inr (2, [.ref q_1, .int 0, .int 0, .ref q_2, .ref q_3, .ref q_4, .null, .null, .null]))], [bInt E q_1 1000 (fun _ => 0)], [bInt E q_2 10 (fun _ => 0)], [bInt E q_3 10 (fun _ => 0)], [bInt E q_4 10 (fun _ => 0)]]) H := hP
  have hD : va_D A (gW [[(h0, .inr (2, [.ref q_1, .int 0, .int 0, .ref q_2, .ref q_3, .ref q_4, .null, .null, .null]))], [bInt E q_1 1000 (fun _ => 0)], [bInt E q_2 10 (fun _ => 0)], [bInt E q_3 10 (fun _ => 0)], [bInt E q_4 10 (fun _ => 0)]]) := hD
  refine lv_aload_n hx hb dX2_init_47 rfl (lv_at hl 0 rfl) ?_
  refine lv_bipush (v := 100) hx hb dX2_init_48 (by decide) ?_
  refine va_newa (atype := .int) (ty := .int) (n := 100) (N' := 100) (a0 := (100, .inl (fun _ => 0))) hx hb (ht _ wa_int) rfl hK hP hD hS hA (fun _ => rfl) (by decide) (by decide) (Nat.le_of_ble_eq_true rfl) (Nat.le_of_ble_eq_true rfl) (Nat.le_of_ble_eq_true rfl) dX2_init_50 (fun q_5 cA H hK4 hP hD hS => ?_)
  obtain rfl := gK_int hK4
  clear hK4
  have hP := gP_push hP
  have hD := gD_push hD
  have hP : gP E (gW [[(h0, .inr (2, [.ref q_1, .int 0, .int 0, .ref q_2, .ref q_3, .ref q_4, .null, .null, .null]))], [bInt E q_1 1000 (fun _ => 0)], [bInt E q_2 10 (fun _ => 0)], [bInt E q_3 10 (fun _ => 0)], [bInt E q_4 10 (fun _ => 0)], [bInt E q_5 100 (fun _ => 0)]]) H := hP
  have hD : va_D A (gW [[(h0, .inr (2, [.ref q_1, .int 0, .int 0, .ref q_2, .ref q_3, .ref q_4, .null, .null, .null]))], [bInt E q_1 1000 (fun _ => 0)], [bInt E q_2 10 (fun _ => 0)], [bInt E q_3 10 (fun _ => 0)], [bInt E q_4 10 (fun _ => 0)], [bInt E q_5 100 (fun _ => 0)]]) := hD
  refine va_putF (D := (E.1, E.2.1)) (ci := 2) (v := .ref q_5) (ty := (.array .int)) (C := RX2) (T := TX2) (N := 9) hx hb ht wu_X2 tyX2 tyX2_ok nmX2 hown hK hP hD hS 0 rfl rfl 6 (by decide) (ht _ wk_X2_31) (fun _ h9 => h9) rfl hin rfl (by decide +kernel) rfl rfl (Nat.le_of_ble_eq_true rfl) dX2_init_52 (fun H locs hP hD hS => ?_)
  have hP : gP E (gW [[(h0, .inr (2, [.ref q_1, .int 0, .int 0, .ref q_2, .ref q_3, .ref q_4, .ref q_5, .null, .null]))], [bInt E q_1 1000 (fun _ => 0)], [bInt E q_2 10 (fun _ => 0)], [bInt E q_3 10 (fun _ => 0)], [bInt E q_4 10 (fun _ => 0)], [bInt E q_5 100 (fun _ => 0)]]) H := hP
  have hD : va_D A (gW [[(h0, .inr (2, [.ref q_1, .int 0, .int 0, .ref q_2, .ref q_3, .ref q_4, .ref q_5, .null, .null]))], [bInt E q_1 1000 (fun _ => 0)], [bInt E q_2 10 (fun _ => 0)], [bInt E q_3 10 (fun _ => 0)], [bInt E q_4 10 (fun _ => 0)], [bInt E q_5 100 (fun _ => 0)]]) := hD
  refine lv_aload_n hx hb dX2_init_55 rfl (lv_at hl 0 rfl) ?_
  refine lv_bipush (v := 100) hx hb dX2_init_56 (by decide) ?_
  refine va_newa (atype := .int) (ty := .int) (n := 100) (N' := 100) (a0 := (100, .inl (fun _ => 0))) hx hb (ht _ wa_int) rfl hK hP hD hS hA (fun _ => rfl) (by decide) (by decide) (Nat.le_of_ble_eq_true rfl) (Nat.le_of_ble_eq_true rfl) (Nat.le_of_ble_eq_true rfl) dX2_init_58 (fun q_6 cA H hK4 hP hD hS => ?_)
  obtain rfl := gK_int hK4
  clear hK4
  have hP := gP_push hP
  have hD := gD_push hD
  have hP : gP E (gW [[(h0, .inr (2, [.ref q_1, .int 0, .int 0, .ref q_2, .ref q_3, .ref q_4, .ref q_5, .null, .null]))], [bInt E q_1 1000 (fun _ => 0)], [bInt E q_2 10 (fun _ => 0)], [bInt E q_3 10 (fun _ => 0)], [bInt E q_4 10 (fun _ => 0)], [bInt E q_5 100 (fun _ => 0)], [bInt E q_6 100 (fun _ => 0)]]) H := hP
  have hD : va_D A (gW [[(h0, .inr (2, [.ref q_1, .int 0, .int 0, .ref q_2, .ref q_3, .ref q_4, .ref q_5, .null, .null]))], [bInt E q_1 1000 (fun _ => 0)], [bInt E q_2 10 (fun _ => 0)], [bInt E q_3 10 (fun _ => 0)], [bInt E q_4 10 (fun _ => 0)], [bInt E q_5 100 (fun _ => 0)], [bInt E q_6 100 (fun _ => 0)]]) := hD
  refine va_putF (D := (E.1, E.2.1)) (ci := 2) (v := .ref q_6) (ty := (.array .int)) (C := RX2) (T := TX2) (N := 9) hx hb ht wu_X2 tyX2 tyX2_ok nmX2 hown hK hP hD hS 0 rfl rfl 7 (by decide) (ht _ wk_X2_34) (fun _ h9 => h9) rfl hin rfl (by decide +kernel) rfl rfl (Nat.le_of_ble_eq_true rfl) dX2_init_60 (fun H locs hP hD hS => ?_)
  have hP : gP E (gW [[(h0, .inr (2, [.ref q_1, .int 0, .int 0, .ref q_2, .ref q_3, .ref q_4, .ref q_5, .ref q_6, .null]))], [bInt E q_1 1000 (fun _ => 0)], [bInt E q_2 10 (fun _ => 0)], [bInt E q_3 10 (fun _ => 0)], [bInt E q_4 10 (fun _ => 0)], [bInt E q_5 100 (fun _ => 0)], [bInt E q_6 100 (fun _ => 0)]]) H := hP
  have hD : va_D A (gW [[(h0, .inr (2, [.ref q_1, .int 0, .int 0, .ref q_2, .ref q_3, .ref q_4, .ref q_5, .ref q_6, .null]))], [bInt E q_1 1000 (fun _ => 0)], [bInt E q_2 10 (fun _ => 0)], [bInt E q_3 10 (fun _ => 0)], [bInt E q_4 10 (fun _ => 0)], [bInt E q_5 100 (fun _ => 0)], [bInt E q_6 100 (fun _ => 0)]]) := hD
  refine lv_aload_n hx hb dX2_init_63 rfl (lv_at hl 0 rfl) ?_
  refine lv_bipush (v := 100) hx hb dX2_init_64 (by decide) ?_
  refine va_newa (atype := .int) (ty := .int) (n := 100) (N' := 100) (a0 := (100, .inl (fun _ => 0))) hx hb (ht _ wa_int) rfl hK hP hD hS hA (fun _ => rfl) (by decide) (by decide) (Nat.le_of_ble_eq_true rfl) (Nat.le_of_ble_eq_true rfl) (Nat.le_of_ble_eq_true rfl) dX2_init_66 (fun q_7 cA H hK4 hP hD hS => ?_)
  obtain rfl := gK_int hK4
  clear hK4
  have hP := gP_push hP
  have hD := gD_push hD
  have hP : gP E (gW [[(h0, .inr (2, [.ref q_1, .int 0, .int 0, .ref q_2, .ref q_3, .ref q_4, .ref q_5, .ref q_6, .null]))], [bInt E q_1 1000 (fun _ => 0)], [bInt E q_2 10 (fun _ => 0)], [bInt E q_3 10 (fun _ => 0)], [bInt E q_4 10 (fun _ => 0)], [bInt E q_5 100 (fun _ => 0)], [bInt E q_6 100 (fun _ => 0)], [bInt E q_7 100 (fun _ => 0)]]) H := hP
  have hD : va_D A (gW [[(h0, .inr (2, [.ref q_1, .int 0, .int 0, .ref q_2, .ref q_3, .ref q_4, .ref q_5, .ref q_6, .null]))], [bInt E q_1 1000 (fun _ => 0)], [bInt E q_2 10 (fun _ => 0)], [bInt E q_3 10 (fun _ => 0)], [bInt E q_4 10 (fun _ => 0)], [bInt E q_5 100 (fun _ => 0)], [bInt E q_6 100 (fun _ => 0)], [bInt E q_7 100 (fun _ => 0)]]) := hD
  refine va_putF (D := (E.1, E.2.1)) (ci := 2) (v := .ref q_7) (ty := (.array .int)) (C := RX2) (T := TX2) (N := 9) hx hb ht wu_X2 tyX2 tyX2_ok nmX2 hown hK hP hD hS 0 rfl rfl 8 (by decide) (ht _ wk_X2_37) (fun _ h9 => h9) rfl hin rfl (by decide +kernel) rfl rfl (Nat.le_of_ble_eq_true rfl) dX2_init_68 (fun H locs hP hD hS => ?_)
  have hP : gP E (gW [[(h0, .inr (2, [.ref q_1, .int 0, .int 0, .ref q_2, .ref q_3, .ref q_4, .ref q_5, .ref q_6, .ref q_7]))], [bInt E q_1 1000 (fun _ => 0)], [bInt E q_2 10 (fun _ => 0)], [bInt E q_3 10 (fun _ => 0)], [bInt E q_4 10 (fun _ => 0)], [bInt E q_5 100 (fun _ => 0)], [bInt E q_6 100 (fun _ => 0)], [bInt E q_7 100 (fun _ => 0)]]) H := hP
  have hD : va_D A (gW [[(h0, .inr (2, [.ref q_1, .int 0, .int 0, .ref q_2, .ref q_3, .ref q_4, .ref q_5, .ref q_6, .ref q_7]))], [bInt E q_1 1000 (fun _ => 0)], [bInt E q_2 10 (fun _ => 0)], [bInt E q_3 10 (fun _ => 0)], [bInt E q_4 10 (fun _ => 0)], [bInt E q_5 100 (fun _ => 0)], [bInt E q_6 100 (fun _ => 0)], [bInt E q_7 100 (fun _ => 0)]]) := hD
  refine lv_aload_n hx hb dX2_init_71 rfl (lv_at hl 0 rfl) ?_
  obtain ⟨an, ean⟩ : ∃ z : Nat → Nat, z = (fun k => match k with | 0 => q_1 | 3 => q_2 | 4 => q_3 | 5 => q_4 | 6 => q_5 | 7 => q_6 | 8 => q_7 | _ => h0) := ⟨_, rfl⟩
  have hP : gP E (gW [bRumour E (ad an h0) obZero]) H := by rw [ean]; exact hP
  have hD : va_D A (gW [bRumour E (ad an h0) obZero]) := by rw [ean]; exact hD
  have p1 := gB (n := 1) (bs := [bRumour E (ad an h0) obZero]) (bc := [bRumour E (ad an h0) obZero]) (br := []) [0] rfl rfl (by decide)
  refine g_v (g_runV (As := []) (rest := []) ⟨hx, hb, hml, hown, ht⟩ hE (c_X2_forgetAll E l (ad an h0) obZero _ hR) ⟨rfl, rfl⟩ wk_X2_40 wi_X2_forgetAll ws_X2_forgetAll wn_X2 wc_X2_forgetAll yd_X2_forgetAll ⟨Nat.le_of_ble_eq_true rfl, Nat.le_of_ble_eq_true rfl⟩ hP hD p1 (ci := 2) rfl rfl rfl rfl rfl hl.1 rfl (lv_room (Nat.le_of_ble_eq_true rfl)) dX2_init_72 ⟨Nat.le_of_ble_eq_true rfl, Nat.le_of_ble_eq_true rfl⟩) hP hD hS p1 (fun SR w H locs hpR hw hP hD hS => ?_)
  subst hw
  clear p1
  have p2 := gB (n := 1) (bs := [bRumour E (ad an h0) SR]) (bc := [bRumour E (ad an h0) SR]) (br := []) [0] rfl rfl (by decide)
  have hP := gP_perm p2.symm hP
  have hD := gD_perm p2.symm hD
  refine W.widen (k := 7) (n := 1330) (Nat.le_of_ble_eq_true rfl) (Nat.le_of_ble_eq_true rfl) ?_
  exact hret _ _ _ _ _ ⟨an, SR, hpR, rfl⟩ hP hD hS dX2_init_75
