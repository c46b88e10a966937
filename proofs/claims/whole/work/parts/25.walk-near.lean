/-! the class's one static array -/
def gF (t : Nat) (A : Nat → Prop) (U : State) : Prop := va_Z RX5 "FIGURES_AT" "[I" (.ref t) A U U.heap ∧ va_T .int t 6 (fun j => .int (figs j)) A U U.heap
theorem gF.go {t : Nat} {A B : Nat → Prop} {s U : State} {H : Heap} {locs : List Loc} (hvm : s.vm.Alike U.vm) (hS : va_S A s.heap H locs) (hU : U.heap = H) (hB : ∀ q, B q → A q) (h : gF t A s) : gF t B U := by
  obtain ⟨h1, h2⟩ := h
  have k : ∀ a : Nat, a < s.heap.size → ¬ A a → H[a]? = s.heap[a]? := fun a h g => hS.2.1 a h g
  refine ⟨?_, ?_⟩
  · rw [hU]; exact (((h1.moved hvm).kept k).narrow hB)
  · rw [hU]; exact (((h2.moved hvm).kept k).narrow hB)
def gPcF (E : GE) (av : List Value) (ws : va_W) (t : Nat) : Array Value → State → Prop := va_Pc av (fun U => gP E ws U.heap ∧ gE E U ∧ va_D (fun _ => True) ws ∧ gF t (gIn ws) U)
theorem gPcF_blind (E : GE) (av : List Value) (ws : va_W) (t : Nat) : FrameBlind (gPcF E av ws t) := fun a U g mk q => by
  obtain ⟨q0, q1, q2, q3, q4⟩ := q
  exact ⟨q0, q1, q2.same (U := U.calling g mk a) rfl, q3, q4.go (U := U.calling g mk a) (locs := []) (Vm.Alike.refl _) va_S.rf rfl (fun _ h => h)⟩
section GOF
variable {l : Launch} {y : MethodName} {cc : ByteArray} {maxL : Nat} {rm : Room} {av : List Value} {E : GE} {W0 : va_W} {t : Nat}
theorem g_of_iF {S : Type} {post : Int32 → S → Prop} {wf : S → va_W → Prop} (hy : plainName y.cls = true) (hav : (lg_sl av).length ≤ maxL)
    (body : ∀ (p : Program) (e : Env) (s : State) (m : MethodId) (below : List Frame) (meth : Method) (c : Code) (A : Nat → Prop) (Q : State → Prop), p.tables.exec = Jvm.exec → c.code = cc → c.maxLocals = maxL → s.vm.findClass y.cls = some m.cls → (∀ w ∈ tb, w.before av.toArray s = true) → gE E s → gF t A s → gP E W0 s.heap → va_D A W0 →
      (∀ (v : Int32) (u : S) (w : va_W) (H : Heap) (locs : List Loc) (pc : Nat) (ls : Array Slot), post v u → wf u w → gP E w H → va_D A w → va_S A s.heap H locs → decode cc pc = .ok (.ireturn, 1) → W p l e rm s m av.toArray below meth c H locs 0 0 Q (F0 m pc ls [.int v])) →
      ∀ ls : Array Slot, lv_has ls maxL (lv_args 0 av) → W p l e rm s m av.toArray below meth c s.heap [] 0 0 Q (F0 m 0 ls [])) : Met l y (wz y cc maxL (some .int)) rm (gPcF E av W0 t) (gQi E W0 post wf) 0 0 (gIn W0) := by
  refine Met.ofW (cc := cc) (maxL := maxL) (ret := some .int) hy rfl ?_
  intro p e s m args below meth c s₁ B hml hv
  obtain ⟨rfl, hP, hE, hD0, hF⟩ := hv
  have hr := B.returns
  have hlocks := B.notSynchronized
  have hts := atoms_spec (ws := wz y cc maxL (some .int)) B.pre
  have hl := lv_entry av (n := maxL) hav
  rw [lg_entry_eq]
  refine body p e s m below meth c (gIn W0) _ B.exec B.bytes hml (findClass_of_methodNamed B.named) (fun w hw => hts w (List.mem_cons_of_mem _ hw)) hE hF hP (gD_self hD0) (fun v u w H locs pc ls h hw hP hD hS d => ?_) _ hl
  exact W.iret (v := v) B.exec B.bytes hr (fun t ht hW => ⟨⟨v, u, rfl, h, w, hw, by rw [ht]; exact hP, hD⟩, hS.F ht⟩) hS.2.2 d
end GOF
section GRF
variable {p : Program} {l : Launch} {e : Env} {R : Room} {s : State} {m : MethodId} {args : Array Value} {below : List Frame} {meth : Method} {c : Code} {H : Heap} {locs : List Loc} {cells slots : Nat} {Q : State → Prop}
variable {y : MethodName} {bytes cc : ByteArray} {maxL nL n index : Nat} {ret : Option FieldType} {rm : Room} {Qc : Array Value → State → Outcome → State → Prop} {own C : String} {b : Addr} {As rest : List Value} {g : JFrame} {E : GE} {ws wc wr : va_W} {A : Nat → Prop} {t : Nat}
theorem g_runSF (S : CallFix p m c cc nL s args tb own) (hE : gE E s) (hF : gF t A s) (hS : va_S A s.heap H locs) (hM : Met l y (wz y bytes maxL ret) rm (gPcF E As wc t) Qc 0 0 (gIn wc)) (hrc : rm.cells = 0 ∧ rm.slots = 0)
    (k1 : Cond.methodLink own index y ∈ tb) (k2 : Cond.static y ∈ tb) (k4 : Cond.initialized y.cls ∈ tb) (k5 : Cond.code y bytes maxL ret ∈ tb)
    (hd : y.cls ≠ "java/lang/invoke/MethodHandle" ∧ y.cls ≠ "java/lang/invoke/VarHandle" ∧ (parseMethodDescriptor y.desc).map (fun d => d.parameters.length) = some n) (hR : rm.frames + 1 ≤ R.frames ∧ 8 + (maxL + 11) + rm.locals ≤ R.locals)
    (hP : gP E ws H) (hD : va_D A ws) (p1 : ws.Perm (wc ++ wr))
    (hg : g.method = m) (hn : As.length = n) (hsize : g.locals.size = nL) (hstack : g.stack = As.reverse ++ rest) (hW : 2 * g.monitorRoom + (rest.map fun v => v.category).sum ≤ 8) (hdg : decode cc g.pc = .ok (.invokestatic index, 3)) (hf : cells ≤ R.cells ∧ slots ≤ R.slots) :
    va_Run p l e R s m args below meth c H locs cells slots 0 0 g rest (Qc As.toArray) (gIn wc) := by
  have hPc := gP_left (gP_perm p1 hP)
  have hDc := gD_all (gD_left (gD_perm p1 hD))
  have ht := S.2.2.2.2
  refine va_runS S hM ⟨callB_of n ht (wz_in k5) rfl hrc.1 hrc.2 (ht _ k4) (ht _ k1) hd hR, ht _ k2⟩ ⟨gPcF_blind E _ _ t, fun U hU hW => ⟨rfl, by rw [hU]; exact hPc, hE.warm hW, hDc, hF.go hW.alike hS hU (g_free hD p1)⟩⟩ hg hn hsize hstack hW hdg hf
theorem g_runVF (S : CallFix p m c cc nL s args tb own) (hE : gE E s) (hF : gF t A s) (hS : va_S A s.heap H locs) (hM : Met l y (wz y bytes maxL ret) rm (gPcF E (.ref b :: As) wc t) Qc 0 0 (gIn wc)) (hrc : rm.cells = 0 ∧ rm.slots = 0)
    (k1 : Cond.methodLink own index y ∈ tb) (k2 : Cond.instanceMethod y ∈ tb) (k3 : Cond.selects C y y ∈ tb) (k4 : Cond.initialized y.cls ∈ tb) (k5 : Cond.code y bytes maxL ret ∈ tb)
    (hd : y.cls ≠ "java/lang/invoke/MethodHandle" ∧ y.cls ≠ "java/lang/invoke/VarHandle" ∧ (parseMethodDescriptor y.desc).map (fun d => d.parameters.length) = some n) (hR : rm.frames + 1 ≤ R.frames ∧ 8 + (maxL + 11) + rm.locals ≤ R.locals)
    (hP : gP E ws H) (hD : va_D A ws) (p1 : ws.Perm (wc ++ wr)) {ci : Nat} {q : vw_C} {fs : List Value} (hc : gcl[ci]? = some q) (hq : q.1 = C) (he : wc[0]? = some (b, .inr (ci, fs)))
    (hg : g.method = m) (hn : As.length = n) (hsize : g.locals.size = nL) (hstack : g.stack = As.reverse ++ .ref b :: rest) (hW : 2 * g.monitorRoom + (rest.map fun v => v.category).sum ≤ 8) (hdg : decode cc g.pc = .ok (.invokevirtual index, 3)) (hf : cells ≤ R.cells ∧ slots ≤ R.slots) :
    va_Run p l e R s m args below meth c H locs cells slots 0 0 g rest (Qc (Value.ref b :: As).toArray) (gIn wc) := by
  subst hq
  have hPc := gP_left (gP_perm p1 hP)
  have hDc := gD_all (gD_left (gD_perm p1 hD))
  have ht := S.2.2.2.2
  refine va_runV S hM ⟨callB_of n ht (wz_in k5) rfl hrc.1 hrc.2 (ht _ k4) (ht _ k1) hd hR, ht _ k2, ht _ k3⟩ ⟨gPcF_blind E _ _ t, va_recv hE.1 hPc hc he, fun U hU hW => ⟨rfl, by rw [hU]; exact hPc, hE.warm hW, hDc, hF.go hW.alike hS hU (g_free hD p1)⟩⟩ hg hn hsize hstack hW hdg hf
end GRF
theorem dX5_numbersWithin_0 : decode cX5_numbersWithin 0 = .ok (.iconst 0, 1) := by decide +kernel
theorem dX5_numbersWithin_1 : decode cX5_numbersWithin 1 = .ok (.istore_n 1, 1) := by decide +kernel
theorem dX5_numbersWithin_2 : decode cX5_numbersWithin 2 = .ok (.iconst 0, 1) := by decide +kernel
theorem dX5_numbersWithin_3 : decode cX5_numbersWithin 3 = .ok (.istore_n 2, 1) := by decide +kernel
theorem dX5_numbersWithin_4 : decode cX5_numbersWithin 4 = .ok (.iload_n 2, 1) := by decide +kernel
theorem dX5_numbersWithin_5 : decode cX5_numbersWithin 5 = .ok (.getstatic 259, 3) := by decide +kernel
theorem dX5_numbersWithin_8 : decode cX5_numbersWithin 8 = .ok (.arraylength, 1) := by decide +kernel
theorem dX5_numbersWithin_9 : decode cX5_numbersWithin 9 = .ok (.if_icmp .ge 74, 3) := by decide +kernel
theorem dX5_numbersWithin_12 : decode cX5_numbersWithin 12 = .ok (.iconst 0, 1) := by decide +kernel
theorem dX5_numbersWithin_13 : decode cX5_numbersWithin 13 = .ok (.istore_n 3, 1) := by decide +kernel
theorem dX5_numbersWithin_14 : decode cX5_numbersWithin 14 = .ok (.iload_n 3, 1) := by decide +kernel
theorem dX5_numbersWithin_15 : decode cX5_numbersWithin 15 = .ok (.getstatic 259, 3) := by decide +kernel
theorem dX5_numbersWithin_18 : decode cX5_numbersWithin 18 = .ok (.arraylength, 1) := by decide +kernel
theorem dX5_numbersWithin_19 : decode cX5_numbersWithin 19 = .ok (.if_icmp .ge 58, 3) := by decide +kernel
theorem dX5_numbersWithin_22 : decode cX5_numbersWithin 22 = .ok (.iconst 0, 1) := by decide +kernel
theorem dX5_numbersWithin_23 : decode cX5_numbersWithin 23 = .ok (.istore 4, 2) := by decide +kernel
theorem dX5_numbersWithin_25 : decode cX5_numbersWithin 25 = .ok (.iload 4, 2) := by decide +kernel
theorem dX5_numbersWithin_27 : decode cX5_numbersWithin 27 = .ok (.getstatic 259, 3) := by decide +kernel
theorem dX5_numbersWithin_30 : decode cX5_numbersWithin 30 = .ok (.arraylength, 1) := by decide +kernel
theorem dX5_numbersWithin_31 : decode cX5_numbersWithin 31 = .ok (.if_icmp .ge 40, 3) := by decide +kernel
theorem dX5_numbersWithin_34 : decode cX5_numbersWithin 34 = .ok (.iload_n 2, 1) := by decide +kernel
theorem dX5_numbersWithin_35 : decode cX5_numbersWithin 35 = .ok (.iload_n 3, 1) := by decide +kernel
theorem dX5_numbersWithin_36 : decode cX5_numbersWithin 36 = .ok (.iadd, 1) := by decide +kernel
theorem dX5_numbersWithin_37 : decode cX5_numbersWithin 37 = .ok (.iload 4, 2) := by decide +kernel
theorem dX5_numbersWithin_39 : decode cX5_numbersWithin 39 = .ok (.iadd, 1) := by decide +kernel
theorem dX5_numbersWithin_40 : decode cX5_numbersWithin 40 = .ok (.iload_n 0, 1) := by decide +kernel
theorem dX5_numbersWithin_41 : decode cX5_numbersWithin 41 = .ok (.if_icmp .gt 24, 3) := by decide +kernel
theorem dX5_numbersWithin_44 : decode cX5_numbersWithin 44 = .ok (.iload_n 1, 1) := by decide +kernel
theorem dX5_numbersWithin_45 : decode cX5_numbersWithin 45 = .ok (.getstatic 259, 3) := by decide +kernel
theorem dX5_numbersWithin_48 : decode cX5_numbersWithin 48 = .ok (.iload_n 2, 1) := by decide +kernel
theorem dX5_numbersWithin_49 : decode cX5_numbersWithin 49 = .ok (.iaload, 1) := by decide +kernel
theorem dX5_numbersWithin_50 : decode cX5_numbersWithin 50 = .ok (.getstatic 259, 3) := by decide +kernel
theorem dX5_numbersWithin_53 : decode cX5_numbersWithin 53 = .ok (.iload_n 3, 1) := by decide +kernel
theorem dX5_numbersWithin_54 : decode cX5_numbersWithin 54 = .ok (.iaload, 1) := by decide +kernel
theorem dX5_numbersWithin_55 : decode cX5_numbersWithin 55 = .ok (.imul, 1) := by decide +kernel
theorem dX5_numbersWithin_56 : decode cX5_numbersWithin 56 = .ok (.getstatic 259, 3) := by decide +kernel
theorem dX5_numbersWithin_59 : decode cX5_numbersWithin 59 = .ok (.iload 4, 2) := by decide +kernel
theorem dX5_numbersWithin_61 : decode cX5_numbersWithin 61 = .ok (.iaload, 1) := by decide +kernel
theorem dX5_numbersWithin_62 : decode cX5_numbersWithin 62 = .ok (.imul, 1) := by decide +kernel
theorem dX5_numbersWithin_63 : decode cX5_numbersWithin 63 = .ok (.iadd, 1) := by decide +kernel
theorem dX5_numbersWithin_64 : decode cX5_numbersWithin 64 = .ok (.istore_n 1, 1) := by decide +kernel
theorem dX5_numbersWithin_65 : decode cX5_numbersWithin 65 = .ok (.iinc 4 1, 3) := by decide +kernel
theorem dX5_numbersWithin_68 : decode cX5_numbersWithin 68 = .ok (.goto (-43), 3) := by decide +kernel
theorem dX5_numbersWithin_71 : decode cX5_numbersWithin 71 = .ok (.iinc 3 1, 3) := by decide +kernel
theorem dX5_numbersWithin_74 : decode cX5_numbersWithin 74 = .ok (.goto (-60), 3) := by decide +kernel
theorem dX5_numbersWithin_77 : decode cX5_numbersWithin 77 = .ok (.iinc 2 1, 3) := by decide +kernel
theorem dX5_numbersWithin_80 : decode cX5_numbersWithin 80 = .ok (.goto (-76), 3) := by decide +kernel
theorem dX5_numbersWithin_83 : decode cX5_numbersWithin 83 = .ok (.iload_n 1, 1) := by decide +kernel
theorem dX5_numbersWithin_84 : decode cX5_numbersWithin 84 = .ok (.ireturn, 1) := by decide +kernel
set_option maxHeartbeats 4000000 in
set_option maxRecDepth 100000 in
theorem c_X5_numbersWithin (E : GE) (l : Launch) (t : Nat) (x0 : Int32) (post : Int32 → Prop) (h : wp_X5_numbersWithin x0 post) : Met l yX5_numbersWithin (wz yX5_numbersWithin cX5_numbersWithin 5 (some .int)) { frames := 0, cells := 0, slots := 0, locals := 0 } (gPcF E [.int x0] (gW []) t) (gQi E (gW []) (fun r (_ : Unit) => post r) (fun (_ : Unit) w => w = gW [])) 0 0 (gIn (gW [])) := by
  unfold wp_X5_numbersWithin at h
  refine g_of_iF (by decide) (Nat.le_of_ble_eq_true rfl) ?_
  intro p e s m below meth c A Q hx hb hml hown ht hE hF hP hD hret ls hl
  have hK := hE.1
  have hS : va_S A s.heap s.heap [] := va_S.rf
  have hl : lv_has ls 5 [(0, .int x0)] := hl
  refine lv_iconst (v := 0) hx hb dX5_numbersWithin_0 (by decide) ?_
  refine lv_istore_n (lv' := [(1, .int 0), (0, .int x0)]) hx hb dX5_numbersWithin_1 rfl hl (by decide) rfl (fun ls hl => ?_)
  refine lv_iconst (v := 0) hx hb dX5_numbersWithin_2 (by decide) ?_
  refine lv_istore_n (lv' := [(2, .int 0), (1, .int 0), (0, .int x0)]) hx hb dX5_numbersWithin_3 rfl hl (by decide) rfl (fun ls hl => ?_)
  have L4 : ∀ (n4 : Nat) (x1_4 : Int32) (x2_4 : Int32) (H : Heap) (locs : List Loc) (ls : Array Slot), wp_X5_numbersWithin_L4 post x0 n4 x1_4 x2_4 → gP E (gW []) H → va_D A (gW []) → va_S A s.heap H locs → lv_has ls 5 [(0, .int x0), (1, .int x1_4), (2, .int x2_4)] → W p l e { frames := 0, cells := 0, slots := 0, locals := 0 } s m ([.int x0] : List Value).toArray below meth c H locs 0 0 Q (F0 m 4 ls []) := by
    intro n4
    induction n4 with
    | zero => intro x1_4 x2_4 H locs ls h; exact h.elim
    | succ n4 ih4 =>
      intro x1_4 x2_4 H locs ls h hP hD hS hl
      rw [wp_X5_numbersWithin_L4] at h
      refine lv_iload_n hx hb dX5_numbersWithin_4 rfl (lv_at hl 2 rfl) ?_
      refine va_gets hx hb hF.1 hS hown (ht _ wk_X5_259) (fun _ h9 => h9) dX5_numbersWithin_5 ?_
      refine va_tlen (v := 6) hx hb hF.2 hS rfl dX5_numbersWithin_8 ?_
      refine lv_icmp_ge (tgt := 83) hx hb dX5_numbersWithin_9 (by decide) (fun c_13 => ?_) (fun c_13 => ?_)
      · have h := h.1 c_13
        refine lv_iload_n hx hb dX5_numbersWithin_83 rfl (lv_at hl 1 rfl) ?_
        exact hret x1_4 () _ _ _ _ _ h rfl hP hD hS dX5_numbersWithin_84
      · have h := h.2 c_13
        refine lv_iconst (v := 0) hx hb dX5_numbersWithin_12 (by decide) ?_
        refine lv_istore_n (lv' := [(3, .int 0), (0, .int x0), (1, .int x1_4), (2, .int x2_4)]) hx hb dX5_numbersWithin_13 rfl hl (by decide) rfl (fun ls hl => ?_)
        have L14 : ∀ (n14 : Nat) (x1_14 : Int32) (x3_14 : Int32) (H : Heap) (locs : List Loc) (ls : Array Slot), wp_X5_numbersWithin_L14 post (fun x1_4 x2_4 => (wp_X5_numbersWithin_L4 post x0 n4 x1_4 x2_4)) x0 x2_4 n14 x1_14 x3_14 → gP E (gW []) H → va_D A (gW []) → va_S A s.heap H locs → lv_has ls 5 [(0, .int x0), (1, .int x1_14), (2, .int x2_4), (3, .int x3_14)] → W p l e { frames := 0, cells := 0, slots := 0, locals := 0 } s m ([.int x0] : List Value).toArray below meth c H locs 0 0 Q (F0 m 14 ls []) := by
          intro n14
          induction n14 with
          | zero => intro x1_14 x3_14 H locs ls h; exact h.elim
          | succ n14 ih14 =>
            intro x1_14 x3_14 H locs ls h hP hD hS hl
            rw [wp_X5_numbersWithin_L14] at h
            refine lv_iload_n hx hb dX5_numbersWithin_14 rfl (lv_at hl 3 rfl) ?_
            refine va_gets hx hb hF.1 hS hown (ht _ wk_X5_259) (fun _ h9 => h9) dX5_numbersWithin_15 ?_
            refine va_tlen (v := 6) hx hb hF.2 hS rfl dX5_numbersWithin_18 ?_
            refine lv_icmp_ge (tgt := 77) hx hb dX5_numbersWithin_19 (by decide) (fun c_14 => ?_) (fun c_14 => ?_)
            · have h := h.1 c_14
              refine lv_iinc (v := (x2_4 + 1)) (lv' := [(2, .int (x2_4 + 1)), (0, .int x0), (1, .int x1_14), (3, .int x3_14)]) hx hb dX5_numbersWithin_77 hl (k := 2) rfl rfl (by decide) rfl (fun ls hl => ?_)
              refine lv_goto (tgt := 4) hx hb dX5_numbersWithin_80 (by decide) ?_
              exact ih4 x1_14 (x2_4 + 1) _ _ _ h hP hD hS (lv_sub hl [1, 2, 0] rfl)
            · have h := h.2 c_14
              refine lv_iconst (v := 0) hx hb dX5_numbersWithin_22 (by decide) ?_
              refine lv_istore (lv' := [(4, .int 0), (0, .int x0), (1, .int x1_14), (2, .int x2_4), (3, .int x3_14)]) hx hb dX5_numbersWithin_23 hl (by decide) rfl (fun ls hl => ?_)
              have L25 : ∀ (n25 : Nat) (x1_25 : Int32) (x4_25 : Int32) (H : Heap) (locs : List Loc) (ls : Array Slot), wp_X5_numbersWithin_L25 post (fun x1_4 x2_4 => (wp_X5_numbersWithin_L4 post x0 n4 x1_4 x2_4)) (fun x1_14 x3_14 => (wp_X5_numbersWithin_L14 post (fun x1_4 x2_4 => (wp_X5_numbersWithin_L4 post x0 n4 x1_4 x2_4)) x0 x2_4 n14 x1_14 x3_14)) x0 x2_4 x3_14 n25 x1_25 x4_25 → gP E (gW []) H → va_D A (gW []) → va_S A s.heap H locs → lv_has ls 5 [(0, .int x0), (1, .int x1_25), (2, .int x2_4), (3, .int x3_14), (4, .int x4_25)] → W p l e { frames := 0, cells := 0, slots := 0, locals := 0 } s m ([.int x0] : List Value).toArray below meth c H locs 0 0 Q (F0 m 25 ls []) := by
                intro n25
                induction n25 with
                | zero => intro x1_25 x4_25 H locs ls h; exact h.elim
                | succ n25 ih25 =>
                  intro x1_25 x4_25 H locs ls h hP hD hS hl
                  rw [wp_X5_numbersWithin_L25] at h
                  refine lv_iload hx hb dX5_numbersWithin_25 (lv_at hl 4 rfl) ?_
                  refine va_gets hx hb hF.1 hS hown (ht _ wk_X5_259) (fun _ h9 => h9) dX5_numbersWithin_27 ?_
                  refine va_tlen (v := 6) hx hb hF.2 hS rfl dX5_numbersWithin_30 ?_
                  refine lv_icmp_ge (tgt := 71) hx hb dX5_numbersWithin_31 (by decide) (fun c_15 => ?_) (fun c_15 => ?_)
                  · have h := h.1 c_15
                    refine lv_iinc (v := (x3_14 + 1)) (lv' := [(3, .int (x3_14 + 1)), (0, .int x0), (1, .int x1_25), (2, .int x2_4), (4, .int x4_25)]) hx hb dX5_numbersWithin_71 hl (k := 3) rfl rfl (by decide) rfl (fun ls hl => ?_)
                    refine lv_goto (tgt := 14) hx hb dX5_numbersWithin_74 (by decide) ?_
                    exact ih14 x1_25 (x3_14 + 1) _ _ _ h hP hD hS (lv_sub hl [1, 2, 3, 0] rfl)
                  · have h := h.2 c_15
                    refine lv_iload_n hx hb dX5_numbersWithin_34 rfl (lv_at hl 2 rfl) ?_
                    refine lv_iload_n hx hb dX5_numbersWithin_35 rfl (lv_at hl 3 rfl) ?_
                    refine lv_iadd hx hb dX5_numbersWithin_36 ?_
                    refine lv_iload hx hb dX5_numbersWithin_37 (lv_at hl 4 rfl) ?_
                    refine lv_iadd hx hb dX5_numbersWithin_39 ?_
                    refine lv_iload_n hx hb dX5_numbersWithin_40 rfl (lv_at hl 0 rfl) ?_
                    refine lv_icmp_gt (tgt := 65) hx hb dX5_numbersWithin_41 (by decide) (fun c_16 => ?_) (fun c_16 => ?_)
                    · have h := h.1 c_16
                      refine lv_iinc (v := (x4_25 + 1)) (lv' := [(4, .int (x4_25 + 1)), (0, .int x0), (1, .int x1_25), (2, .int x2_4), (3, .int x3_14)]) hx hb dX5_numbersWithin_65 hl (k := 4) rfl rfl (by decide) rfl (fun ls hl => ?_)
                      refine lv_goto (tgt := 25) hx hb dX5_numbersWithin_68 (by decide) ?_
                      exact ih25 x1_25 (x4_25 + 1) _ _ _ h hP hD hS (lv_sub hl [1, 2, 3, 4, 0] rfl)
                    · have h := h.2 c_16
                      refine lv_iload_n hx hb dX5_numbersWithin_44 rfl (lv_at hl 1 rfl) ?_
                      refine va_gets hx hb hF.1 hS hown (ht _ wk_X5_259) (fun _ h9 => h9) dX5_numbersWithin_45 ?_
                      refine lv_iload_n hx hb dX5_numbersWithin_48 rfl (lv_at hl 2 rfl) ?_
                      refine va_ti (v := .int (figs x2_4.toNatClampNeg)) hx hb hF.2 hS h.1 rfl dX5_numbersWithin_49 ?_
                      have h := h.2
                      refine va_gets hx hb hF.1 hS hown (ht _ wk_X5_259) (fun _ h9 => h9) dX5_numbersWithin_50 ?_
                      refine lv_iload_n hx hb dX5_numbersWithin_53 rfl (lv_at hl 3 rfl) ?_
                      refine va_ti (v := .int (figs x3_14.toNatClampNeg)) hx hb hF.2 hS h.1 rfl dX5_numbersWithin_54 ?_
                      have h := h.2
                      refine lv_imul hx hb dX5_numbersWithin_55 ?_
                      refine va_gets hx hb hF.1 hS hown (ht _ wk_X5_259) (fun _ h9 => h9) dX5_numbersWithin_56 ?_
                      refine lv_iload hx hb dX5_numbersWithin_59 (lv_at hl 4 rfl) ?_
                      refine va_ti (v := .int (figs x4_25.toNatClampNeg)) hx hb hF.2 hS h.1 rfl dX5_numbersWithin_61 ?_
                      have h := h.2
                      refine lv_imul hx hb dX5_numbersWithin_62 ?_
                      refine lv_iadd hx hb dX5_numbersWithin_63 ?_
                      refine lv_topi (fun y_17 ey_17 => ?_)
                      have h := h y_17 ey_17
                      refine lv_istore_n (lv' := [(1, .int y_17), (0, .int x0), (2, .int x2_4), (3, .int x3_14), (4, .int x4_25)]) hx hb dX5_numbersWithin_64 rfl hl (by decide) rfl (fun ls hl => ?_)
                      refine lv_iinc (v := (x4_25 + 1)) (lv' := [(4, .int (x4_25 + 1)), (1, .int y_17), (0, .int x0), (2, .int x2_4), (3, .int x3_14)]) hx hb dX5_numbersWithin_65 hl (k := 4) rfl rfl (by decide) rfl (fun ls hl => ?_)
                      refine lv_goto (tgt := 25) hx hb dX5_numbersWithin_68 (by decide) ?_
                      exact ih25 y_17 (x4_25 + 1) _ _ _ h hP hD hS (lv_sub hl [2, 1, 3, 4, 0] rfl)
              obtain ⟨n25, h⟩ := h
              exact L25 n25 x1_14 0 _ _ _ h hP hD hS (lv_sub hl [1, 2, 3, 4, 0] rfl)
        obtain ⟨n14, h⟩ := h
        exact L14 n14 x1_4 0 _ _ _ h hP hD hS (lv_sub hl [1, 2, 3, 0] rfl)
  obtain ⟨n4, h⟩ := h
  exact L4 n4 0 0 _ _ _ h hP hD hS (lv_sub hl [2, 1, 0] rfl)
theorem dX5_near_0 : decode cX5_near 0 = .ok (.aload_n 0, 1) := by decide +kernel
theorem dX5_near_1 : decode cX5_near 1 = .ok (.iload_n 1, 1) := by decide +kernel
theorem dX5_near_2 : decode cX5_near 2 = .ok (.invokevirtual 71, 3) := by decide +kernel
theorem dX5_near_5 : decode cX5_near 5 = .ok (.ifCond .eq 13, 3) := by decide +kernel
theorem dX5_near_8 : decode cX5_near 8 = .ok (.iload_n 2, 1) := by decide +kernel
theorem dX5_near_9 : decode cX5_near 9 = .ok (.ifCond .lt 9, 3) := by decide +kernel
theorem dX5_near_12 : decode cX5_near 12 = .ok (.iload_n 2, 1) := by decide +kernel
theorem dX5_near_13 : decode cX5_near 13 = .ok (.bipush 15, 2) := by decide +kernel
theorem dX5_near_15 : decode cX5_near 15 = .ok (.if_icmp .le 5, 3) := by decide +kernel
theorem dX5_near_18 : decode cX5_near 18 = .ok (.iconst (-1), 1) := by decide +kernel
theorem dX5_near_19 : decode cX5_near 19 = .ok (.ireturn, 1) := by decide +kernel
theorem dX5_near_20 : decode cX5_near 20 = .ok (.iload_n 2, 1) := by decide +kernel
theorem dX5_near_21 : decode cX5_near 21 = .ok (.invokestatic 180, 3) := by decide +kernel
theorem dX5_near_24 : decode cX5_near 24 = .ok (.ireturn, 1) := by decide +kernel
set_option maxHeartbeats 4000000 in
set_option maxRecDepth 100000 in
theorem c_X5_near (E : GE) (l : Launch) (t : Nat) (G : Nat → Nat → Nat) (pl dr : Nat → Nat) (e0 e1 e2 : Nat → Nat → Nat) (Z0 : GC) (x1 : Int32) (x2 : Int32) (post : Int32 → Prop) (h : wp_X5_near Z0 x1 x2 post) : Met l yX5_near (wz yX5_near cX5_near 3 (some .int)) { frames := 1, cells := 0, slots := 0, locals := 24 } (gPcF E [.ref (G 0 99), .int x1, .int x2] (gcW E G pl dr e0 e1 e2 Z0) t) (gQi E (gcW E G pl dr e0 e1 e2 Z0) (fun r (_ : Unit) => post r) (fun (_ : Unit) w => w = gcW E G pl dr e0 e1 e2 Z0)) 0 0 (gIn (gcW E G pl dr e0 e1 e2 Z0)) := by
  unfold wp_X5_near at h
  refine g_of_iF (by decide) (Nat.le_of_ble_eq_true rfl) ?_
  intro p e s m below meth c A Q hx hb hml hown ht hE hF hP hD hret ls hl
  have hK := hE.1
  have hS : va_S A s.heap s.heap [] := va_S.rf
  have hl : lv_has ls 3 [(0, .ref (G 0 99)), (1, .int x1), (2, .int x2)] := hl
  refine lv_aload_n hx hb dX5_near_0 rfl (lv_at hl 0 rfl) ?_
  refine lv_iload_n hx hb dX5_near_1 rfl (lv_at hl 1 rfl) ?_
  have p1 := gB (n := 15) (bs := [bGC G (pl 99) (dr 99) Z0.1, bText E (G 1) (Z0.2.1 1), bNow E (G 2) (G 3) e0 (Z0.2.1 2), bScene E (G 3) (Z0.2.1 3), bPlan E pl (Z0.2.1 4), bPlan E dr (Z0.2.1 5), bRumour E (G 6) (Z0.2.1 6), bIm E G (Z0.2.1 7), bNow E (G 8) (G 10) e1 (Z0.2.1 8), bNow E (G 9) (G 11) e2 (Z0.2.1 9), bScene E (G 10) (Z0.2.1 10), bScene E (G 11) (Z0.2.1 11), bPool E e0 (Z0.2.2 0), bPool E e1 (Z0.2.2 1), bPool E e2 (Z0.2.2 2)]) (bc := [bGC G (pl 99) (dr 99) Z0.1, bText E (G 1) (Z0.2.1 1), bNow E (G 2) (G 3) e0 (Z0.2.1 2), bScene E (G 3) (Z0.2.1 3), bPlan E pl (Z0.2.1 4), bPlan E dr (Z0.2.1 5), bRumour E (G 6) (Z0.2.1 6), bIm E G (Z0.2.1 7), bNow E (G 8) (G 10) e1 (Z0.2.1 8), bNow E (G 9) (G 11) e2 (Z0.2.1 9), bScene E (G 10) (Z0.2.1 10), bScene E (G 11) (Z0.2.1 11), bPool E e0 (Z0.2.2 0), bPool E e1 (Z0.2.2 1), bPool E e2 (Z0.2.2 2)]) (br := []) [0, 1, 2, 3, 4, 5, 6, 7, 8, 9, 10, 11, 12, 13, 14] rfl rfl (by decide)
  refine g_i (g_runV (As := [.int x1]) (rest := []) ⟨hx, hb, hml, hown, ht⟩ hE (c_X5_isLock E l G pl dr e0 e1 e2 Z0 x1 _ h) ⟨rfl, rfl⟩ wk_X5_71 wi_X5_isLock ws_X5_isLock wn_X5 wc_X5_isLock yd_X5_isLock ⟨Nat.le_of_ble_eq_true rfl, Nat.le_of_ble_eq_true rfl⟩ hP hD p1 (ci := 5) rfl rfl rfl rfl rfl hl.1 rfl (lv_room (Nat.le_of_ble_eq_true rfl)) dX5_near_2 ⟨Nat.zero_le _, Nat.zero_le _⟩) hP hD hS p1 (fun r_1 _ w H locs h hw hP hD hS => ?_)
  subst hw
  clear p1
  have p2 := gB (n := 15) (bs := [bGC G (pl 99) (dr 99) Z0.1, bText E (G 1) (Z0.2.1 1), bNow E (G 2) (G 3) e0 (Z0.2.1 2), bScene E (G 3) (Z0.2.1 3), bPlan E pl (Z0.2.1 4), bPlan E dr (Z0.2.1 5), bRumour E (G 6) (Z0.2.1 6), bIm E G (Z0.2.1 7), bNow E (G 8) (G 10) e1 (Z0.2.1 8), bNow E (G 9) (G 11) e2 (Z0.2.1 9), bScene E (G 10) (Z0.2.1 10), bScene E (G 11) (Z0.2.1 11), bPool E e0 (Z0.2.2 0), bPool E e1 (Z0.2.2 1), bPool E e2 (Z0.2.2 2)]) (bc := [bGC G (pl 99) (dr 99) Z0.1, bText E (G 1) (Z0.2.1 1), bNow E (G 2) (G 3) e0 (Z0.2.1 2), bScene E (G 3) (Z0.2.1 3), bPlan E pl (Z0.2.1 4), bPlan E dr (Z0.2.1 5), bRumour E (G 6) (Z0.2.1 6), bIm E G (Z0.2.1 7), bNow E (G 8) (G 10) e1 (Z0.2.1 8), bNow E (G 9) (G 11) e2 (Z0.2.1 9), bScene E (G 10) (Z0.2.1 10), bScene E (G 11) (Z0.2.1 11), bPool E e0 (Z0.2.2 0), bPool E e1 (Z0.2.2 1), bPool E e2 (Z0.2.2 2)]) (br := []) [0, 1, 2, 3, 4, 5, 6, 7, 8, 9, 10, 11, 12, 13, 14] rfl rfl (by decide)
  have hP := gP_perm p2.symm hP
  have hD := gD_perm p2.symm hD
  clear p2
  have hP : gP E (gcW E G pl dr e0 e1 e2 Z0) H := hP
  have hD : va_D A (gcW E G pl dr e0 e1 e2 Z0) := hD
  refine lv_if_eq (tgt := 18) hx hb dX5_near_5 (by decide) (fun c_2 => ?_) (fun c_2 => ?_)
  · have h := h.1 c_2
    refine lv_iconst (v := (-1)) hx hb dX5_near_18 (by decide) ?_
    exact hret (-1) () _ _ _ _ _ h rfl hP hD hS dX5_near_19
  · have h := h.2 c_2
    refine lv_iload_n hx hb dX5_near_8 rfl (lv_at hl 2 rfl) ?_
    refine lv_if_lt (tgt := 18) hx hb dX5_near_9 (by decide) (fun c_3 => ?_) (fun c_3 => ?_)
    · have h := h.1 c_3
      refine lv_iconst (v := (-1)) hx hb dX5_near_18 (by decide) ?_
      exact hret (-1) () _ _ _ _ _ h rfl hP hD hS dX5_near_19
    · have h := h.2 c_3
      refine lv_iload_n hx hb dX5_near_12 rfl (lv_at hl 2 rfl) ?_
      refine lv_bipush (v := 15) hx hb dX5_near_13 (by decide) ?_
      refine lv_icmp_le (tgt := 20) hx hb dX5_near_15 (by decide) (fun c_4 => ?_) (fun c_4 => ?_)
      · have h := h.1 c_4
        refine lv_iload_n hx hb dX5_near_20 rfl (lv_at hl 2 rfl) ?_
        have p1 := gB (n := 15) (bs := [bGC G (pl 99) (dr 99) Z0.1, bText E (G 1) (Z0.2.1 1), bNow E (G 2) (G 3) e0 (Z0.2.1 2), bScene E (G 3) (Z0.2.1 3), bPlan E pl (Z0.2.1 4), bPlan E dr (Z0.2.1 5), bRumour E (G 6) (Z0.2.1 6), bIm E G (Z0.2.1 7), bNow E (G 8) (G 10) e1 (Z0.2.1 8), bNow E (G 9) (G 11) e2 (Z0.2.1 9), bScene E (G 10) (Z0.2.1 10), bScene E (G 11) (Z0.2.1 11), bPool E e0 (Z0.2.2 0), bPool E e1 (Z0.2.2 1), bPool E e2 (Z0.2.2 2)]) (bc := []) (br := [bGC G (pl 99) (dr 99) Z0.1, bText E (G 1) (Z0.2.1 1), bNow E (G 2) (G 3) e0 (Z0.2.1 2), bScene E (G 3) (Z0.2.1 3), bPlan E pl (Z0.2.1 4), bPlan E dr (Z0.2.1 5), bRumour E (G 6) (Z0.2.1 6), bIm E G (Z0.2.1 7), bNow E (G 8) (G 10) e1 (Z0.2.1 8), bNow E (G 9) (G 11) e2 (Z0.2.1 9), bScene E (G 10) (Z0.2.1 10), bScene E (G 11) (Z0.2.1 11), bPool E e0 (Z0.2.2 0), bPool E e1 (Z0.2.2 1), bPool E e2 (Z0.2.2 2)]) [0, 1, 2, 3, 4, 5, 6, 7, 8, 9, 10, 11, 12, 13, 14] rfl rfl (by decide)
        refine g_i (g_runSF (As := [.int x2]) (rest := []) ⟨hx, hb, hml, hown, ht⟩ hE hF hS (c_X5_numbersWithin E l t x2 _ h) ⟨rfl, rfl⟩ wk_X5_180 wt_X5_numbersWithin wn_X5 wc_X5_numbersWithin yd_X5_numbersWithin ⟨Nat.le_of_ble_eq_true rfl, Nat.le_of_ble_eq_true rfl⟩ hP hD p1 rfl rfl hl.1 rfl (lv_room (Nat.le_of_ble_eq_true rfl)) dX5_near_21 ⟨Nat.zero_le _, Nat.zero_le _⟩) hP hD hS p1 (fun r_5 _ w H locs h hw hP hD hS => ?_)
        subst hw
        have hP := gP_perm p1.symm hP
        have hD := gD_perm p1.symm hD
        clear p1
        have hP : gP E (gcW E G pl dr e0 e1 e2 Z0) H := hP
        have hD : va_D A (gcW E G pl dr e0 e1 e2 Z0) := hD
        exact hret r_5 () _ _ _ _ _ h rfl hP hD hS dX5_near_24
      · have h := h.2 c_4
        refine lv_iconst (v := (-1)) hx hb dX5_near_18 (by decide) ?_
        exact hret (-1) () _ _ _ _ _ h rfl hP hD hS dX5_near_19
