/-! ===== worlds as lists of blocks; contracts of methods that make nothing; calls ===== -/
/-- an object by its int fields (by slot) and its int arrays (by slot) -/
abbrev Ob : Type := (Nat → Int32) × (Nat → Nat → Int32)
def sa (A : Nat → Nat → Int32) (k : Nat) (g : Nat → Int32) : Nat → Nat → Int32 := fun j => if j = k then g else A j
def pf (S : Ob) (k : Nat) (v : Int32) : Ob := (upd S.1 k v, S.2)
def pa (S : Ob) (k i : Nat) (v : Int32) : Ob := (S.1, sa S.2 k (upd (S.2 k) i v))
def pw (S : Ob) (k : Nat) (g : Nat → Int32) : Ob := (S.1, sa S.2 k g)
/-- classes and slots of the classes; the array classes (0 int, 1 boolean, 2 Scene, 3 Now) -/
abbrev GE : Type := (Nat → ClassId) × (Nat → Nat → Nat) × (Nat → ClassId)
abbrev gcl : List vw_C := [(RX0, TX0, 3), (RX1, TX1, 5), (RX2, TX2, 9), (RX3, TX3, 5), (RX4, TX4, 6), (RX5, TX5, 8), (RX6, TX6, 26)]
abbrev gty (E : GE) : List (ClassId × FieldType) := [(E.2.2 0, .int), (E.2.2 1, .boolean), (E.2.2 2, .object RX3), (E.2.2 3, .object RX0)]
def gE (E : GE) (U : State) : Prop := va_K (E.1, E.2.1) gcl (gty E) U ∧ (va_Nw wx_X5_9_w U ∧ va_Nw wx_X5_40_w U ∧ va_Nw wx_X3_68_w U ∧ va_Nw wx_X3_64_w U ∧ va_Nw wx_X2_43_w U) ∧ va_AO RX3 U ∧ va_AO RX0 U
theorem gE.warm {E : GE} {s U : State} (hW : s.WarmedH U.vm) (h : gE E s) : gE E U := by
  obtain ⟨h1, ⟨n1, n2, n3, n4, n5⟩, a1, a2⟩ := h
  exact ⟨va_K.moved hW.alike h1, ⟨va_Nw.warmM hW n1, va_Nw.warmM hW n2, va_Nw.warmM hW n3, va_Nw.warmM hW n4, va_Nw.warmM hW n5⟩, va_AO.moved hW.alike a1, va_AO.moved hW.alike a2⟩
theorem gE.same {E : GE} {s U : State} (hv : s.vm = U.vm) (h : gE E s) : gE E U := by
  obtain ⟨h1, ⟨n1, n2, n3, n4, n5⟩, a1, a2⟩ := h
  have ha : s.vm.Alike U.vm := by rw [hv]; exact Vm.Alike.refl _
  exact ⟨va_K.moved ha h1, ⟨va_Nw.same rfl hv n1, va_Nw.same rfl hv n2, va_Nw.same rfl hv n3, va_Nw.same rfl hv n4, va_Nw.same rfl hv n5⟩, va_AO.moved ha a1, va_AO.moved ha a2⟩
abbrev gP (E : GE) (ws : va_W) (H : Heap) : Prop := va_P (E.1, E.2.1) gcl ws H
/-- the cells of a world -/
def gIn (ws : va_W) : Nat → Prop := fun q => ∃ (k : Nat) (e : va_E), ws[k]? = some (q, e)
def gW (bs : List va_W) : va_W := bs.flatten
theorem gP_iff {E : GE} {ws : va_W} {H : Heap} : gP E ws H ↔ ∀ q ∈ ws, va_at (E.1, E.2.1) gcl q H := by
  constructor
  · intro h q hq
    obtain ⟨i, hi⟩ := List.getElem?_of_mem hq
    exact h i q hi
  · intro h k q hq
    exact h q (List.mem_of_getElem? hq)
theorem gIn_iff {ws : va_W} {q : Nat} : gIn ws q ↔ ∃ e, (q, e) ∈ ws := by
  constructor
  · rintro ⟨k, e, h⟩
    exact ⟨e, List.mem_of_getElem? h⟩
  · rintro ⟨e, h⟩
    obtain ⟨i, hi⟩ := List.getElem?_of_mem h
    exact ⟨i, e, hi⟩
theorem va_D_iff {A : Nat → Prop} {ws : va_W} : va_D A ws ↔ ws.Pairwise (fun x y => x.1 ≠ y.1) ∧ ∀ q ∈ ws, A q.1 := by
  constructor
  · rintro ⟨h1, h2⟩
    refine ⟨?_, fun q hq => ?_⟩
    · rw [List.pairwise_iff_getElem]
      intro i j hi hj hij e
      have := h1 i j ws[i] ws[j] (List.getElem?_eq_getElem hi) (List.getElem?_eq_getElem hj) e
      omega
    · obtain ⟨i, hi⟩ := List.getElem?_of_mem hq
      exact h2 i q hi
  · rintro ⟨h1, h2⟩
    rw [List.pairwise_iff_getElem] at h1
    refine ⟨fun i j x y hi hj hxy => ?_, fun k q hk => h2 q (List.mem_of_getElem? hk)⟩
    obtain ⟨li, ei⟩ := List.getElem?_eq_some_iff.mp hi
    obtain ⟨lj, ej⟩ := List.getElem?_eq_some_iff.mp hj
    rcases Nat.lt_trichotomy i j with h | h | h
    · exact absurd (by rw [ei, ej]; exact hxy) (h1 i j li lj h)
    · exact h
    · exact absurd (by rw [ei, ej]; exact hxy.symm) (h1 j i lj li h)
theorem gP_perm {E : GE} {ws ws' : va_W} {H : Heap} (p : ws.Perm ws') (h : gP E ws H) : gP E ws' H := gP_iff.mpr fun q hq => gP_iff.mp h q (p.mem_iff.mpr hq)
theorem gD_perm {A : Nat → Prop} {ws ws' : va_W} (p : ws.Perm ws') (h : va_D A ws) : va_D A ws' := by
  rw [va_D_iff] at h ⊢
  exact ⟨p.pairwise h.1 (fun h => Ne.symm h), fun q hq => h.2 q (p.mem_iff.mpr hq)⟩
theorem gIn_perm {ws ws' : va_W} (p : ws.Perm ws') {q : Nat} (h : gIn ws q) : gIn ws' q := by
  rw [gIn_iff] at h ⊢
  obtain ⟨e, h⟩ := h
  exact ⟨e, p.mem_iff.mp h⟩
theorem gP_left {E : GE} {w1 w2 : va_W} {H : Heap} (h : gP E (w1 ++ w2) H) : gP E w1 H := gP_iff.mpr fun q hq => gP_iff.mp h q (List.mem_append_left _ hq)
theorem gD_left {A : Nat → Prop} {w1 w2 : va_W} (h : va_D A (w1 ++ w2)) : va_D A w1 := by
  rw [va_D_iff] at h ⊢
  exact ⟨(List.pairwise_append.mp h.1).1, fun q hq => h.2 q (List.mem_append_left _ hq)⟩
theorem gD_all {A : Nat → Prop} {ws : va_W} (h : va_D A ws) : va_D (fun _ => True) ws := h.weaken (fun _ _ _ _ => trivial)
theorem gD_self {A : Nat → Prop} {ws : va_W} (h : va_D A ws) : va_D (gIn ws) ws := ⟨h.1, fun k q hk => ⟨k, q.2, hk⟩⟩
/-- a list by places of another -/
theorem gperm_of {α : Type} {bs cs : List α} (ps : List Nat) (h : ps.map (fun i => bs[i]?) = cs.map some) (hp : ps.Perm (List.range bs.length)) : bs.Perm cs := by
  have h1 : (ps.map (fun i => bs[i]?)).Perm ((List.range bs.length).map (fun i => bs[i]?)) := hp.map _
  have h2 : (List.range bs.length).map (fun i => bs[i]?) = bs.map some := by
    apply List.ext_getElem?
    intro i
    rw [List.getElem?_map, List.getElem?_map]
    by_cases hi : i < bs.length
    · rw [List.getElem?_range hi, List.getElem?_eq_getElem hi]
      simp [List.getElem?_eq_getElem hi]
    · rw [List.getElem?_eq_none (by simpa using hi), List.getElem?_eq_none (by simpa using hi)]
      rfl
  rw [h, h2] at h1
  have h3 := h1.symm.filterMap id
  simpa [List.filterMap_map] using h3
theorem gW_perm {bs cs : List va_W} (h : bs.Perm cs) : (gW bs).Perm (gW cs) := h.flatten
theorem gW_app (bs cs : List va_W) : gW (bs ++ cs) = gW bs ++ gW cs := List.flatten_append
/-- the callee's blocks and the rest, by places -/
theorem gB {bs bc br : List va_W} (ps : List Nat) {n : Nat} (h : ps.map (fun i => bs[i]?) = (bc ++ br).map some) (hn : bs.length = n) (hp : ps.Perm (List.range n)) : (gW bs).Perm (gW bc ++ gW br) := by
  subst hn
  rw [← gW_app]
  exact gW_perm (gperm_of ps h hp)
/-- the same by cells -/
theorem gC {ws wc wr : va_W} (ps : List Nat) {n : Nat} (h : ps.map (fun i => ws[i]?) = (wc ++ wr).map some) (hn : ws.length = n) (hp : ps.Perm (List.range n)) : ws.Perm (wc ++ wr) := by
  subst hn
  exact gperm_of ps h hp
/-- behind a call -/
theorem g_join {E : GE} {A : Nat → Prop} {ws wc wr w1 : va_W} {H H1 : Heap} (hP : gP E ws H) (hD : va_D A ws) (p1 : ws.Perm (wc ++ wr)) (hk : ∀ q : Nat, q < H.size → ¬ gIn wc q → H1[q]? = H[q]?) (hP1 : gP E w1 H1) (hD1 : va_D (gIn wc) w1) : gP E (w1 ++ wr) H1 ∧ va_D A (w1 ++ wr) := by
  have hP' := gP_perm p1 hP
  have hD' := gD_perm p1 hD
  rw [va_D_iff] at hD' hD1 ⊢
  obtain ⟨a1, a2⟩ := hD'
  obtain ⟨b1, b2⟩ := hD1
  obtain ⟨c1, c2, c3⟩ := List.pairwise_append.mp a1
  refine ⟨gP_iff.mpr fun q hq => ?_, List.pairwise_append.mpr ⟨b1, c2, fun x hx y hy => ?_⟩, fun q hq => ?_⟩
  · rcases List.mem_append.mp hq with h | h
    · exact gP_iff.mp hP1 q h
    · have hat := gP_iff.mp hP' q (List.mem_append_right _ h)
      refine hat.kept (hk q.1 hat.lt fun hin => ?_)
      obtain ⟨e, he⟩ := gIn_iff.mp hin
      exact c3 _ he _ h rfl
  · intro e
    obtain ⟨e1, he⟩ := gIn_iff.mp (b2 x hx)
    exact c3 _ he _ hy e
  · rcases List.mem_append.mp hq with h | h
    · obtain ⟨e1, he⟩ := gIn_iff.mp (b2 q h)
      exact a2 (q.1, e1) (List.mem_append_left _ he)
    · exact a2 q (List.mem_append_right _ h)
theorem g_free {A : Nat → Prop} {ws wc wr : va_W} (hD : va_D A ws) (p1 : ws.Perm (wc ++ wr)) : ∀ q, gIn wc q → A q := by
  intro q h
  obtain ⟨e, he⟩ := gIn_iff.mp h
  exact (va_D_iff.mp (gD_perm p1 hD)).2 _ (List.mem_append_left _ he)
/-! contracts -/
def gPc (E : GE) (av : List Value) (ws : va_W) : Array Value → State → Prop := va_Pc av (fun U => gP E ws U.heap ∧ gE E U ∧ va_D (fun _ => True) ws)
def gB1 (E : GE) (wc : va_W) {S : Type} (wf : S → va_W → Prop) (u : S) (t : State) : Prop := ∃ w : va_W, wf u w ∧ gP E w t.heap ∧ va_D (gIn wc) w
def gQi (E : GE) (wc : va_W) {S : Type} (post : Int32 → S → Prop) (wf : S → va_W → Prop) := va_Qi post (gB1 E wc wf) (gIn wc)
def gQl (E : GE) (wc : va_W) {S : Type} (post : Int64 → S → Prop) (wf : S → va_W → Prop) := va_Ql post (gB1 E wc wf) (gIn wc)
def gQv (E : GE) (wc : va_W) {S : Type} (post : S → Prop) (wf : S → va_W → Prop) := va_Qv post (gB1 E wc wf) (gIn wc)
theorem gPc_blind (E : GE) (av : List Value) (ws : va_W) : FrameBlind (gPc E av ws) := fun a U g mk q => by
  obtain ⟨q0, q1, q2, q3⟩ := q
  exact ⟨q0, q1, q2.same (U := U.calling g mk a) rfl, q3⟩
/-- a method's words -/
def wz (y : MethodName) (c : ByteArray) (n : Nat) (r : Option FieldType) : List Cond := Cond.code y c n r :: tb
theorem wz_in {y : MethodName} {c : ByteArray} {n : Nat} {r : Option FieldType} (h : Cond.code y c n r ∈ tb) : GoodIn tb (wz y c n r) := by
  intro w hw
  rcases List.mem_cons.mp hw with rfl | hw
  · exact ⟨h, tb_good h⟩
  · exact ⟨hw, tb_good hw⟩
section GR
variable {p : Program} {l : Launch} {e : Env} {R : Room} {s : State} {m : MethodId} {args : Array Value} {below : List Frame} {meth : Method} {c : Code} {H : Heap} {locs : List Loc} {cells slots : Nat} {Q : State → Prop}
variable {y : MethodName} {bytes cc : ByteArray} {maxL nL n index : Nat} {ret : Option FieldType} {rm : Room} {Qc : Array Value → State → Outcome → State → Prop} {own C host : String} {b : Addr} {As rest : List Value} {g : JFrame} {E : GE} {ws wc wr : va_W} {A : Nat → Prop}
theorem g_runV (S : CallFix p m c cc nL s args tb own) (hE : gE E s) (hM : Met l y (wz y bytes maxL ret) rm (gPc E (.ref b :: As) wc) Qc 0 0 (gIn wc)) (hrc : rm.cells = 0 ∧ rm.slots = 0)
    (k1 : Cond.methodLink own index y ∈ tb) (k2 : Cond.instanceMethod y ∈ tb) (k3 : Cond.selects C y y ∈ tb) (k4 : Cond.initialized y.cls ∈ tb) (k5 : Cond.code y bytes maxL ret ∈ tb)
    (hd : y.cls ≠ "java/lang/invoke/MethodHandle" ∧ y.cls ≠ "java/lang/invoke/VarHandle" ∧ (parseMethodDescriptor y.desc).map (fun d => d.parameters.length) = some n) (hR : rm.frames + 1 ≤ R.frames ∧ 8 + (maxL + 11) + rm.locals ≤ R.locals)
    (hP : gP E ws H) (hD : va_D A ws) (p1 : ws.Perm (wc ++ wr)) {ci : Nat} {q : vw_C} {fs : List Value} (hc : gcl[ci]? = some q) (hq : q.1 = C) (he : wc[0]? = some (b, .inr (ci, fs)))
    (hg : g.method = m) (hn : As.length = n) (hsize : g.locals.size = nL) (hstack : g.stack = As.reverse ++ .ref b :: rest) (hW : 2 * g.monitorRoom + (rest.map fun v => v.category).sum ≤ 8) (hdg : decode cc g.pc = .ok (.invokevirtual index, 3)) (hf : cells ≤ R.cells ∧ slots ≤ R.slots) :
    va_Run p l e R s m args below meth c H locs cells slots 0 0 g rest (Qc (Value.ref b :: As).toArray) (gIn wc) := by
  subst hq
  have hPc := gP_left (gP_perm p1 hP)
  have hDc := gD_all (gD_left (gD_perm p1 hD))
  have ht := S.2.2.2.2
  refine va_runV S hM ⟨callB_of n ht (wz_in k5) rfl hrc.1 hrc.2 (ht _ k4) (ht _ k1) hd hR, ht _ k2, ht _ k3⟩ ⟨gPc_blind E _ _, va_recv hE.1 hPc hc he, fun U hU hW => ⟨rfl, by rw [hU]; exact hPc, hE.warm hW, hDc⟩⟩ hg hn hsize hstack hW hdg hf
theorem g_runS (S : CallFix p m c cc nL s args tb own) (hE : gE E s) (hM : Met l y (wz y bytes maxL ret) rm (gPc E As wc) Qc 0 0 (gIn wc)) (hrc : rm.cells = 0 ∧ rm.slots = 0)
    (k1 : Cond.methodLink own index y ∈ tb) (k2 : Cond.static y ∈ tb) (k4 : Cond.initialized y.cls ∈ tb) (k5 : Cond.code y bytes maxL ret ∈ tb)
    (hd : y.cls ≠ "java/lang/invoke/MethodHandle" ∧ y.cls ≠ "java/lang/invoke/VarHandle" ∧ (parseMethodDescriptor y.desc).map (fun d => d.parameters.length) = some n) (hR : rm.frames + 1 ≤ R.frames ∧ 8 + (maxL + 11) + rm.locals ≤ R.locals)
    (hP : gP E ws H) (hD : va_D A ws) (p1 : ws.Perm (wc ++ wr))
    (hg : g.method = m) (hn : As.length = n) (hsize : g.locals.size = nL) (hstack : g.stack = As.reverse ++ rest) (hW : 2 * g.monitorRoom + (rest.map fun v => v.category).sum ≤ 8) (hdg : decode cc g.pc = .ok (.invokestatic index, 3)) (hf : cells ≤ R.cells ∧ slots ≤ R.slots) :
    va_Run p l e R s m args below meth c H locs cells slots 0 0 g rest (Qc As.toArray) (gIn wc) := by
  have hPc := gP_left (gP_perm p1 hP)
  have hDc := gD_all (gD_left (gD_perm p1 hD))
  have ht := S.2.2.2.2
  refine va_runS S hM ⟨callB_of n ht (wz_in k5) rfl hrc.1 hrc.2 (ht _ k4) (ht _ k1) hd hR, ht _ k2⟩ ⟨gPc_blind E _ _, fun U hU hW => ⟨rfl, by rw [hU]; exact hPc, hE.warm hW, hDc⟩⟩ hg hn hsize hstack hW hdg hf
theorem g_runSN (S : CallFix p m c cc nL s args tb own) (hE : gE E s) (hM : Met l y (wz y bytes maxL ret) rm (gPc E As wc) Qc 0 0 (gIn wc)) (hrc : rm.cells = 0 ∧ rm.slots = 0)
    (k1 : va_Nw (.methodLinkNest own index y host) s) (k2 : Cond.static y ∈ tb) (k4 : Cond.initialized y.cls ∈ tb) (k5 : Cond.code y bytes maxL ret ∈ tb)
    (hd : y.cls ≠ "java/lang/invoke/MethodHandle" ∧ y.cls ≠ "java/lang/invoke/VarHandle" ∧ (parseMethodDescriptor y.desc).map (fun d => d.parameters.length) = some n) (hR : rm.frames + 1 ≤ R.frames ∧ 8 + (maxL + 11) + rm.locals ≤ R.locals)
    (hP : gP E ws H) (hD : va_D A ws) (p1 : ws.Perm (wc ++ wr))
    (hg : g.method = m) (hn : As.length = n) (hsize : g.locals.size = nL) (hstack : g.stack = As.reverse ++ rest) (hW : 2 * g.monitorRoom + (rest.map fun v => v.category).sum ≤ 8) (hdg : decode cc g.pc = .ok (.invokestatic index, 3)) (hf : cells ≤ R.cells ∧ slots ≤ R.slots) :
    va_Run p l e R s m args below meth c H locs cells slots 0 0 g rest (Qc As.toArray) (gIn wc) := by
  have hPc := gP_left (gP_perm p1 hP)
  have hDc := gD_all (gD_left (gD_perm p1 hD))
  have ht := S.2.2.2.2
  refine va_runSN S hM ⟨va_cnB n ht (wz_in k5) rfl hrc.1 hrc.2 k1 (ht _ k4) hd hR, ht _ k2, trivial⟩ ⟨gPc_blind E _ _, fun U hU hW => ⟨rfl, by rw [hU]; exact hPc, hE.warm hW, hDc⟩⟩ hg hn hsize hstack hW hdg hf
variable {pc : Nat} {ls : Array Slot} {st0 : List Value} {a : Array Value} {H0 : Heap}
theorem g_i {S : Type} {post : Int32 → S → Prop} {wf : S → va_W → Prop} (hr : va_Run p l e R s m args below meth c H locs cells slots 0 0 (F0 m pc ls st0) rest (gQi E wc post wf a) (gIn wc)) (hP : gP E ws H) (hD : va_D A ws) (hS : va_S A H0 H locs) (p1 : ws.Perm (wc ++ wr))
    (kk : ∀ (r : Int32) (u : S) (w : va_W) (H1 : Heap) (locs1 : List Loc), post r u → wf u w → gP E (w ++ wr) H1 → va_D A (w ++ wr) → va_S A H0 H1 locs1 → W p l e R s m args below meth c H1 locs1 cells slots Q (F0 m (pc + 3) ls (.int r :: rest))) : W p l e R s m args below meth c H locs cells slots Q (F0 m pc ls st0) := by
  have hF := g_free hD p1
  refine va_calli hr hS (fun q _ h => hF q h) hF (fun r u t H1 locs1 ht hvm hw hB hz1 hk1 hS1 => ?_)
  obtain ⟨w, hwf, hP1, hD1⟩ := hB
  rw [ht] at hP1
  obtain ⟨j1, j2⟩ := g_join hP hD p1 hk1 hP1 hD1
  exact kk r u w H1 locs1 hw hwf j1 j2 hS1
theorem g_l {S : Type} {post : Int64 → S → Prop} {wf : S → va_W → Prop} (hr : va_Run p l e R s m args below meth c H locs cells slots 0 0 (F0 m pc ls st0) rest (gQl E wc post wf a) (gIn wc)) (hP : gP E ws H) (hD : va_D A ws) (hS : va_S A H0 H locs) (p1 : ws.Perm (wc ++ wr))
    (kk : ∀ (r : Int64) (u : S) (w : va_W) (H1 : Heap) (locs1 : List Loc), post r u → wf u w → gP E (w ++ wr) H1 → va_D A (w ++ wr) → va_S A H0 H1 locs1 → W p l e R s m args below meth c H1 locs1 cells slots Q (F0 m (pc + 3) ls (.long r :: rest))) : W p l e R s m args below meth c H locs cells slots Q (F0 m pc ls st0) := by
  have hF := g_free hD p1
  refine va_calll hr hS (fun q _ h => hF q h) hF (fun r u t H1 locs1 ht hvm hw hB hz1 hk1 hS1 => ?_)
  obtain ⟨w, hwf, hP1, hD1⟩ := hB
  rw [ht] at hP1
  obtain ⟨j1, j2⟩ := g_join hP hD p1 hk1 hP1 hD1
  exact kk r u w H1 locs1 hw hwf j1 j2 hS1
theorem g_v {S : Type} {post : S → Prop} {wf : S → va_W → Prop} (hr : va_Run p l e R s m args below meth c H locs cells slots 0 0 (F0 m pc ls st0) rest (gQv E wc post wf a) (gIn wc)) (hP : gP E ws H) (hD : va_D A ws) (hS : va_S A H0 H locs) (p1 : ws.Perm (wc ++ wr))
    (kk : ∀ (u : S) (w : va_W) (H1 : Heap) (locs1 : List Loc), post u → wf u w → gP E (w ++ wr) H1 → va_D A (w ++ wr) → va_S A H0 H1 locs1 → W p l e R s m args below meth c H1 locs1 cells slots Q (F0 m (pc + 3) ls (rest))) : W p l e R s m args below meth c H locs cells slots Q (F0 m pc ls st0) := by
  have hF := g_free hD p1
  refine va_callv hr hS (fun q _ h => hF q h) hF (fun u t H1 locs1 ht hvm hw hB hz1 hk1 hS1 => ?_)
  obtain ⟨w, hwf, hP1, hD1⟩ := hB
  rw [ht] at hP1
  obtain ⟨j1, j2⟩ := g_join hP hD p1 hk1 hP1 hD1
  exact kk u w H1 locs1 hw hwf j1 j2 hS1
/-- the top by an equal number -/
theorem lv_asi {x x' : Int32} (h : x = x') (k : W p l e R s m args below meth c H locs cells slots Q (F0 m pc ls (.int x' :: rest))) : W p l e R s m args below meth c H locs cells slots Q (F0 m pc ls (.int x :: rest)) := h ▸ k
end GR
section GO
variable {l : Launch} {y : MethodName} {cc : ByteArray} {maxL : Nat} {rm : Room} {av : List Value} {E : GE} {W0 : va_W}
theorem g_of_i {S : Type} {post : Int32 → S → Prop} {wf : S → va_W → Prop} (hy : plainName y.cls = true) (hav : (lg_sl av).length ≤ maxL)
    (body : ∀ (p : Program) (e : Env) (s : State) (m : MethodId) (below : List Frame) (meth : Method) (c : Code) (A : Nat → Prop) (Q : State → Prop), p.tables.exec = Jvm.exec → c.code = cc → c.maxLocals = maxL → s.vm.findClass y.cls = some m.cls → (∀ w ∈ tb, w.before av.toArray s = true) → gE E s → gP E W0 s.heap → va_D A W0 →
      (∀ (v : Int32) (u : S) (w : va_W) (H : Heap) (locs : List Loc) (pc : Nat) (ls : Array Slot), post v u → wf u w → gP E w H → va_D A w → va_S A s.heap H locs → decode cc pc = .ok (.ireturn, 1) → W p l e rm s m av.toArray below meth c H locs 0 0 Q (F0 m pc ls [.int v])) →
      ∀ ls : Array Slot, lv_has ls maxL (lv_args 0 av) → W p l e rm s m av.toArray below meth c s.heap [] 0 0 Q (F0 m 0 ls [])) : Met l y (wz y cc maxL (some .int)) rm (gPc E av W0) (gQi E W0 post wf) 0 0 (gIn W0) := by
  refine Met.ofW (cc := cc) (maxL := maxL) (ret := some .int) hy rfl ?_
  intro p e s m args below meth c s₁ B hml hv
  obtain ⟨rfl, hP, hE, hD0⟩ := hv
  have hr := B.returns
  have hlocks := B.notSynchronized
  have hts := atoms_spec (ws := wz y cc maxL (some .int)) B.pre
  have hl := lv_entry av (n := maxL) hav
  rw [lg_entry_eq]
  refine body p e s m below meth c (gIn W0) _ B.exec B.bytes hml (findClass_of_methodNamed B.named) (fun w hw => hts w (List.mem_cons_of_mem _ hw)) hE hP (gD_self hD0) (fun v u w H locs pc ls h hw hP hD hS d => ?_) _ hl
  exact W.iret (v := v) B.exec B.bytes hr (fun t ht hW => ⟨⟨v, u, rfl, h, w, hw, by rw [ht]; exact hP, hD⟩, hS.F ht⟩) hS.2.2 d
theorem g_of_z {S : Type} {post : Int32 → S → Prop} {wf : S → va_W → Prop} (hy : plainName y.cls = true) (hav : (lg_sl av).length ≤ maxL)
    (body : ∀ (p : Program) (e : Env) (s : State) (m : MethodId) (below : List Frame) (meth : Method) (c : Code) (A : Nat → Prop) (Q : State → Prop), p.tables.exec = Jvm.exec → c.code = cc → c.maxLocals = maxL → s.vm.findClass y.cls = some m.cls → (∀ w ∈ tb, w.before av.toArray s = true) → gE E s → gP E W0 s.heap → va_D A W0 →
      (∀ (v : Int32) (u : S) (w : va_W) (H : Heap) (locs : List Loc) (pc : Nat) (ls : Array Slot), narrow .boolean (.int v) = .int v → post v u → wf u w → gP E w H → va_D A w → va_S A s.heap H locs → decode cc pc = .ok (.ireturn, 1) → W p l e rm s m av.toArray below meth c H locs 0 0 Q (F0 m pc ls [.int v])) →
      ∀ ls : Array Slot, lv_has ls maxL (lv_args 0 av) → W p l e rm s m av.toArray below meth c s.heap [] 0 0 Q (F0 m 0 ls [])) : Met l y (wz y cc maxL (some .boolean)) rm (gPc E av W0) (gQi E W0 post wf) 0 0 (gIn W0) := by
  refine Met.ofW (cc := cc) (maxL := maxL) (ret := some .boolean) hy rfl ?_
  intro p e s m args below meth c s₁ B hml hv
  obtain ⟨rfl, hP, hE, hD0⟩ := hv
  have hr := B.returns
  have hlocks := B.notSynchronized
  have hts := atoms_spec (ws := wz y cc maxL (some .boolean)) B.pre
  have hl := lv_entry av (n := maxL) hav
  rw [lg_entry_eq]
  refine body p e s m below meth c (gIn W0) _ B.exec B.bytes hml (findClass_of_methodNamed B.named) (fun w hw => hts w (List.mem_cons_of_mem _ hw)) hE hP (gD_self hD0) (fun v u w H locs pc ls hn h hw hP hD hS d => ?_) _ hl
  exact W.zret (v := v) (ty := .boolean) B.exec B.bytes hr hn (fun t ht hW => ⟨⟨v, u, rfl, h, w, hw, by rw [ht]; exact hP, hD⟩, hS.F ht⟩) hS.2.2 d
theorem g_of_v {S : Type} {post : S → Prop} {wf : S → va_W → Prop} (hy : plainName y.cls = true) (hav : (lg_sl av).length ≤ maxL)
    (body : ∀ (p : Program) (e : Env) (s : State) (m : MethodId) (below : List Frame) (meth : Method) (c : Code) (A : Nat → Prop) (Q : State → Prop), p.tables.exec = Jvm.exec → c.code = cc → c.maxLocals = maxL → s.vm.findClass y.cls = some m.cls → (∀ w ∈ tb, w.before av.toArray s = true) → gE E s → gP E W0 s.heap → va_D A W0 →
      (∀ (u : S) (w : va_W) (H : Heap) (locs : List Loc) (pc : Nat) (ls : Array Slot), post u → wf u w → gP E w H → va_D A w → va_S A s.heap H locs → decode cc pc = .ok (.return_, 1) → W p l e rm s m av.toArray below meth c H locs 0 0 Q (F0 m pc ls [])) →
      ∀ ls : Array Slot, lv_has ls maxL (lv_args 0 av) → W p l e rm s m av.toArray below meth c s.heap [] 0 0 Q (F0 m 0 ls [])) : Met l y (wz y cc maxL none) rm (gPc E av W0) (gQv E W0 post wf) 0 0 (gIn W0) := by
  refine Met.ofW (cc := cc) (maxL := maxL) (ret := none) hy rfl ?_
  intro p e s m args below meth c s₁ B hml hv
  obtain ⟨rfl, hP, hE, hD0⟩ := hv
  have hr := B.returns
  have hlocks := B.notSynchronized
  have hts := atoms_spec (ws := wz y cc maxL none) B.pre
  have hl := lv_entry av (n := maxL) hav
  rw [lg_entry_eq]
  refine body p e s m below meth c (gIn W0) _ B.exec B.bytes hml (findClass_of_methodNamed B.named) (fun w hw => hts w (List.mem_cons_of_mem _ hw)) hE hP (gD_self hD0) (fun u w H locs pc ls h hw hP hD hS d => ?_) _ hl
  exact W.vret B.exec B.bytes hr (fun t ht hW => ⟨⟨u, rfl, h, w, hw, by rw [ht]; exact hP, hD⟩, hS.F ht⟩) hS.2.2 d
theorem g_of_l {S : Type} {post : Int64 → S → Prop} {wf : S → va_W → Prop} (hy : plainName y.cls = true) (hav : (lg_sl av).length ≤ maxL)
    (body : ∀ (p : Program) (e : Env) (s : State) (m : MethodId) (below : List Frame) (meth : Method) (c : Code) (A : Nat → Prop) (Q : State → Prop), p.tables.exec = Jvm.exec → c.code = cc → c.maxLocals = maxL → s.vm.findClass y.cls = some m.cls → (∀ w ∈ tb, w.before av.toArray s = true) → gE E s → gP E W0 s.heap → va_D A W0 →
      (∀ (v : Int64) (u : S) (w : va_W) (H : Heap) (locs : List Loc) (pc : Nat) (ls : Array Slot), post v u → wf u w → gP E w H → va_D A w → va_S A s.heap H locs → decode cc pc = .ok (.lreturn, 1) → W p l e rm s m av.toArray below meth c H locs 0 0 Q (F0 m pc ls [.long v])) →
      ∀ ls : Array Slot, lv_has ls maxL (lv_args 0 av) → W p l e rm s m av.toArray below meth c s.heap [] 0 0 Q (F0 m 0 ls [])) : Met l y (wz y cc maxL (some .long)) rm (gPc E av W0) (gQl E W0 post wf) 0 0 (gIn W0) := by
  refine Met.ofW (cc := cc) (maxL := maxL) (ret := some .long) hy rfl ?_
  intro p e s m args below meth c s₁ B hml hv
  obtain ⟨rfl, hP, hE, hD0⟩ := hv
  have hr := B.returns
  have hlocks := B.notSynchronized
  have hts := atoms_spec (ws := wz y cc maxL (some .long)) B.pre
  have hl := lv_entry av (n := maxL) hav
  rw [lg_entry_eq]
  refine body p e s m below meth c (gIn W0) _ B.exec B.bytes hml (findClass_of_methodNamed B.named) (fun w hw => hts w (List.mem_cons_of_mem _ hw)) hE hP (gD_self hD0) (fun v u w H locs pc ls h hw hP hD hS d => ?_) _ hl
  exact W.lret (v := v) B.exec B.bytes hr (fun t ht hW => ⟨⟨v, u, rfl, h, w, hw, by rw [ht]; exact hP, hD⟩, hS.F ht⟩) hS.2.2 d
end GO
/-- switches from 0 on -/
theorem sw_out {x : Int32} (n : Nat) (hn : n < 2 ^ 31) : (∃ k, k < n ∧ x = nI k) ∨ (x.toInt < 0 ∨ (n : Int) - 1 < x.toInt) := by
  by_cases h : x.toInt < 0
  · exact Or.inr (Or.inl h)
  · by_cases h2 : x.toInt < n
    · refine Or.inl ⟨x.toInt.toNat, by omega, ?_⟩
      apply Int32.toInt_inj.mp
      rw [nI_toInt (by omega)]
      omega
    · exact Or.inr (Or.inr (by omega))
/-! blocks -/
abbrev bInt (E : GE) (q n : Nat) (f : Nat → Int32) : Nat × va_E := (q, .inl (E.2.2 0, n, .inl f))
abbrev bPlan (E : GE) (a : Nat → Nat) (S : Ob) : va_W := [(a 99, .inr (1, [.ref (a 0), .ref (a 1), .ref (a 2), .int (S.1 3), .int (S.1 4)])), bInt E (a 0) 8 (S.2 0), bInt E (a 1) 8 (S.2 1), bInt E (a 2) 6 (S.2 2)]
abbrev bRumour (E : GE) (a : Nat → Nat) (S : Ob) : va_W := [(a 99, .inr (2, [.ref (a 0), .int (S.1 1), .int (S.1 2), .ref (a 3), .ref (a 4), .ref (a 5), .ref (a 6), .ref (a 7), .ref (a 8)])), bInt E (a 0) 1000 (S.2 0), bInt E (a 3) 10 (S.2 3), bInt E (a 4) 10 (S.2 4), bInt E (a 5) 10 (S.2 5), bInt E (a 6) 100 (S.2 6), bInt E (a 7) 100 (S.2 7), bInt E (a 8) 100 (S.2 8)]
abbrev bScene (E : GE) (a : Nat → Nat) (S : Ob) : va_W := [(a 99, .inr (3, [.ref (a 0), .ref (a 1), .ref (a 2), .ref (a 3), .int (S.1 4)])), bInt E (a 0) 8 (S.2 0), bInt E (a 1) 8 (S.2 1), bInt E (a 2) 8 (S.2 2), bInt E (a 3) 8 (S.2 3)]
abbrev bText (E : GE) (a : Nat → Nat) (S : Ob) : va_W := [(a 99, .inr (4, [.ref (a 0), .int (S.1 1), .int (S.1 2), .int (S.1 3), .int (S.1 4), .int (S.1 5)])), bInt E (a 0) 150 (S.2 0)]
abbrev Mo : Type := Ob × Int64
abbrev bModel (E : GE) (a : Nat → Nat) (M : Mo) : va_W := [(a 99, .inr (6, [.int (M.1.1 0), .int (M.1.1 1), .ref (a 2), .int (M.1.1 3), .int (M.1.1 4), .ref (a 5), .ref (a 6), .ref (a 7), .ref (a 8), .int (M.1.1 9), .int (M.1.1 10), .ref (a 11), .ref (a 12), .ref (a 13), .int (M.1.1 14), .ref (a 15), .int (M.1.1 16), .ref (a 17), .ref (a 18), .long M.2, .int (M.1.1 20), .int (M.1.1 21), .int (M.1.1 22), .int (M.1.1 23), .ref (a 24), .ref (a 25)])), bInt E (a 2) 6 (M.1.2 2), bInt E (a 5) 6 (M.1.2 5), bInt E (a 6) 32 (M.1.2 6), bInt E (a 7) 32 (M.1.2 7), bInt E (a 8) 320 (M.1.2 8), bInt E (a 11) 64 (M.1.2 11), bInt E (a 12) 2 (M.1.2 12), bInt E (a 13) 640 (M.1.2 13), bInt E (a 15) 150 (M.1.2 15), bInt E (a 17) 4 (M.1.2 17), bInt E (a 18) 4 (M.1.2 18), bInt E (a 24) 250 (M.1.2 24), bInt E (a 25) 4 (M.1.2 25)]
abbrev bNow (E : GE) (a c : Nat → Nat) (e : Nat → Nat → Nat) (S : Ob) : va_W := [(a 99, .inr (0, [.ref (c 99), .ref (a 1), .int (S.1 2)])), (a 1, .inl (E.2.2 2, 10, .inr (.inr (.inr (.inr (fun i => some (e i 99)))))))]
def bPool (E : GE) (e : Nat → Nat → Nat) (O : Nat → Ob) : va_W := (List.range 10).flatMap (fun i => bScene E (e i) (O i))
/-! the model's fields -/
def pmf (M : Mo) (k : Nat) (v : Int32) : Mo := (pf M.1 k v, M.2)
def pma (M : Mo) (k i : Nat) (v : Int32) : Mo := (pa M.1 k i v, M.2)
def pmt (M : Mo) (t : Int64) : Mo := (M.1, t)
/-! one cell of a world -/
theorem g_c1 {ws : va_W} {c : Nat} {x : Nat × va_E} (h : ws[c]? = some x) : ws.Perm ([x] ++ ws.eraseIdx c) := by
  obtain ⟨hc, e⟩ := List.getElem?_eq_some_iff.mp h
  have h1 : ws = ws.take c ++ x :: ws.drop (c + 1) := by
    rw [← e, List.getElem_cons_drop, List.take_append_drop]
  rw [List.eraseIdx_eq_take_drop_succ]
  conv => lhs; rw [h1]
  exact List.perm_middle
theorem g_c2 {ws : va_W} {c : Nat} {x x' : Nat × va_E} (h : ws[c]? = some x) : ([x'] ++ ws.eraseIdx c).Perm (ws.set c x') := by
  obtain ⟨hc, -⟩ := List.getElem?_eq_some_iff.mp h
  have h2 : (ws.set c x')[c]? = some x' := List.getElem?_set_self hc
  have h3 := g_c1 h2
  rw [List.eraseIdx_set_eq] at h3
  exact h3.symm
def afill (k : Nat) (f : Nat → Int32) (v : Int32) : Nat → Int32 := fun j => if j < k then v else f j
theorem afill_succ (k : Nat) (f : Nat → Int32) (v : Int32) : upd (afill k f v) k v = afill (k + 1) f v := by
  funext j
  unfold upd afill
  by_cases h : j = k
  · simp [h]
  · by_cases h2 : j < k
    · simp [h, h2, Nat.lt_succ_of_lt h2]
    · simp [h, h2, show ¬ j < k + 1 by omega]
/-! pools of ten scenes; the class's own world -/
def po (O : Nat → Ob) (t : Nat) (S : Ob) : Nat → Ob := fun j => if j = t then S else O j
def bPoolR (E : GE) (e : Nat → Nat → Nat) (O : Nat → Ob) (t : Nat) : va_W := ((List.range 10).erase t).flatMap (fun i => bScene E (e i) (O i))
theorem pool_split (E : GE) (e : Nat → Nat → Nat) (O : Nat → Ob) {t : Nat} (ht : t < 10) : (bPool E e O).Perm (bScene E (e t) (O t) ++ bPoolR E e O t) := by
  have h : (List.range 10).Perm (t :: (List.range 10).erase t) := List.perm_cons_erase (List.mem_range.mpr ht)
  have h2 := h.flatMap_right (fun i => bScene E (e i) (O i))
  simpa [bPool, bPoolR, List.flatMap_cons] using h2
theorem pool_back (E : GE) (e : Nat → Nat → Nat) (O : Nat → Ob) {t : Nat} (S : Ob) (ht : t < 10) : (bPool E e (po O t S)).Perm (bScene E (e t) S ++ bPoolR E e O t) := by
  have h := pool_split E e (po O t S) ht
  have e1 : (po O t S) t = S := by simp [po]
  have e2 : bPoolR E e (po O t S) t = bPoolR E e O t := by
    unfold bPoolR
    have hd : (List.range 10).Nodup := List.nodup_range
    have hm : ∀ j ∈ (List.range 10).erase t, j ≠ t := fun j hj => (hd.mem_erase_iff.mp hj).1
    generalize (List.range 10).erase t = l at hm
    induction l with
    | nil => rfl
    | cons a l ih =>
      rw [List.flatMap_cons, List.flatMap_cons, ih (fun j hj => hm j (List.mem_cons_of_mem _ hj))]
      have : po O t S a = O a := by simp [po, hm a List.mem_cons_self]
      rw [this]
  rw [e1, e2] at h
  exact h
theorem gW_sub {bs : List va_W} (k : Nat) {b x r : va_W} (hk : bs[k]? = some b) (hp : b.Perm (x ++ r)) : (gW bs).Perm (gW (bs.set k x ++ [r])) := by
  obtain ⟨hl, e⟩ := List.getElem?_eq_some_iff.mp hk
  have h1 : bs = bs.take k ++ b :: bs.drop (k + 1) := by
    rw [← e, List.getElem_cons_drop, List.take_append_drop]
  have h2 : bs.set k x = bs.take k ++ x :: bs.drop (k + 1) := List.set_eq_take_append_cons_drop.trans (by simp [hl])
  rw [h2]
  conv => lhs; rw [h1]
  simp only [gW, List.flatten_append, List.flatten_cons, List.flatten_nil, List.append_nil, List.append_assoc]
  refine List.Perm.append_left _ ?_
  refine (hp.append_right _).trans ?_
  rw [List.append_assoc]
  exact List.Perm.append_left _ List.perm_append_comm
theorem vp_lt {i : Int32} {n : Nat} (h : vp_in i n) : i.toNatClampNeg < n := Nat.not_le.mp fun q => h (Or.inr q)
theorem vp_2 {i : Int32} (h : vp_in i 2) : i = 0 ∨ i = 1 := by
  obtain ⟨j, hj, rfl⟩ := vp_in_of h (by decide)
  rcases (show j = 0 ∨ j = 1 by omega) with rfl | rfl
  · exact Or.inl rfl
  · exact Or.inr rfl
/-- the class: THE TRACE; its parts by number (1 text, 2 present, 3 its scene, 4 plan, 5 draft, 6 rumour, 7 images kept, 8 and 9 images, 10 and 11 their scenes); the scenes ahead -/
abbrev GC : Type := Int64 × (Nat → Ob) × (Nat → Nat → Ob)
def gx (Z : GC) (b : Nat) (S : Ob) : GC := (Z.1, (fun j => if j = b then S else Z.2.1 j), Z.2.2)
def gpo (Z : GC) (k : Nat) (O : Nat → Ob) : GC := (Z.1, Z.2.1, (fun j => if j = k then O else Z.2.2 j))
def gtr (Z : GC) (t : Int64) : GC := (t, Z.2.1, Z.2.2)
abbrev bGC (G : Nat → Nat → Nat) (p d : Nat) (t : Int64) : va_W := [(G 0 99, .inr (5, [.ref (G 1 99), .ref (G 2 99), .ref (G 7 2), .ref (G 7 3), .ref (G 6 99), .ref p, .ref d, .long t]))]
abbrev bIm (E : GE) (G : Nat → Nat → Nat) (S : Ob) : va_W := [(G 7 2, .inl (E.2.2 3, 2, .inr (.inr (.inr (.inr (fun i => some (G (8 + i) 99))))))), (G 7 3, .inl (E.2.2 1, 2, .inl (S.2 3)))]
abbrev gcW (E : GE) (G : Nat → Nat → Nat) (pl dr : Nat → Nat) (e0 e1 e2 : Nat → Nat → Nat) (Z : GC) : va_W := gW [bGC G (pl 99) (dr 99) Z.1, bText E (G 1) (Z.2.1 1), bNow E (G 2) (G 3) e0 (Z.2.1 2), bScene E (G 3) (Z.2.1 3), bPlan E pl (Z.2.1 4), bPlan E dr (Z.2.1 5), bRumour E (G 6) (Z.2.1 6), bIm E G (Z.2.1 7), bNow E (G 8) (G 10) e1 (Z.2.1 8), bNow E (G 9) (G 11) e2 (Z.2.1 9), bScene E (G 10) (Z.2.1 10), bScene E (G 11) (Z.2.1 11), bPool E e0 (Z.2.2 0), bPool E e1 (Z.2.2 1), bPool E e2 (Z.2.2 2)]
def rot10 {α : Type} (f : Nat → α) : Nat → α := fun i => if i < 9 then f (i + 1) else if i = 9 then f 0 else f i
