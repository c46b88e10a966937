def R_law : String := "GateChainLaw"
def lw_P (b : Addr) (xs : List Int32) (args : Array Value) (s : State) : Prop := args = #[.ref b] ∧ s.IntsAt b xs ∧ xs.length ≤ 2048 ∧ (Jvm.Cond.and given_1 narrow_1).before args s = true
def lw_Q (_ : Array Value) (s : State) (o : Outcome) (t : State) : Prop := o = .returned (some (.int 1)) ∧ Framed s o t [] 600000 7302250
def lw_Z (below : List Frame) (a : Array Value) (s : State) : State → Prop := fun t => ∃ o, t.status = .running ∧ Ended t below o ∧ lw_Q a s o t
/-- the law's own end, with 1 on the stack, nothing written that was there before, its room as the claim has it -/
theorem lw_ret {p : Program} {l : Launch} {e : Env} {s : State} {m : MethodId} {below : List Frame} {meth : Method} {c : Code} {b : Nat} (hx : p.tables.exec = Jvm.exec) (hb : c.code = code) (hr : meth.sig.returnType = ret) (hlocks : meth.locks = false) {pc : Nat} {H : Heap} {ls : Array Slot} (hdg : decode code pc = .ok (.ireturn, 1)) : W p l e room_1 s m #[Value.ref b] below meth c H [] 600000 7302250 (lw_Z below #[Value.ref b] s) (F0 m pc ls [.int 1]) := by
  intro T hT X
  obtain ⟨fs, hret, hrun, hended, hW, hframe⟩ := X.leave (v := some (.int 1)) (hlocks := hlocks) (fun h => by rw [hr] at h; cases h)
  have hmeth' : T.vm.method? m = some meth := X.method'
  refine ⟨T.setFrames fs, ?_, .returned (some (.int 1)), hrun, hended, rfl, ⟨_, rfl⟩, hW, hframe⟩
  jvm_step X.here [X.here.top, hx, hb, hdg, hmeth', hr, ret, narrow_b1]
  (try refine ⟨rfl, ?_⟩); (try refine ⟨rfl, ?_⟩)
  first | (intro acts; rw [hret _ acts rfl rfl rfl]) | rw [hret _ _ rfl rfl rfl]
  exact Steps.refl _
/-- what holds at the law's entry: the machine, the code, the tables' words (any of lw_tbl by 'hts w (by decide +kernel)'), the script of L ints xs at the cell b, what the Statement gives of the start (any of its parts by flat_of_before) -/
def lw_At (p : Program) (s : State) (m : MethodId) (meth : Method) (c : Code) (b L : Nat) (xs : Nat → Int32) : Prop :=
  p.tables.exec = Jvm.exec ∧ c.code = code ∧ meth.sig.returnType = ret ∧ c.maxLocals = 4 ∧ s.vm.findClass R_law = some m.cls ∧ (∀ w ∈ lw_tbl, w.before #[Value.ref b] s = true) ∧ va_X b L xs s s.heap ∧ b < s.heap.size ∧ meth.locks = false ∧ (Jvm.Cond.and given_1 narrow_1).before #[Value.ref b] s = true
theorem sw_0_25 (x : Int32) : x = 0 ∨ x = 1 ∨ x = 2 ∨ x = 3 ∨ x = 4 ∨ x = 5 ∨ x = 6 ∨ x = 7 ∨ x = 8 ∨ x = 9 ∨ x = 10 ∨ x = 11 ∨ x = 12 ∨ x = 13 ∨ x = 14 ∨ x = 15 ∨ x = 16 ∨ x = 17 ∨ x = 18 ∨ x = 19 ∨ x = 20 ∨ x = 21 ∨ x = 22 ∨ x = 23 ∨ x = 24 ∨ x = 25 ∨ (x.toInt < 0 ∨ 25 < x.toInt) := by
  by_cases h0 : x = 0
  · exact Or.inl h0
  by_cases h1 : x = 1
  · exact Or.inr (Or.inl h1)
  by_cases h2 : x = 2
  · exact Or.inr (Or.inr (Or.inl h2))
  by_cases h3 : x = 3
  · exact Or.inr (Or.inr (Or.inr (Or.inl h3)))
  by_cases h4 : x = 4
  · exact Or.inr (Or.inr (Or.inr (Or.inr (Or.inl h4))))
  by_cases h5 : x = 5
  · exact Or.inr (Or.inr (Or.inr (Or.inr (Or.inr (Or.inl h5)))))
  by_cases h6 : x = 6
  · exact Or.inr (Or.inr (Or.inr (Or.inr (Or.inr (Or.inr (Or.inl h6))))))
  by_cases h7 : x = 7
  · exact Or.inr (Or.inr (Or.inr (Or.inr (Or.inr (Or.inr (Or.inr (Or.inl h7)))))))
  by_cases h8 : x = 8
  · exact Or.inr (Or.inr (Or.inr (Or.inr (Or.inr (Or.inr (Or.inr (Or.inr (Or.inl h8))))))))
  by_cases h9 : x = 9
  · exact Or.inr (Or.inr (Or.inr (Or.inr (Or.inr (Or.inr (Or.inr (Or.inr (Or.inr (Or.inl h9)))))))))
  by_cases h10 : x = 10
  · exact Or.inr (Or.inr (Or.inr (Or.inr (Or.inr (Or.inr (Or.inr (Or.inr (Or.inr (Or.inr (Or.inl h10))))))))))
  by_cases h11 : x = 11
  · exact Or.inr (Or.inr (Or.inr (Or.inr (Or.inr (Or.inr (Or.inr (Or.inr (Or.inr (Or.inr (Or.inr (Or.inl h11)))))))))))
  by_cases h12 : x = 12
  · exact Or.inr (Or.inr (Or.inr (Or.inr (Or.inr (Or.inr (Or.inr (Or.inr (Or.inr (Or.inr (Or.inr (Or.inr (Or.inl h12))))))))))))
  by_cases h13 : x = 13
  · exact Or.inr (Or.inr (Or.inr (Or.inr (Or.inr (Or.inr (Or.inr (Or.inr (Or.inr (Or.inr (Or.inr (Or.inr (Or.inr (Or.inl h13)))))))))))))
  by_cases h14 : x = 14
  · exact Or.inr (Or.inr (Or.inr (Or.inr (Or.inr (Or.inr (Or.inr (Or.inr (Or.inr (Or.inr (Or.inr (Or.inr (Or.inr (Or.inr (Or.inl h14))))))))))))))
  by_cases h15 : x = 15
  · exact Or.inr (Or.inr (Or.inr (Or.inr (Or.inr (Or.inr (Or.inr (Or.inr (Or.inr (Or.inr (Or.inr (Or.inr (Or.inr (Or.inr (Or.inr (Or.inl h15)))))))))))))))
  by_cases h16 : x = 16
  · exact Or.inr (Or.inr (Or.inr (Or.inr (Or.inr (Or.inr (Or.inr (Or.inr (Or.inr (Or.inr (Or.inr (Or.inr (Or.inr (Or.inr (Or.inr (Or.inr (Or.inl h16))))))))))))))))
  by_cases h17 : x = 17
  · exact Or.inr (Or.inr (Or.inr (Or.inr (Or.inr (Or.inr (Or.inr (Or.inr (Or.inr (Or.inr (Or.inr (Or.inr (Or.inr (Or.inr (Or.inr (Or.inr (Or.inr (Or.inl h17)))))))))))))))))
  by_cases h18 : x = 18
  · exact Or.inr (Or.inr (Or.inr (Or.inr (Or.inr (Or.inr (Or.inr (Or.inr (Or.inr (Or.inr (Or.inr (Or.inr (Or.inr (Or.inr (Or.inr (Or.inr (Or.inr (Or.inr (Or.inl h18))))))))))))))))))
  by_cases h19 : x = 19
  · exact Or.inr (Or.inr (Or.inr (Or.inr (Or.inr (Or.inr (Or.inr (Or.inr (Or.inr (Or.inr (Or.inr (Or.inr (Or.inr (Or.inr (Or.inr (Or.inr (Or.inr (Or.inr (Or.inr (Or.inl h19)))))))))))))))))))
  by_cases h20 : x = 20
  · exact Or.inr (Or.inr (Or.inr (Or.inr (Or.inr (Or.inr (Or.inr (Or.inr (Or.inr (Or.inr (Or.inr (Or.inr (Or.inr (Or.inr (Or.inr (Or.inr (Or.inr (Or.inr (Or.inr (Or.inr (Or.inl h20))))))))))))))))))))
  by_cases h21 : x = 21
  · exact Or.inr (Or.inr (Or.inr (Or.inr (Or.inr (Or.inr (Or.inr (Or.inr (Or.inr (Or.inr (Or.inr (Or.inr (Or.inr (Or.inr (Or.inr (Or.inr (Or.inr (Or.inr (Or.inr (Or.inr (Or.inr (Or.inl h21)))))))))))))))))))))
  by_cases h22 : x = 22
  · exact Or.inr (Or.inr (Or.inr (Or.inr (Or.inr (Or.inr (Or.inr (Or.inr (Or.inr (Or.inr (Or.inr (Or.inr (Or.inr (Or.inr (Or.inr (Or.inr (Or.inr (Or.inr (Or.inr (Or.inr (Or.inr (Or.inr (Or.inl h22))))))))))))))))))))))
  by_cases h23 : x = 23
  · exact Or.inr (Or.inr (Or.inr (Or.inr (Or.inr (Or.inr (Or.inr (Or.inr (Or.inr (Or.inr (Or.inr (Or.inr (Or.inr (Or.inr (Or.inr (Or.inr (Or.inr (Or.inr (Or.inr (Or.inr (Or.inr (Or.inr (Or.inr (Or.inl h23)))))))))))))))))))))))
  by_cases h24 : x = 24
  · exact Or.inr (Or.inr (Or.inr (Or.inr (Or.inr (Or.inr (Or.inr (Or.inr (Or.inr (Or.inr (Or.inr (Or.inr (Or.inr (Or.inr (Or.inr (Or.inr (Or.inr (Or.inr (Or.inr (Or.inr (Or.inr (Or.inr (Or.inr (Or.inr (Or.inl h24))))))))))))))))))))))))
  by_cases h25 : x = 25
  · exact Or.inr (Or.inr (Or.inr (Or.inr (Or.inr (Or.inr (Or.inr (Or.inr (Or.inr (Or.inr (Or.inr (Or.inr (Or.inr (Or.inr (Or.inr (Or.inr (Or.inr (Or.inr (Or.inr (Or.inr (Or.inr (Or.inr (Or.inr (Or.inr (Or.inr (Or.inl h25)))))))))))))))))))))))))
  refine Or.inr (Or.inr (Or.inr (Or.inr (Or.inr (Or.inr (Or.inr (Or.inr (Or.inr (Or.inr (Or.inr (Or.inr (Or.inr (Or.inr (Or.inr (Or.inr (Or.inr (Or.inr (Or.inr (Or.inr (Or.inr (Or.inr (Or.inr (Or.inr (Or.inr (Or.inr (?_))))))))))))))))))))))))))
  have g0 : x.toInt ≠ 0 := fun e => h0 (Int32.toInt_inj.mp (e.trans (by decide)))
  have g1 : x.toInt ≠ 1 := fun e => h1 (Int32.toInt_inj.mp (e.trans (by decide)))
  have g2 : x.toInt ≠ 2 := fun e => h2 (Int32.toInt_inj.mp (e.trans (by decide)))
  have g3 : x.toInt ≠ 3 := fun e => h3 (Int32.toInt_inj.mp (e.trans (by decide)))
  have g4 : x.toInt ≠ 4 := fun e => h4 (Int32.toInt_inj.mp (e.trans (by decide)))
  have g5 : x.toInt ≠ 5 := fun e => h5 (Int32.toInt_inj.mp (e.trans (by decide)))
  have g6 : x.toInt ≠ 6 := fun e => h6 (Int32.toInt_inj.mp (e.trans (by decide)))
  have g7 : x.toInt ≠ 7 := fun e => h7 (Int32.toInt_inj.mp (e.trans (by decide)))
  have g8 : x.toInt ≠ 8 := fun e => h8 (Int32.toInt_inj.mp (e.trans (by decide)))
  have g9 : x.toInt ≠ 9 := fun e => h9 (Int32.toInt_inj.mp (e.trans (by decide)))
  have g10 : x.toInt ≠ 10 := fun e => h10 (Int32.toInt_inj.mp (e.trans (by decide)))
  have g11 : x.toInt ≠ 11 := fun e => h11 (Int32.toInt_inj.mp (e.trans (by decide)))
  have g12 : x.toInt ≠ 12 := fun e => h12 (Int32.toInt_inj.mp (e.trans (by decide)))
  have g13 : x.toInt ≠ 13 := fun e => h13 (Int32.toInt_inj.mp (e.trans (by decide)))
  have g14 : x.toInt ≠ 14 := fun e => h14 (Int32.toInt_inj.mp (e.trans (by decide)))
  have g15 : x.toInt ≠ 15 := fun e => h15 (Int32.toInt_inj.mp (e.trans (by decide)))
  have g16 : x.toInt ≠ 16 := fun e => h16 (Int32.toInt_inj.mp (e.trans (by decide)))
  have g17 : x.toInt ≠ 17 := fun e => h17 (Int32.toInt_inj.mp (e.trans (by decide)))
  have g18 : x.toInt ≠ 18 := fun e => h18 (Int32.toInt_inj.mp (e.trans (by decide)))
  have g19 : x.toInt ≠ 19 := fun e => h19 (Int32.toInt_inj.mp (e.trans (by decide)))
  have g20 : x.toInt ≠ 20 := fun e => h20 (Int32.toInt_inj.mp (e.trans (by decide)))
  have g21 : x.toInt ≠ 21 := fun e => h21 (Int32.toInt_inj.mp (e.trans (by decide)))
  have g22 : x.toInt ≠ 22 := fun e => h22 (Int32.toInt_inj.mp (e.trans (by decide)))
  have g23 : x.toInt ≠ 23 := fun e => h23 (Int32.toInt_inj.mp (e.trans (by decide)))
  have g24 : x.toInt ≠ 24 := fun e => h24 (Int32.toInt_inj.mp (e.trans (by decide)))
  have g25 : x.toInt ≠ 25 := fun e => h25 (Int32.toInt_inj.mp (e.trans (by decide)))
  omega
theorem dL_law_0 : decode cL_law 0 = .ok (.new 7, 3) := by decide +kernel
theorem dL_law_3 : decode cL_law 3 = .ok (.dup, 1) := by decide +kernel
theorem dL_law_4 : decode cL_law 4 = .ok (.invokespecial 9, 3) := by decide +kernel
theorem dL_law_7 : decode cL_law 7 = .ok (.astore_n 1, 1) := by decide +kernel
theorem dL_law_8 : decode cL_law 8 = .ok (.new 10, 3) := by decide +kernel
theorem dL_law_11 : decode cL_law 11 = .ok (.dup, 1) := by decide +kernel
theorem dL_law_12 : decode cL_law 12 = .ok (.invokespecial 12, 3) := by decide +kernel
theorem dL_law_15 : decode cL_law 15 = .ok (.astore_n 2, 1) := by decide +kernel
theorem dL_law_16 : decode cL_law 16 = .ok (.iconst 0, 1) := by decide +kernel
theorem dL_law_17 : decode cL_law 17 = .ok (.istore_n 3, 1) := by decide +kernel
theorem dL_law_18 : decode cL_law 18 = .ok (.iload_n 3, 1) := by decide +kernel
theorem dL_law_19 : decode cL_law 19 = .ok (.aload_n 0, 1) := by decide +kernel
theorem dL_law_20 : decode cL_law 20 = .ok (.arraylength, 1) := by decide +kernel
theorem dL_law_21 : decode cL_law 21 = .ok (.iconst 4, 1) := by decide +kernel
theorem dL_law_22 : decode cL_law 22 = .ok (.isub, 1) := by decide +kernel
theorem dL_law_23 : decode cL_law 23 = .ok (.if_icmp .gt 804, 3) := by decide +kernel
theorem dL_law_26 : decode cL_law 26 = .ok (.aload_n 0, 1) := by decide +kernel
theorem dL_law_27 : decode cL_law 27 = .ok (.iload_n 3, 1) := by decide +kernel
theorem dL_law_28 : decode cL_law 28 = .ok (.iaload, 1) := by decide +kernel
theorem dL_law_29 : decode cL_law 29 = .ok (.bipush 31, 2) := by decide +kernel
theorem dL_law_31 : decode cL_law 31 = .ok (.iand, 1) := by decide +kernel
theorem dL_law_32 : decode cL_law 32 = .ok (.tableswitch 789 0 25 #[120, 143, 156, 169, 202, 235, 268, 301, 334, 377, 410, 443, 456, 479, 502, 525, 558, 591, 624, 637, 660, 673, 706, 729, 752, 775], 120) := by decide +kernel
theorem dL_law_152 : decode cL_law 152 = .ok (.aload_n 1, 1) := by decide +kernel
theorem dL_law_153 : decode cL_law 153 = .ok (.aload_n 0, 1) := by decide +kernel
theorem dL_law_154 : decode cL_law 154 = .ok (.iload_n 3, 1) := by decide +kernel
theorem dL_law_155 : decode cL_law 155 = .ok (.iconst 1, 1) := by decide +kernel
theorem dL_law_156 : decode cL_law 156 = .ok (.iadd, 1) := by decide +kernel
theorem dL_law_157 : decode cL_law 157 = .ok (.iaload, 1) := by decide +kernel
theorem dL_law_158 : decode cL_law 158 = .ok (.invokevirtual 13, 3) := by decide +kernel
theorem dL_law_161 : decode cL_law 161 = .ok (.aload_n 2, 1) := by decide +kernel
theorem dL_law_162 : decode cL_law 162 = .ok (.aload_n 0, 1) := by decide +kernel
theorem dL_law_163 : decode cL_law 163 = .ok (.iload_n 3, 1) := by decide +kernel
theorem dL_law_164 : decode cL_law 164 = .ok (.iconst 1, 1) := by decide +kernel
theorem dL_law_165 : decode cL_law 165 = .ok (.iadd, 1) := by decide +kernel
theorem dL_law_166 : decode cL_law 166 = .ok (.iaload, 1) := by decide +kernel
theorem dL_law_167 : decode cL_law 167 = .ok (.invokevirtual 17, 3) := by decide +kernel
theorem dL_law_170 : decode cL_law 170 = .ok (.if_icmp .eq 651, 3) := by decide +kernel
theorem dL_law_173 : decode cL_law 173 = .ok (.iconst 0, 1) := by decide +kernel
theorem dL_law_174 : decode cL_law 174 = .ok (.ireturn, 1) := by decide +kernel
theorem dL_law_175 : decode cL_law 175 = .ok (.aload_n 1, 1) := by decide +kernel
theorem dL_law_176 : decode cL_law 176 = .ok (.invokevirtual 18, 3) := by decide +kernel
theorem dL_law_179 : decode cL_law 179 = .ok (.aload_n 2, 1) := by decide +kernel
theorem dL_law_180 : decode cL_law 180 = .ok (.invokevirtual 22, 3) := by decide +kernel
theorem dL_law_183 : decode cL_law 183 = .ok (.if_icmp .eq 638, 3) := by decide +kernel
theorem dL_law_186 : decode cL_law 186 = .ok (.iconst 0, 1) := by decide +kernel
theorem dL_law_187 : decode cL_law 187 = .ok (.ireturn, 1) := by decide +kernel
theorem dL_law_188 : decode cL_law 188 = .ok (.aload_n 1, 1) := by decide +kernel
theorem dL_law_189 : decode cL_law 189 = .ok (.invokevirtual 23, 3) := by decide +kernel
theorem dL_law_192 : decode cL_law 192 = .ok (.aload_n 2, 1) := by decide +kernel
theorem dL_law_193 : decode cL_law 193 = .ok (.invokevirtual 26, 3) := by decide +kernel
theorem dL_law_196 : decode cL_law 196 = .ok (.if_icmp .eq 625, 3) := by decide +kernel
theorem dL_law_199 : decode cL_law 199 = .ok (.iconst 0, 1) := by decide +kernel
theorem dL_law_200 : decode cL_law 200 = .ok (.ireturn, 1) := by decide +kernel
theorem dL_law_201 : decode cL_law 201 = .ok (.aload_n 1, 1) := by decide +kernel
theorem dL_law_202 : decode cL_law 202 = .ok (.aload_n 0, 1) := by decide +kernel
theorem dL_law_203 : decode cL_law 203 = .ok (.iload_n 3, 1) := by decide +kernel
theorem dL_law_204 : decode cL_law 204 = .ok (.iconst 1, 1) := by decide +kernel
theorem dL_law_205 : decode cL_law 205 = .ok (.iadd, 1) := by decide +kernel
theorem dL_law_206 : decode cL_law 206 = .ok (.iaload, 1) := by decide +kernel
theorem dL_law_207 : decode cL_law 207 = .ok (.aload_n 0, 1) := by decide +kernel
theorem dL_law_208 : decode cL_law 208 = .ok (.iload_n 3, 1) := by decide +kernel
theorem dL_law_209 : decode cL_law 209 = .ok (.iconst 2, 1) := by decide +kernel
theorem dL_law_210 : decode cL_law 210 = .ok (.iadd, 1) := by decide +kernel
theorem dL_law_211 : decode cL_law 211 = .ok (.iaload, 1) := by decide +kernel
theorem dL_law_212 : decode cL_law 212 = .ok (.invokevirtual 27, 3) := by decide +kernel
theorem dL_law_215 : decode cL_law 215 = .ok (.aload_n 2, 1) := by decide +kernel
theorem dL_law_216 : decode cL_law 216 = .ok (.aload_n 0, 1) := by decide +kernel
theorem dL_law_217 : decode cL_law 217 = .ok (.iload_n 3, 1) := by decide +kernel
theorem dL_law_218 : decode cL_law 218 = .ok (.iconst 1, 1) := by decide +kernel
theorem dL_law_219 : decode cL_law 219 = .ok (.iadd, 1) := by decide +kernel
theorem dL_law_220 : decode cL_law 220 = .ok (.iaload, 1) := by decide +kernel
theorem dL_law_221 : decode cL_law 221 = .ok (.aload_n 0, 1) := by decide +kernel
theorem dL_law_222 : decode cL_law 222 = .ok (.iload_n 3, 1) := by decide +kernel
theorem dL_law_223 : decode cL_law 223 = .ok (.iconst 2, 1) := by decide +kernel
theorem dL_law_224 : decode cL_law 224 = .ok (.iadd, 1) := by decide +kernel
theorem dL_law_225 : decode cL_law 225 = .ok (.iaload, 1) := by decide +kernel
theorem dL_law_226 : decode cL_law 226 = .ok (.invokevirtual 31, 3) := by decide +kernel
theorem dL_law_229 : decode cL_law 229 = .ok (.if_icmp .eq 592, 3) := by decide +kernel
theorem dL_law_232 : decode cL_law 232 = .ok (.iconst 0, 1) := by decide +kernel
theorem dL_law_233 : decode cL_law 233 = .ok (.ireturn, 1) := by decide +kernel
theorem dL_law_234 : decode cL_law 234 = .ok (.aload_n 1, 1) := by decide +kernel
theorem dL_law_235 : decode cL_law 235 = .ok (.aload_n 0, 1) := by decide +kernel
theorem dL_law_236 : decode cL_law 236 = .ok (.iload_n 3, 1) := by decide +kernel
theorem dL_law_237 : decode cL_law 237 = .ok (.iconst 1, 1) := by decide +kernel
theorem dL_law_238 : decode cL_law 238 = .ok (.iadd, 1) := by decide +kernel
theorem dL_law_239 : decode cL_law 239 = .ok (.iaload, 1) := by decide +kernel
theorem dL_law_240 : decode cL_law 240 = .ok (.aload_n 0, 1) := by decide +kernel
theorem dL_law_241 : decode cL_law 241 = .ok (.iload_n 3, 1) := by decide +kernel
theorem dL_law_242 : decode cL_law 242 = .ok (.iconst 2, 1) := by decide +kernel
theorem dL_law_243 : decode cL_law 243 = .ok (.iadd, 1) := by decide +kernel
theorem dL_law_244 : decode cL_law 244 = .ok (.iaload, 1) := by decide +kernel
theorem dL_law_245 : decode cL_law 245 = .ok (.invokevirtual 32, 3) := by decide +kernel
theorem dL_law_248 : decode cL_law 248 = .ok (.aload_n 2, 1) := by decide +kernel
theorem dL_law_249 : decode cL_law 249 = .ok (.aload_n 0, 1) := by decide +kernel
theorem dL_law_250 : decode cL_law 250 = .ok (.iload_n 3, 1) := by decide +kernel
theorem dL_law_251 : decode cL_law 251 = .ok (.iconst 1, 1) := by decide +kernel
theorem dL_law_252 : decode cL_law 252 = .ok (.iadd, 1) := by decide +kernel
theorem dL_law_253 : decode cL_law 253 = .ok (.iaload, 1) := by decide +kernel
theorem dL_law_254 : decode cL_law 254 = .ok (.aload_n 0, 1) := by decide +kernel
theorem dL_law_255 : decode cL_law 255 = .ok (.iload_n 3, 1) := by decide +kernel
theorem dL_law_256 : decode cL_law 256 = .ok (.iconst 2, 1) := by decide +kernel
theorem dL_law_257 : decode cL_law 257 = .ok (.iadd, 1) := by decide +kernel
theorem dL_law_258 : decode cL_law 258 = .ok (.iaload, 1) := by decide +kernel
theorem dL_law_259 : decode cL_law 259 = .ok (.invokevirtual 35, 3) := by decide +kernel
theorem dL_law_262 : decode cL_law 262 = .ok (.if_icmp .eq 559, 3) := by decide +kernel
theorem dL_law_265 : decode cL_law 265 = .ok (.iconst 0, 1) := by decide +kernel
theorem dL_law_266 : decode cL_law 266 = .ok (.ireturn, 1) := by decide +kernel
theorem dL_law_267 : decode cL_law 267 = .ok (.aload_n 1, 1) := by decide +kernel
theorem dL_law_268 : decode cL_law 268 = .ok (.aload_n 0, 1) := by decide +kernel
theorem dL_law_269 : decode cL_law 269 = .ok (.iload_n 3, 1) := by decide +kernel
theorem dL_law_270 : decode cL_law 270 = .ok (.iconst 1, 1) := by decide +kernel
theorem dL_law_271 : decode cL_law 271 = .ok (.iadd, 1) := by decide +kernel
theorem dL_law_272 : decode cL_law 272 = .ok (.iaload, 1) := by decide +kernel
theorem dL_law_273 : decode cL_law 273 = .ok (.aload_n 0, 1) := by decide +kernel
theorem dL_law_274 : decode cL_law 274 = .ok (.iload_n 3, 1) := by decide +kernel
theorem dL_law_275 : decode cL_law 275 = .ok (.iconst 2, 1) := by decide +kernel
theorem dL_law_276 : decode cL_law 276 = .ok (.iadd, 1) := by decide +kernel
theorem dL_law_277 : decode cL_law 277 = .ok (.iaload, 1) := by decide +kernel
theorem dL_law_278 : decode cL_law 278 = .ok (.invokevirtual 36, 3) := by decide +kernel
theorem dL_law_281 : decode cL_law 281 = .ok (.aload_n 2, 1) := by decide +kernel
theorem dL_law_282 : decode cL_law 282 = .ok (.aload_n 0, 1) := by decide +kernel
theorem dL_law_283 : decode cL_law 283 = .ok (.iload_n 3, 1) := by decide +kernel
theorem dL_law_284 : decode cL_law 284 = .ok (.iconst 1, 1) := by decide +kernel
theorem dL_law_285 : decode cL_law 285 = .ok (.iadd, 1) := by decide +kernel
theorem dL_law_286 : decode cL_law 286 = .ok (.iaload, 1) := by decide +kernel
theorem dL_law_287 : decode cL_law 287 = .ok (.aload_n 0, 1) := by decide +kernel
theorem dL_law_288 : decode cL_law 288 = .ok (.iload_n 3, 1) := by decide +kernel
theorem dL_law_289 : decode cL_law 289 = .ok (.iconst 2, 1) := by decide +kernel
theorem dL_law_290 : decode cL_law 290 = .ok (.iadd, 1) := by decide +kernel
theorem dL_law_291 : decode cL_law 291 = .ok (.iaload, 1) := by decide +kernel
theorem dL_law_292 : decode cL_law 292 = .ok (.invokevirtual 39, 3) := by decide +kernel
theorem dL_law_295 : decode cL_law 295 = .ok (.if_icmp .eq 526, 3) := by decide +kernel
theorem dL_law_298 : decode cL_law 298 = .ok (.iconst 0, 1) := by decide +kernel
theorem dL_law_299 : decode cL_law 299 = .ok (.ireturn, 1) := by decide +kernel
theorem dL_law_300 : decode cL_law 300 = .ok (.aload_n 1, 1) := by decide +kernel
theorem dL_law_301 : decode cL_law 301 = .ok (.aload_n 0, 1) := by decide +kernel
theorem dL_law_302 : decode cL_law 302 = .ok (.iload_n 3, 1) := by decide +kernel
theorem dL_law_303 : decode cL_law 303 = .ok (.iconst 1, 1) := by decide +kernel
theorem dL_law_304 : decode cL_law 304 = .ok (.iadd, 1) := by decide +kernel
theorem dL_law_305 : decode cL_law 305 = .ok (.iaload, 1) := by decide +kernel
theorem dL_law_306 : decode cL_law 306 = .ok (.aload_n 0, 1) := by decide +kernel
theorem dL_law_307 : decode cL_law 307 = .ok (.iload_n 3, 1) := by decide +kernel
theorem dL_law_308 : decode cL_law 308 = .ok (.iconst 2, 1) := by decide +kernel
theorem dL_law_309 : decode cL_law 309 = .ok (.iadd, 1) := by decide +kernel
theorem dL_law_310 : decode cL_law 310 = .ok (.iaload, 1) := by decide +kernel
theorem dL_law_311 : decode cL_law 311 = .ok (.invokevirtual 40, 3) := by decide +kernel
theorem dL_law_314 : decode cL_law 314 = .ok (.aload_n 2, 1) := by decide +kernel
theorem dL_law_315 : decode cL_law 315 = .ok (.aload_n 0, 1) := by decide +kernel
theorem dL_law_316 : decode cL_law 316 = .ok (.iload_n 3, 1) := by decide +kernel
theorem dL_law_317 : decode cL_law 317 = .ok (.iconst 1, 1) := by decide +kernel
theorem dL_law_318 : decode cL_law 318 = .ok (.iadd, 1) := by decide +kernel
theorem dL_law_319 : decode cL_law 319 = .ok (.iaload, 1) := by decide +kernel
theorem dL_law_320 : decode cL_law 320 = .ok (.aload_n 0, 1) := by decide +kernel
theorem dL_law_321 : decode cL_law 321 = .ok (.iload_n 3, 1) := by decide +kernel
theorem dL_law_322 : decode cL_law 322 = .ok (.iconst 2, 1) := by decide +kernel
theorem dL_law_323 : decode cL_law 323 = .ok (.iadd, 1) := by decide +kernel
theorem dL_law_324 : decode cL_law 324 = .ok (.iaload, 1) := by decide +kernel
theorem dL_law_325 : decode cL_law 325 = .ok (.invokevirtual 43, 3) := by decide +kernel
theorem dL_law_328 : decode cL_law 328 = .ok (.if_icmp .eq 493, 3) := by decide +kernel
theorem dL_law_331 : decode cL_law 331 = .ok (.iconst 0, 1) := by decide +kernel
theorem dL_law_332 : decode cL_law 332 = .ok (.ireturn, 1) := by decide +kernel
theorem dL_law_333 : decode cL_law 333 = .ok (.aload_n 1, 1) := by decide +kernel
theorem dL_law_334 : decode cL_law 334 = .ok (.aload_n 0, 1) := by decide +kernel
theorem dL_law_335 : decode cL_law 335 = .ok (.iload_n 3, 1) := by decide +kernel
theorem dL_law_336 : decode cL_law 336 = .ok (.iconst 1, 1) := by decide +kernel
theorem dL_law_337 : decode cL_law 337 = .ok (.iadd, 1) := by decide +kernel
theorem dL_law_338 : decode cL_law 338 = .ok (.iaload, 1) := by decide +kernel
theorem dL_law_339 : decode cL_law 339 = .ok (.aload_n 0, 1) := by decide +kernel
theorem dL_law_340 : decode cL_law 340 = .ok (.iload_n 3, 1) := by decide +kernel
theorem dL_law_341 : decode cL_law 341 = .ok (.iconst 2, 1) := by decide +kernel
theorem dL_law_342 : decode cL_law 342 = .ok (.iadd, 1) := by decide +kernel
theorem dL_law_343 : decode cL_law 343 = .ok (.iaload, 1) := by decide +kernel
theorem dL_law_344 : decode cL_law 344 = .ok (.invokevirtual 44, 3) := by decide +kernel
theorem dL_law_347 : decode cL_law 347 = .ok (.aload_n 2, 1) := by decide +kernel
theorem dL_law_348 : decode cL_law 348 = .ok (.aload_n 0, 1) := by decide +kernel
theorem dL_law_349 : decode cL_law 349 = .ok (.iload_n 3, 1) := by decide +kernel
theorem dL_law_350 : decode cL_law 350 = .ok (.iconst 1, 1) := by decide +kernel
theorem dL_law_351 : decode cL_law 351 = .ok (.iadd, 1) := by decide +kernel
theorem dL_law_352 : decode cL_law 352 = .ok (.iaload, 1) := by decide +kernel
theorem dL_law_353 : decode cL_law 353 = .ok (.aload_n 0, 1) := by decide +kernel
theorem dL_law_354 : decode cL_law 354 = .ok (.iload_n 3, 1) := by decide +kernel
theorem dL_law_355 : decode cL_law 355 = .ok (.iconst 2, 1) := by decide +kernel
theorem dL_law_356 : decode cL_law 356 = .ok (.iadd, 1) := by decide +kernel
theorem dL_law_357 : decode cL_law 357 = .ok (.iaload, 1) := by decide +kernel
theorem dL_law_358 : decode cL_law 358 = .ok (.invokevirtual 47, 3) := by decide +kernel
theorem dL_law_361 : decode cL_law 361 = .ok (.if_icmp .eq 460, 3) := by decide +kernel
theorem dL_law_364 : decode cL_law 364 = .ok (.iconst 0, 1) := by decide +kernel
theorem dL_law_365 : decode cL_law 365 = .ok (.ireturn, 1) := by decide +kernel
theorem dL_law_366 : decode cL_law 366 = .ok (.aload_n 1, 1) := by decide +kernel
theorem dL_law_367 : decode cL_law 367 = .ok (.aload_n 0, 1) := by decide +kernel
theorem dL_law_368 : decode cL_law 368 = .ok (.iload_n 3, 1) := by decide +kernel
theorem dL_law_369 : decode cL_law 369 = .ok (.iconst 1, 1) := by decide +kernel
theorem dL_law_370 : decode cL_law 370 = .ok (.iadd, 1) := by decide +kernel
theorem dL_law_371 : decode cL_law 371 = .ok (.iaload, 1) := by decide +kernel
theorem dL_law_372 : decode cL_law 372 = .ok (.aload_n 0, 1) := by decide +kernel
theorem dL_law_373 : decode cL_law 373 = .ok (.iload_n 3, 1) := by decide +kernel
theorem dL_law_374 : decode cL_law 374 = .ok (.iconst 2, 1) := by decide +kernel
theorem dL_law_375 : decode cL_law 375 = .ok (.iadd, 1) := by decide +kernel
theorem dL_law_376 : decode cL_law 376 = .ok (.iaload, 1) := by decide +kernel
theorem dL_law_377 : decode cL_law 377 = .ok (.aload_n 0, 1) := by decide +kernel
theorem dL_law_378 : decode cL_law 378 = .ok (.iload_n 3, 1) := by decide +kernel
theorem dL_law_379 : decode cL_law 379 = .ok (.iconst 3, 1) := by decide +kernel
theorem dL_law_380 : decode cL_law 380 = .ok (.iadd, 1) := by decide +kernel
theorem dL_law_381 : decode cL_law 381 = .ok (.iaload, 1) := by decide +kernel
theorem dL_law_382 : decode cL_law 382 = .ok (.invokevirtual 48, 3) := by decide +kernel
theorem dL_law_385 : decode cL_law 385 = .ok (.aload_n 2, 1) := by decide +kernel
theorem dL_law_386 : decode cL_law 386 = .ok (.aload_n 0, 1) := by decide +kernel
theorem dL_law_387 : decode cL_law 387 = .ok (.iload_n 3, 1) := by decide +kernel
theorem dL_law_388 : decode cL_law 388 = .ok (.iconst 1, 1) := by decide +kernel
theorem dL_law_389 : decode cL_law 389 = .ok (.iadd, 1) := by decide +kernel
theorem dL_law_390 : decode cL_law 390 = .ok (.iaload, 1) := by decide +kernel
theorem dL_law_391 : decode cL_law 391 = .ok (.aload_n 0, 1) := by decide +kernel
theorem dL_law_392 : decode cL_law 392 = .ok (.iload_n 3, 1) := by decide +kernel
theorem dL_law_393 : decode cL_law 393 = .ok (.iconst 2, 1) := by decide +kernel
theorem dL_law_394 : decode cL_law 394 = .ok (.iadd, 1) := by decide +kernel
theorem dL_law_395 : decode cL_law 395 = .ok (.iaload, 1) := by decide +kernel
theorem dL_law_396 : decode cL_law 396 = .ok (.aload_n 0, 1) := by decide +kernel
theorem dL_law_397 : decode cL_law 397 = .ok (.iload_n 3, 1) := by decide +kernel
theorem dL_law_398 : decode cL_law 398 = .ok (.iconst 3, 1) := by decide +kernel
theorem dL_law_399 : decode cL_law 399 = .ok (.iadd, 1) := by decide +kernel
theorem dL_law_400 : decode cL_law 400 = .ok (.iaload, 1) := by decide +kernel
theorem dL_law_401 : decode cL_law 401 = .ok (.invokevirtual 52, 3) := by decide +kernel
theorem dL_law_404 : decode cL_law 404 = .ok (.if_icmp .eq 417, 3) := by decide +kernel
theorem dL_law_407 : decode cL_law 407 = .ok (.iconst 0, 1) := by decide +kernel
theorem dL_law_408 : decode cL_law 408 = .ok (.ireturn, 1) := by decide +kernel
theorem dL_law_409 : decode cL_law 409 = .ok (.aload_n 1, 1) := by decide +kernel
theorem dL_law_410 : decode cL_law 410 = .ok (.aload_n 0, 1) := by decide +kernel
theorem dL_law_411 : decode cL_law 411 = .ok (.iload_n 3, 1) := by decide +kernel
theorem dL_law_412 : decode cL_law 412 = .ok (.iconst 1, 1) := by decide +kernel
theorem dL_law_413 : decode cL_law 413 = .ok (.iadd, 1) := by decide +kernel
theorem dL_law_414 : decode cL_law 414 = .ok (.iaload, 1) := by decide +kernel
theorem dL_law_415 : decode cL_law 415 = .ok (.aload_n 0, 1) := by decide +kernel
theorem dL_law_416 : decode cL_law 416 = .ok (.iload_n 3, 1) := by decide +kernel
theorem dL_law_417 : decode cL_law 417 = .ok (.iconst 2, 1) := by decide +kernel
theorem dL_law_418 : decode cL_law 418 = .ok (.iadd, 1) := by decide +kernel
theorem dL_law_419 : decode cL_law 419 = .ok (.iaload, 1) := by decide +kernel
theorem dL_law_420 : decode cL_law 420 = .ok (.invokevirtual 53, 3) := by decide +kernel
theorem dL_law_423 : decode cL_law 423 = .ok (.aload_n 2, 1) := by decide +kernel
theorem dL_law_424 : decode cL_law 424 = .ok (.aload_n 0, 1) := by decide +kernel
theorem dL_law_425 : decode cL_law 425 = .ok (.iload_n 3, 1) := by decide +kernel
theorem dL_law_426 : decode cL_law 426 = .ok (.iconst 1, 1) := by decide +kernel
theorem dL_law_427 : decode cL_law 427 = .ok (.iadd, 1) := by decide +kernel
theorem dL_law_428 : decode cL_law 428 = .ok (.iaload, 1) := by decide +kernel
theorem dL_law_429 : decode cL_law 429 = .ok (.aload_n 0, 1) := by decide +kernel
theorem dL_law_430 : decode cL_law 430 = .ok (.iload_n 3, 1) := by decide +kernel
theorem dL_law_431 : decode cL_law 431 = .ok (.iconst 2, 1) := by decide +kernel
theorem dL_law_432 : decode cL_law 432 = .ok (.iadd, 1) := by decide +kernel
theorem dL_law_433 : decode cL_law 433 = .ok (.iaload, 1) := by decide +kernel
theorem dL_law_434 : decode cL_law 434 = .ok (.invokevirtual 56, 3) := by decide +kernel
theorem dL_law_437 : decode cL_law 437 = .ok (.if_icmp .eq 384, 3) := by decide +kernel
theorem dL_law_440 : decode cL_law 440 = .ok (.iconst 0, 1) := by decide +kernel
theorem dL_law_441 : decode cL_law 441 = .ok (.ireturn, 1) := by decide +kernel
theorem dL_law_442 : decode cL_law 442 = .ok (.aload_n 1, 1) := by decide +kernel
theorem dL_law_443 : decode cL_law 443 = .ok (.aload_n 0, 1) := by decide +kernel
theorem dL_law_444 : decode cL_law 444 = .ok (.iload_n 3, 1) := by decide +kernel
theorem dL_law_445 : decode cL_law 445 = .ok (.iconst 1, 1) := by decide +kernel
theorem dL_law_446 : decode cL_law 446 = .ok (.iadd, 1) := by decide +kernel
theorem dL_law_447 : decode cL_law 447 = .ok (.iaload, 1) := by decide +kernel
theorem dL_law_448 : decode cL_law 448 = .ok (.aload_n 0, 1) := by decide +kernel
theorem dL_law_449 : decode cL_law 449 = .ok (.iload_n 3, 1) := by decide +kernel
theorem dL_law_450 : decode cL_law 450 = .ok (.iconst 2, 1) := by decide +kernel
theorem dL_law_451 : decode cL_law 451 = .ok (.iadd, 1) := by decide +kernel
theorem dL_law_452 : decode cL_law 452 = .ok (.iaload, 1) := by decide +kernel
theorem dL_law_453 : decode cL_law 453 = .ok (.invokevirtual 57, 3) := by decide +kernel
theorem dL_law_456 : decode cL_law 456 = .ok (.aload_n 2, 1) := by decide +kernel
theorem dL_law_457 : decode cL_law 457 = .ok (.aload_n 0, 1) := by decide +kernel
theorem dL_law_458 : decode cL_law 458 = .ok (.iload_n 3, 1) := by decide +kernel
theorem dL_law_459 : decode cL_law 459 = .ok (.iconst 1, 1) := by decide +kernel
theorem dL_law_460 : decode cL_law 460 = .ok (.iadd, 1) := by decide +kernel
theorem dL_law_461 : decode cL_law 461 = .ok (.iaload, 1) := by decide +kernel
theorem dL_law_462 : decode cL_law 462 = .ok (.aload_n 0, 1) := by decide +kernel
theorem dL_law_463 : decode cL_law 463 = .ok (.iload_n 3, 1) := by decide +kernel
theorem dL_law_464 : decode cL_law 464 = .ok (.iconst 2, 1) := by decide +kernel
theorem dL_law_465 : decode cL_law 465 = .ok (.iadd, 1) := by decide +kernel
theorem dL_law_466 : decode cL_law 466 = .ok (.iaload, 1) := by decide +kernel
theorem dL_law_467 : decode cL_law 467 = .ok (.invokevirtual 60, 3) := by decide +kernel
theorem dL_law_470 : decode cL_law 470 = .ok (.if_icmp .eq 351, 3) := by decide +kernel
theorem dL_law_473 : decode cL_law 473 = .ok (.iconst 0, 1) := by decide +kernel
theorem dL_law_474 : decode cL_law 474 = .ok (.ireturn, 1) := by decide +kernel
theorem dL_law_475 : decode cL_law 475 = .ok (.aload_n 1, 1) := by decide +kernel
theorem dL_law_476 : decode cL_law 476 = .ok (.invokevirtual 61, 3) := by decide +kernel
theorem dL_law_479 : decode cL_law 479 = .ok (.aload_n 2, 1) := by decide +kernel
theorem dL_law_480 : decode cL_law 480 = .ok (.invokevirtual 64, 3) := by decide +kernel
theorem dL_law_483 : decode cL_law 483 = .ok (.if_icmp .eq 338, 3) := by decide +kernel
theorem dL_law_486 : decode cL_law 486 = .ok (.iconst 0, 1) := by decide +kernel
theorem dL_law_487 : decode cL_law 487 = .ok (.ireturn, 1) := by decide +kernel
theorem dL_law_488 : decode cL_law 488 = .ok (.aload_n 1, 1) := by decide +kernel
theorem dL_law_489 : decode cL_law 489 = .ok (.aload_n 0, 1) := by decide +kernel
theorem dL_law_490 : decode cL_law 490 = .ok (.iload_n 3, 1) := by decide +kernel
theorem dL_law_491 : decode cL_law 491 = .ok (.iconst 1, 1) := by decide +kernel
theorem dL_law_492 : decode cL_law 492 = .ok (.iadd, 1) := by decide +kernel
theorem dL_law_493 : decode cL_law 493 = .ok (.iaload, 1) := by decide +kernel
theorem dL_law_494 : decode cL_law 494 = .ok (.invokevirtual 65, 3) := by decide +kernel
theorem dL_law_497 : decode cL_law 497 = .ok (.aload_n 2, 1) := by decide +kernel
theorem dL_law_498 : decode cL_law 498 = .ok (.aload_n 0, 1) := by decide +kernel
theorem dL_law_499 : decode cL_law 499 = .ok (.iload_n 3, 1) := by decide +kernel
theorem dL_law_500 : decode cL_law 500 = .ok (.iconst 1, 1) := by decide +kernel
theorem dL_law_501 : decode cL_law 501 = .ok (.iadd, 1) := by decide +kernel
theorem dL_law_502 : decode cL_law 502 = .ok (.iaload, 1) := by decide +kernel
theorem dL_law_503 : decode cL_law 503 = .ok (.invokevirtual 68, 3) := by decide +kernel
theorem dL_law_506 : decode cL_law 506 = .ok (.if_icmp .eq 315, 3) := by decide +kernel
theorem dL_law_509 : decode cL_law 509 = .ok (.iconst 0, 1) := by decide +kernel
theorem dL_law_510 : decode cL_law 510 = .ok (.ireturn, 1) := by decide +kernel
theorem dL_law_511 : decode cL_law 511 = .ok (.aload_n 1, 1) := by decide +kernel
theorem dL_law_512 : decode cL_law 512 = .ok (.aload_n 0, 1) := by decide +kernel
theorem dL_law_513 : decode cL_law 513 = .ok (.iload_n 3, 1) := by decide +kernel
theorem dL_law_514 : decode cL_law 514 = .ok (.iconst 1, 1) := by decide +kernel
theorem dL_law_515 : decode cL_law 515 = .ok (.iadd, 1) := by decide +kernel
theorem dL_law_516 : decode cL_law 516 = .ok (.iaload, 1) := by decide +kernel
theorem dL_law_517 : decode cL_law 517 = .ok (.invokevirtual 69, 3) := by decide +kernel
theorem dL_law_520 : decode cL_law 520 = .ok (.aload_n 2, 1) := by decide +kernel
theorem dL_law_521 : decode cL_law 521 = .ok (.aload_n 0, 1) := by decide +kernel
theorem dL_law_522 : decode cL_law 522 = .ok (.iload_n 3, 1) := by decide +kernel
theorem dL_law_523 : decode cL_law 523 = .ok (.iconst 1, 1) := by decide +kernel
theorem dL_law_524 : decode cL_law 524 = .ok (.iadd, 1) := by decide +kernel
theorem dL_law_525 : decode cL_law 525 = .ok (.iaload, 1) := by decide +kernel
theorem dL_law_526 : decode cL_law 526 = .ok (.invokevirtual 72, 3) := by decide +kernel
theorem dL_law_529 : decode cL_law 529 = .ok (.if_icmp .eq 292, 3) := by decide +kernel
theorem dL_law_532 : decode cL_law 532 = .ok (.iconst 0, 1) := by decide +kernel
theorem dL_law_533 : decode cL_law 533 = .ok (.ireturn, 1) := by decide +kernel
theorem dL_law_534 : decode cL_law 534 = .ok (.aload_n 1, 1) := by decide +kernel
theorem dL_law_535 : decode cL_law 535 = .ok (.aload_n 0, 1) := by decide +kernel
theorem dL_law_536 : decode cL_law 536 = .ok (.iload_n 3, 1) := by decide +kernel
theorem dL_law_537 : decode cL_law 537 = .ok (.iconst 1, 1) := by decide +kernel
theorem dL_law_538 : decode cL_law 538 = .ok (.iadd, 1) := by decide +kernel
theorem dL_law_539 : decode cL_law 539 = .ok (.iaload, 1) := by decide +kernel
theorem dL_law_540 : decode cL_law 540 = .ok (.invokevirtual 73, 3) := by decide +kernel
theorem dL_law_543 : decode cL_law 543 = .ok (.aload_n 2, 1) := by decide +kernel
theorem dL_law_544 : decode cL_law 544 = .ok (.aload_n 0, 1) := by decide +kernel
theorem dL_law_545 : decode cL_law 545 = .ok (.iload_n 3, 1) := by decide +kernel
theorem dL_law_546 : decode cL_law 546 = .ok (.iconst 1, 1) := by decide +kernel
theorem dL_law_547 : decode cL_law 547 = .ok (.iadd, 1) := by decide +kernel
theorem dL_law_548 : decode cL_law 548 = .ok (.iaload, 1) := by decide +kernel
theorem dL_law_549 : decode cL_law 549 = .ok (.invokevirtual 76, 3) := by decide +kernel
theorem dL_law_552 : decode cL_law 552 = .ok (.if_icmp .eq 269, 3) := by decide +kernel
theorem dL_law_555 : decode cL_law 555 = .ok (.iconst 0, 1) := by decide +kernel
theorem dL_law_556 : decode cL_law 556 = .ok (.ireturn, 1) := by decide +kernel
theorem dL_law_557 : decode cL_law 557 = .ok (.aload_n 1, 1) := by decide +kernel
theorem dL_law_558 : decode cL_law 558 = .ok (.aload_n 0, 1) := by decide +kernel
theorem dL_law_559 : decode cL_law 559 = .ok (.iload_n 3, 1) := by decide +kernel
theorem dL_law_560 : decode cL_law 560 = .ok (.iconst 1, 1) := by decide +kernel
theorem dL_law_561 : decode cL_law 561 = .ok (.iadd, 1) := by decide +kernel
theorem dL_law_562 : decode cL_law 562 = .ok (.iaload, 1) := by decide +kernel
theorem dL_law_563 : decode cL_law 563 = .ok (.aload_n 0, 1) := by decide +kernel
theorem dL_law_564 : decode cL_law 564 = .ok (.iload_n 3, 1) := by decide +kernel
theorem dL_law_565 : decode cL_law 565 = .ok (.iconst 2, 1) := by decide +kernel
theorem dL_law_566 : decode cL_law 566 = .ok (.iadd, 1) := by decide +kernel
theorem dL_law_567 : decode cL_law 567 = .ok (.iaload, 1) := by decide +kernel
theorem dL_law_568 : decode cL_law 568 = .ok (.invokevirtual 77, 3) := by decide +kernel
theorem dL_law_571 : decode cL_law 571 = .ok (.aload_n 2, 1) := by decide +kernel
theorem dL_law_572 : decode cL_law 572 = .ok (.aload_n 0, 1) := by decide +kernel
theorem dL_law_573 : decode cL_law 573 = .ok (.iload_n 3, 1) := by decide +kernel
theorem dL_law_574 : decode cL_law 574 = .ok (.iconst 1, 1) := by decide +kernel
theorem dL_law_575 : decode cL_law 575 = .ok (.iadd, 1) := by decide +kernel
theorem dL_law_576 : decode cL_law 576 = .ok (.iaload, 1) := by decide +kernel
theorem dL_law_577 : decode cL_law 577 = .ok (.aload_n 0, 1) := by decide +kernel
theorem dL_law_578 : decode cL_law 578 = .ok (.iload_n 3, 1) := by decide +kernel
theorem dL_law_579 : decode cL_law 579 = .ok (.iconst 2, 1) := by decide +kernel
theorem dL_law_580 : decode cL_law 580 = .ok (.iadd, 1) := by decide +kernel
theorem dL_law_581 : decode cL_law 581 = .ok (.iaload, 1) := by decide +kernel
theorem dL_law_582 : decode cL_law 582 = .ok (.invokevirtual 80, 3) := by decide +kernel
theorem dL_law_585 : decode cL_law 585 = .ok (.if_icmp .eq 236, 3) := by decide +kernel
theorem dL_law_588 : decode cL_law 588 = .ok (.iconst 0, 1) := by decide +kernel
theorem dL_law_589 : decode cL_law 589 = .ok (.ireturn, 1) := by decide +kernel
theorem dL_law_590 : decode cL_law 590 = .ok (.aload_n 1, 1) := by decide +kernel
theorem dL_law_591 : decode cL_law 591 = .ok (.aload_n 0, 1) := by decide +kernel
theorem dL_law_592 : decode cL_law 592 = .ok (.iload_n 3, 1) := by decide +kernel
theorem dL_law_593 : decode cL_law 593 = .ok (.iconst 1, 1) := by decide +kernel
theorem dL_law_594 : decode cL_law 594 = .ok (.iadd, 1) := by decide +kernel
theorem dL_law_595 : decode cL_law 595 = .ok (.iaload, 1) := by decide +kernel
theorem dL_law_596 : decode cL_law 596 = .ok (.aload_n 0, 1) := by decide +kernel
theorem dL_law_597 : decode cL_law 597 = .ok (.iload_n 3, 1) := by decide +kernel
theorem dL_law_598 : decode cL_law 598 = .ok (.iconst 2, 1) := by decide +kernel
theorem dL_law_599 : decode cL_law 599 = .ok (.iadd, 1) := by decide +kernel
theorem dL_law_600 : decode cL_law 600 = .ok (.iaload, 1) := by decide +kernel
theorem dL_law_601 : decode cL_law 601 = .ok (.invokevirtual 81, 3) := by decide +kernel
theorem dL_law_604 : decode cL_law 604 = .ok (.aload_n 2, 1) := by decide +kernel
theorem dL_law_605 : decode cL_law 605 = .ok (.aload_n 0, 1) := by decide +kernel
theorem dL_law_606 : decode cL_law 606 = .ok (.iload_n 3, 1) := by decide +kernel
theorem dL_law_607 : decode cL_law 607 = .ok (.iconst 1, 1) := by decide +kernel
theorem dL_law_608 : decode cL_law 608 = .ok (.iadd, 1) := by decide +kernel
theorem dL_law_609 : decode cL_law 609 = .ok (.iaload, 1) := by decide +kernel
theorem dL_law_610 : decode cL_law 610 = .ok (.aload_n 0, 1) := by decide +kernel
theorem dL_law_611 : decode cL_law 611 = .ok (.iload_n 3, 1) := by decide +kernel
theorem dL_law_612 : decode cL_law 612 = .ok (.iconst 2, 1) := by decide +kernel
theorem dL_law_613 : decode cL_law 613 = .ok (.iadd, 1) := by decide +kernel
theorem dL_law_614 : decode cL_law 614 = .ok (.iaload, 1) := by decide +kernel
theorem dL_law_615 : decode cL_law 615 = .ok (.invokevirtual 84, 3) := by decide +kernel
theorem dL_law_618 : decode cL_law 618 = .ok (.if_icmp .eq 203, 3) := by decide +kernel
theorem dL_law_621 : decode cL_law 621 = .ok (.iconst 0, 1) := by decide +kernel
theorem dL_law_622 : decode cL_law 622 = .ok (.ireturn, 1) := by decide +kernel
theorem dL_law_623 : decode cL_law 623 = .ok (.aload_n 1, 1) := by decide +kernel
theorem dL_law_624 : decode cL_law 624 = .ok (.aload_n 0, 1) := by decide +kernel
theorem dL_law_625 : decode cL_law 625 = .ok (.iload_n 3, 1) := by decide +kernel
theorem dL_law_626 : decode cL_law 626 = .ok (.iconst 1, 1) := by decide +kernel
theorem dL_law_627 : decode cL_law 627 = .ok (.iadd, 1) := by decide +kernel
theorem dL_law_628 : decode cL_law 628 = .ok (.iaload, 1) := by decide +kernel
theorem dL_law_629 : decode cL_law 629 = .ok (.aload_n 0, 1) := by decide +kernel
theorem dL_law_630 : decode cL_law 630 = .ok (.iload_n 3, 1) := by decide +kernel
theorem dL_law_631 : decode cL_law 631 = .ok (.iconst 2, 1) := by decide +kernel
theorem dL_law_632 : decode cL_law 632 = .ok (.iadd, 1) := by decide +kernel
theorem dL_law_633 : decode cL_law 633 = .ok (.iaload, 1) := by decide +kernel
theorem dL_law_634 : decode cL_law 634 = .ok (.invokevirtual 85, 3) := by decide +kernel
theorem dL_law_637 : decode cL_law 637 = .ok (.aload_n 2, 1) := by decide +kernel
theorem dL_law_638 : decode cL_law 638 = .ok (.aload_n 0, 1) := by decide +kernel
theorem dL_law_639 : decode cL_law 639 = .ok (.iload_n 3, 1) := by decide +kernel
theorem dL_law_640 : decode cL_law 640 = .ok (.iconst 1, 1) := by decide +kernel
theorem dL_law_641 : decode cL_law 641 = .ok (.iadd, 1) := by decide +kernel
theorem dL_law_642 : decode cL_law 642 = .ok (.iaload, 1) := by decide +kernel
theorem dL_law_643 : decode cL_law 643 = .ok (.aload_n 0, 1) := by decide +kernel
theorem dL_law_644 : decode cL_law 644 = .ok (.iload_n 3, 1) := by decide +kernel
theorem dL_law_645 : decode cL_law 645 = .ok (.iconst 2, 1) := by decide +kernel
theorem dL_law_646 : decode cL_law 646 = .ok (.iadd, 1) := by decide +kernel
theorem dL_law_647 : decode cL_law 647 = .ok (.iaload, 1) := by decide +kernel
theorem dL_law_648 : decode cL_law 648 = .ok (.invokevirtual 88, 3) := by decide +kernel
theorem dL_law_651 : decode cL_law 651 = .ok (.if_icmp .eq 170, 3) := by decide +kernel
theorem dL_law_654 : decode cL_law 654 = .ok (.iconst 0, 1) := by decide +kernel
theorem dL_law_655 : decode cL_law 655 = .ok (.ireturn, 1) := by decide +kernel
theorem dL_law_656 : decode cL_law 656 = .ok (.aload_n 1, 1) := by decide +kernel
theorem dL_law_657 : decode cL_law 657 = .ok (.invokevirtual 89, 3) := by decide +kernel
theorem dL_law_660 : decode cL_law 660 = .ok (.aload_n 2, 1) := by decide +kernel
theorem dL_law_661 : decode cL_law 661 = .ok (.invokevirtual 92, 3) := by decide +kernel
theorem dL_law_664 : decode cL_law 664 = .ok (.if_icmp .eq 157, 3) := by decide +kernel
theorem dL_law_667 : decode cL_law 667 = .ok (.iconst 0, 1) := by decide +kernel
theorem dL_law_668 : decode cL_law 668 = .ok (.ireturn, 1) := by decide +kernel
theorem dL_law_669 : decode cL_law 669 = .ok (.aload_n 1, 1) := by decide +kernel
theorem dL_law_670 : decode cL_law 670 = .ok (.aload_n 0, 1) := by decide +kernel
theorem dL_law_671 : decode cL_law 671 = .ok (.iload_n 3, 1) := by decide +kernel
theorem dL_law_672 : decode cL_law 672 = .ok (.iconst 1, 1) := by decide +kernel
theorem dL_law_673 : decode cL_law 673 = .ok (.iadd, 1) := by decide +kernel
theorem dL_law_674 : decode cL_law 674 = .ok (.iaload, 1) := by decide +kernel
theorem dL_law_675 : decode cL_law 675 = .ok (.invokevirtual 93, 3) := by decide +kernel
theorem dL_law_678 : decode cL_law 678 = .ok (.aload_n 2, 1) := by decide +kernel
theorem dL_law_679 : decode cL_law 679 = .ok (.aload_n 0, 1) := by decide +kernel
theorem dL_law_680 : decode cL_law 680 = .ok (.iload_n 3, 1) := by decide +kernel
theorem dL_law_681 : decode cL_law 681 = .ok (.iconst 1, 1) := by decide +kernel
theorem dL_law_682 : decode cL_law 682 = .ok (.iadd, 1) := by decide +kernel
theorem dL_law_683 : decode cL_law 683 = .ok (.iaload, 1) := by decide +kernel
theorem dL_law_684 : decode cL_law 684 = .ok (.invokevirtual 96, 3) := by decide +kernel
theorem dL_law_687 : decode cL_law 687 = .ok (.if_icmp .eq 134, 3) := by decide +kernel
theorem dL_law_690 : decode cL_law 690 = .ok (.iconst 0, 1) := by decide +kernel
theorem dL_law_691 : decode cL_law 691 = .ok (.ireturn, 1) := by decide +kernel
theorem dL_law_692 : decode cL_law 692 = .ok (.aload_n 1, 1) := by decide +kernel
theorem dL_law_693 : decode cL_law 693 = .ok (.invokevirtual 97, 3) := by decide +kernel
theorem dL_law_696 : decode cL_law 696 = .ok (.aload_n 2, 1) := by decide +kernel
theorem dL_law_697 : decode cL_law 697 = .ok (.invokevirtual 100, 3) := by decide +kernel
theorem dL_law_700 : decode cL_law 700 = .ok (.if_icmp .eq 121, 3) := by decide +kernel
theorem dL_law_703 : decode cL_law 703 = .ok (.iconst 0, 1) := by decide +kernel
theorem dL_law_704 : decode cL_law 704 = .ok (.ireturn, 1) := by decide +kernel
theorem dL_law_705 : decode cL_law 705 = .ok (.aload_n 1, 1) := by decide +kernel
theorem dL_law_706 : decode cL_law 706 = .ok (.aload_n 0, 1) := by decide +kernel
theorem dL_law_707 : decode cL_law 707 = .ok (.iload_n 3, 1) := by decide +kernel
theorem dL_law_708 : decode cL_law 708 = .ok (.iconst 1, 1) := by decide +kernel
theorem dL_law_709 : decode cL_law 709 = .ok (.iadd, 1) := by decide +kernel
theorem dL_law_710 : decode cL_law 710 = .ok (.iaload, 1) := by decide +kernel
theorem dL_law_711 : decode cL_law 711 = .ok (.aload_n 0, 1) := by decide +kernel
theorem dL_law_712 : decode cL_law 712 = .ok (.iload_n 3, 1) := by decide +kernel
theorem dL_law_713 : decode cL_law 713 = .ok (.iconst 2, 1) := by decide +kernel
theorem dL_law_714 : decode cL_law 714 = .ok (.iadd, 1) := by decide +kernel
theorem dL_law_715 : decode cL_law 715 = .ok (.iaload, 1) := by decide +kernel
theorem dL_law_716 : decode cL_law 716 = .ok (.invokevirtual 101, 3) := by decide +kernel
theorem dL_law_719 : decode cL_law 719 = .ok (.aload_n 2, 1) := by decide +kernel
theorem dL_law_720 : decode cL_law 720 = .ok (.aload_n 0, 1) := by decide +kernel
theorem dL_law_721 : decode cL_law 721 = .ok (.iload_n 3, 1) := by decide +kernel
theorem dL_law_722 : decode cL_law 722 = .ok (.iconst 1, 1) := by decide +kernel
theorem dL_law_723 : decode cL_law 723 = .ok (.iadd, 1) := by decide +kernel
theorem dL_law_724 : decode cL_law 724 = .ok (.iaload, 1) := by decide +kernel
theorem dL_law_725 : decode cL_law 725 = .ok (.aload_n 0, 1) := by decide +kernel
theorem dL_law_726 : decode cL_law 726 = .ok (.iload_n 3, 1) := by decide +kernel
theorem dL_law_727 : decode cL_law 727 = .ok (.iconst 2, 1) := by decide +kernel
theorem dL_law_728 : decode cL_law 728 = .ok (.iadd, 1) := by decide +kernel
theorem dL_law_729 : decode cL_law 729 = .ok (.iaload, 1) := by decide +kernel
theorem dL_law_730 : decode cL_law 730 = .ok (.invokevirtual 104, 3) := by decide +kernel
theorem dL_law_733 : decode cL_law 733 = .ok (.if_icmp .eq 88, 3) := by decide +kernel
theorem dL_law_736 : decode cL_law 736 = .ok (.iconst 0, 1) := by decide +kernel
theorem dL_law_737 : decode cL_law 737 = .ok (.ireturn, 1) := by decide +kernel
theorem dL_law_738 : decode cL_law 738 = .ok (.aload_n 1, 1) := by decide +kernel
theorem dL_law_739 : decode cL_law 739 = .ok (.aload_n 0, 1) := by decide +kernel
theorem dL_law_740 : decode cL_law 740 = .ok (.iload_n 3, 1) := by decide +kernel
theorem dL_law_741 : decode cL_law 741 = .ok (.iconst 1, 1) := by decide +kernel
theorem dL_law_742 : decode cL_law 742 = .ok (.iadd, 1) := by decide +kernel
theorem dL_law_743 : decode cL_law 743 = .ok (.iaload, 1) := by decide +kernel
theorem dL_law_744 : decode cL_law 744 = .ok (.invokevirtual 105, 3) := by decide +kernel
theorem dL_law_747 : decode cL_law 747 = .ok (.aload_n 2, 1) := by decide +kernel
theorem dL_law_748 : decode cL_law 748 = .ok (.aload_n 0, 1) := by decide +kernel
theorem dL_law_749 : decode cL_law 749 = .ok (.iload_n 3, 1) := by decide +kernel
theorem dL_law_750 : decode cL_law 750 = .ok (.iconst 1, 1) := by decide +kernel
theorem dL_law_751 : decode cL_law 751 = .ok (.iadd, 1) := by decide +kernel
theorem dL_law_752 : decode cL_law 752 = .ok (.iaload, 1) := by decide +kernel
theorem dL_law_753 : decode cL_law 753 = .ok (.invokevirtual 108, 3) := by decide +kernel
theorem dL_law_756 : decode cL_law 756 = .ok (.if_icmp .eq 65, 3) := by decide +kernel
theorem dL_law_759 : decode cL_law 759 = .ok (.iconst 0, 1) := by decide +kernel
theorem dL_law_760 : decode cL_law 760 = .ok (.ireturn, 1) := by decide +kernel
theorem dL_law_761 : decode cL_law 761 = .ok (.aload_n 1, 1) := by decide +kernel
theorem dL_law_762 : decode cL_law 762 = .ok (.aload_n 0, 1) := by decide +kernel
theorem dL_law_763 : decode cL_law 763 = .ok (.iload_n 3, 1) := by decide +kernel
theorem dL_law_764 : decode cL_law 764 = .ok (.iconst 1, 1) := by decide +kernel
theorem dL_law_765 : decode cL_law 765 = .ok (.iadd, 1) := by decide +kernel
theorem dL_law_766 : decode cL_law 766 = .ok (.iaload, 1) := by decide +kernel
theorem dL_law_767 : decode cL_law 767 = .ok (.invokevirtual 109, 3) := by decide +kernel
theorem dL_law_770 : decode cL_law 770 = .ok (.aload_n 2, 1) := by decide +kernel
theorem dL_law_771 : decode cL_law 771 = .ok (.aload_n 0, 1) := by decide +kernel
theorem dL_law_772 : decode cL_law 772 = .ok (.iload_n 3, 1) := by decide +kernel
theorem dL_law_773 : decode cL_law 773 = .ok (.iconst 1, 1) := by decide +kernel
theorem dL_law_774 : decode cL_law 774 = .ok (.iadd, 1) := by decide +kernel
theorem dL_law_775 : decode cL_law 775 = .ok (.iaload, 1) := by decide +kernel
theorem dL_law_776 : decode cL_law 776 = .ok (.invokevirtual 112, 3) := by decide +kernel
theorem dL_law_779 : decode cL_law 779 = .ok (.if_icmp .eq 42, 3) := by decide +kernel
theorem dL_law_782 : decode cL_law 782 = .ok (.iconst 0, 1) := by decide +kernel
theorem dL_law_783 : decode cL_law 783 = .ok (.ireturn, 1) := by decide +kernel
theorem dL_law_784 : decode cL_law 784 = .ok (.aload_n 1, 1) := by decide +kernel
theorem dL_law_785 : decode cL_law 785 = .ok (.aload_n 0, 1) := by decide +kernel
theorem dL_law_786 : decode cL_law 786 = .ok (.iload_n 3, 1) := by decide +kernel
theorem dL_law_787 : decode cL_law 787 = .ok (.iconst 1, 1) := by decide +kernel
theorem dL_law_788 : decode cL_law 788 = .ok (.iadd, 1) := by decide +kernel
theorem dL_law_789 : decode cL_law 789 = .ok (.iaload, 1) := by decide +kernel
theorem dL_law_790 : decode cL_law 790 = .ok (.invokevirtual 113, 3) := by decide +kernel
theorem dL_law_793 : decode cL_law 793 = .ok (.aload_n 2, 1) := by decide +kernel
theorem dL_law_794 : decode cL_law 794 = .ok (.aload_n 0, 1) := by decide +kernel
theorem dL_law_795 : decode cL_law 795 = .ok (.iload_n 3, 1) := by decide +kernel
theorem dL_law_796 : decode cL_law 796 = .ok (.iconst 1, 1) := by decide +kernel
theorem dL_law_797 : decode cL_law 797 = .ok (.iadd, 1) := by decide +kernel
theorem dL_law_798 : decode cL_law 798 = .ok (.iaload, 1) := by decide +kernel
theorem dL_law_799 : decode cL_law 799 = .ok (.invokevirtual 116, 3) := by decide +kernel
theorem dL_law_802 : decode cL_law 802 = .ok (.if_icmp .eq 19, 3) := by decide +kernel
theorem dL_law_805 : decode cL_law 805 = .ok (.iconst 0, 1) := by decide +kernel
theorem dL_law_806 : decode cL_law 806 = .ok (.ireturn, 1) := by decide +kernel
theorem dL_law_807 : decode cL_law 807 = .ok (.aload_n 1, 1) := by decide +kernel
theorem dL_law_808 : decode cL_law 808 = .ok (.invokevirtual 117, 3) := by decide +kernel
theorem dL_law_811 : decode cL_law 811 = .ok (.aload_n 2, 1) := by decide +kernel
theorem dL_law_812 : decode cL_law 812 = .ok (.invokevirtual 121, 3) := by decide +kernel
theorem dL_law_815 : decode cL_law 815 = .ok (.lcmp, 1) := by decide +kernel
theorem dL_law_816 : decode cL_law 816 = .ok (.ifCond .eq 5, 3) := by decide +kernel
theorem dL_law_819 : decode cL_law 819 = .ok (.iconst 0, 1) := by decide +kernel
theorem dL_law_820 : decode cL_law 820 = .ok (.ireturn, 1) := by decide +kernel
theorem dL_law_821 : decode cL_law 821 = .ok (.iinc 3 4, 3) := by decide +kernel
theorem dL_law_824 : decode cL_law 824 = .ok (.goto (-806), 3) := by decide +kernel
theorem dL_law_827 : decode cL_law 827 = .ok (.iconst 1, 1) := by decide +kernel
theorem dL_law_828 : decode cL_law 828 = .ok (.ireturn, 1) := by decide +kernel
set_option maxHeartbeats 16000000 in
set_option maxRecDepth 100000 in
theorem law_loop {p : Program} {l : Launch} {e : Env} {s : State} {m : MethodId} {below : List Frame} {meth : Method} {c : Code} {b L : Nat} {xs : Nat → Int32} (C0 : lw_At p s m meth c b L xs) (E : GE) (hE : gE E s) (t : Nat) (hF : gF t (fun q : Nat => s.heap.size ≤ q) s) (G : Nat → Nat → Nat) (e1 e2 : Nat → Nat → Nat) (a : Nat → Nat) :
    ∀ (n : Nat) (i : Int32) (Z : GC) (M : Mo) (pl dr : Nat → Nat) (e0 : Nat → Nat → Nat) (H : Heap) (locs : List Loc) (ls : Array Slot), wp_law L xs n i Z M → gP E (gW [bGC G (pl 99) (dr 99) Z.1, bText E (G 1) (Z.2.1 1), bNow E (G 2) (G 3) e0 (Z.2.1 2), bScene E (G 3) (Z.2.1 3), bPlan E pl (Z.2.1 4), bPlan E dr (Z.2.1 5), bRumour E (G 6) (Z.2.1 6), bIm E G (Z.2.1 7), bNow E (G 8) (G 10) e1 (Z.2.1 8), bNow E (G 9) (G 11) e2 (Z.2.1 9), bScene E (G 10) (Z.2.1 10), bScene E (G 11) (Z.2.1 11), bPool E e0 (Z.2.2 0), bPool E e1 (Z.2.2 1), bPool E e2 (Z.2.2 2), bModel E a M]) H → va_D (fun q : Nat => s.heap.size ≤ q) (gW [bGC G (pl 99) (dr 99) Z.1, bText E (G 1) (Z.2.1 1), bNow E (G 2) (G 3) e0 (Z.2.1 2), bScene E (G 3) (Z.2.1 3), bPlan E pl (Z.2.1 4), bPlan E dr (Z.2.1 5), bRumour E (G 6) (Z.2.1 6), bIm E G (Z.2.1 7), bNow E (G 8) (G 10) e1 (Z.2.1 8), bNow E (G 9) (G 11) e2 (Z.2.1 9), bScene E (G 10) (Z.2.1 10), bScene E (G 11) (Z.2.1 11), bPool E e0 (Z.2.2 0), bPool E e1 (Z.2.2 1), bPool E e2 (Z.2.2 2), bModel E a M]) → va_S (fun q : Nat => s.heap.size ≤ q) s.heap H locs → lv_has ls 4 [(0, .ref b), (1, .ref (G 0 99)), (2, .ref (a 99)), (3, .int i)] → W p l e room_1 s m #[Value.ref b] below meth c H locs 600000 7302250 (lw_Z below #[Value.ref b] s) (F0 m 18 ls []) := by
  obtain ⟨hx, hb, hr, hml, hown, hts, hX, hbl, hlocks, hgv⟩ := C0
  have ht := tb_ht hts
  have hK := hE.1
  have hbA : ¬ (fun q : Nat => s.heap.size ≤ q) b := Nat.not_le.mpr hbl
  generalize hA0 : (fun q : Nat => s.heap.size ≤ q) = A at hbA hF ⊢
  intro n
  induction n with
  | zero => intro i Z M pl dr e0 H locs ls h; exact h.elim
  | succ n ih =>
      intro i Z M pl dr e0 H locs ls h hP hD hS hl
      rw [wp_law] at h
      refine lv_iload_n hx hb dL_law_18 rfl (lv_at hl 3 rfl) ?_
      refine lv_aload_n hx hb dL_law_19 rfl (lv_at hl 0 rfl) ?_
      refine va_slen hx hb hX hbl hbA hS dL_law_20 ?_
      refine lv_asi (x' := nI L) rfl ?_
      refine lv_iconst (v := 4) hx hb dL_law_21 (by decide) ?_
      refine lv_isub hx hb dL_law_22 ?_
      refine lv_icmp_gt (tgt := 827) hx hb dL_law_23 (by decide) (fun c_1 => ?_) (fun c_1 => ?_)
      · have h := h.1 c_1
        refine lv_iconst (v := 1) hx hb dL_law_827 (by decide) ?_
        refine va_forget (fun q hq => by have := hS.2.2 q hq; rw [← hA0] at this; exact this) ?_
        exact lw_ret hx hb hr hlocks dL_law_828
      · have h := h.2 c_1
        refine lv_aload_n hx hb dL_law_26 rfl (lv_at hl 0 rfl) ?_
        refine lv_iload_n hx hb dL_law_27 rfl (lv_at hl 3 rfl) ?_
        refine va_sld hx hb hX hbl hbA hS h.1 dL_law_28 ?_
        have h := h.2
        refine lv_bipush (v := 31) hx hb dL_law_29 (by decide) ?_
        refine lv_iand hx hb dL_law_31 ?_
        rcases sw_0_25 ((xs i.toNatClampNeg) &&& 31) with c | c | c | c | c | c | c | c | c | c | c | c | c | c | c | c | c | c | c | c | c | c | c | c | c | c | c
        · have h := h.1 c
          refine lv_asi c ?_
          refine lv_tableIn (off := 120) (tgt := 152) hx hb dL_law_32 (by decide) (by decide) rfl (by decide) ?_
          refine lv_aload_n hx hb dL_law_152 rfl (lv_at hl 1 rfl) ?_
          refine lv_aload_n hx hb dL_law_153 rfl (lv_at hl 0 rfl) ?_
          refine lv_iload_n hx hb dL_law_154 rfl (lv_at hl 3 rfl) ?_
          refine lv_iconst (v := 1) hx hb dL_law_155 (by decide) ?_
          refine lv_iadd hx hb dL_law_156 ?_
          refine va_sld hx hb hX hbl hbA hS h.1 dL_law_157 ?_
          have h := h.2
          have p1 := gB (n := 16) (bs := [bGC G (pl 99) (dr 99) Z.1, bText E (G 1) (Z.2.1 1), bNow E (G 2) (G 3) e0 (Z.2.1 2), bScene E (G 3) (Z.2.1 3), bPlan E pl (Z.2.1 4), bPlan E dr (Z.2.1 5), bRumour E (G 6) (Z.2.1 6), bIm E G (Z.2.1 7), bNow E (G 8) (G 10) e1 (Z.2.1 8), bNow E (G 9) (G 11) e2 (Z.2.1 9), bScene E (G 10) (Z.2.1 10), bScene E (G 11) (Z.2.1 11), bPool E e0 (Z.2.2 0), bPool E e1 (Z.2.2 1), bPool E e2 (Z.2.2 2), bModel E a M]) (bc := [bGC G (pl 99) (dr 99) Z.1, bText E (G 1) (Z.2.1 1), bNow E (G 2) (G 3) e0 (Z.2.1 2), bScene E (G 3) (Z.2.1 3), bPlan E pl (Z.2.1 4), bPlan E dr (Z.2.1 5), bRumour E (G 6) (Z.2.1 6), bIm E G (Z.2.1 7), bNow E (G 8) (G 10) e1 (Z.2.1 8), bNow E (G 9) (G 11) e2 (Z.2.1 9), bScene E (G 10) (Z.2.1 10), bScene E (G 11) (Z.2.1 11), bPool E e0 (Z.2.2 0), bPool E e1 (Z.2.2 1), bPool E e2 (Z.2.2 2)]) (br := [bModel E a M]) [0, 1, 2, 3, 4, 5, 6, 7, 8, 9, 10, 11, 12, 13, 14, 15] rfl rfl (by decide)
          refine g_i (g_runV (As := [.int (xs (i + 1).toNatClampNeg)]) (rest := []) ⟨hx, hb, hml, hown, ht⟩ hE (c_X5_type E l G pl dr e0 e1 e2 Z (xs (i + 1).toNatClampNeg) _ h) ⟨rfl, rfl⟩ wk_L_13 wi_X5_type ws_X5_type wn_X5 wc_X5_type yd_X5_type ⟨Nat.le_of_ble_eq_true rfl, Nat.le_of_ble_eq_true rfl⟩ hP hD p1 (ci := 5) rfl rfl rfl rfl rfl hl.1 rfl (lv_room (Nat.le_of_ble_eq_true rfl)) dL_law_158 ⟨Nat.le_of_ble_eq_true rfl, Nat.le_of_ble_eq_true rfl⟩) hP hD hS p1 (fun r_2 Z_3 w H locs h hw hP hD hS => ?_)
          subst hw
          clear p1
          have p2 := gB (n := 16) (bs := [bGC G (pl 99) (dr 99) Z_3.1, bText E (G 1) (Z_3.2.1 1), bNow E (G 2) (G 3) e0 (Z_3.2.1 2), bScene E (G 3) (Z_3.2.1 3), bPlan E pl (Z_3.2.1 4), bPlan E dr (Z_3.2.1 5), bRumour E (G 6) (Z_3.2.1 6), bIm E G (Z_3.2.1 7), bNow E (G 8) (G 10) e1 (Z_3.2.1 8), bNow E (G 9) (G 11) e2 (Z_3.2.1 9), bScene E (G 10) (Z_3.2.1 10), bScene E (G 11) (Z_3.2.1 11), bPool E e0 (Z_3.2.2 0), bPool E e1 (Z_3.2.2 1), bPool E e2 (Z_3.2.2 2), bModel E a M]) (bc := [bGC G (pl 99) (dr 99) Z_3.1, bText E (G 1) (Z_3.2.1 1), bNow E (G 2) (G 3) e0 (Z_3.2.1 2), bScene E (G 3) (Z_3.2.1 3), bPlan E pl (Z_3.2.1 4), bPlan E dr (Z_3.2.1 5), bRumour E (G 6) (Z_3.2.1 6), bIm E G (Z_3.2.1 7), bNow E (G 8) (G 10) e1 (Z_3.2.1 8), bNow E (G 9) (G 11) e2 (Z_3.2.1 9), bScene E (G 10) (Z_3.2.1 10), bScene E (G 11) (Z_3.2.1 11), bPool E e0 (Z_3.2.2 0), bPool E e1 (Z_3.2.2 1), bPool E e2 (Z_3.2.2 2)]) (br := [bModel E a M]) [0, 1, 2, 3, 4, 5, 6, 7, 8, 9, 10, 11, 12, 13, 14, 15] rfl rfl (by decide)
          have hP := gP_perm p2.symm hP
          have hD := gD_perm p2.symm hD
          clear p2
          refine lv_aload_n hx hb dL_law_161 rfl (lv_at hl 2 rfl) ?_
          refine lv_aload_n hx hb dL_law_162 rfl (lv_at hl 0 rfl) ?_
          refine lv_iload_n hx hb dL_law_163 rfl (lv_at hl 3 rfl) ?_
          refine lv_iconst (v := 1) hx hb dL_law_164 (by decide) ?_
          refine lv_iadd hx hb dL_law_165 ?_
          refine va_sld hx hb hX hbl hbA hS h.1 dL_law_166 ?_
          have h := h.2
          have p1 := gB (n := 16) (bs := [bGC G (pl 99) (dr 99) Z_3.1, bText E (G 1) (Z_3.2.1 1), bNow E (G 2) (G 3) e0 (Z_3.2.1 2), bScene E (G 3) (Z_3.2.1 3), bPlan E pl (Z_3.2.1 4), bPlan E dr (Z_3.2.1 5), bRumour E (G 6) (Z_3.2.1 6), bIm E G (Z_3.2.1 7), bNow E (G 8) (G 10) e1 (Z_3.2.1 8), bNow E (G 9) (G 11) e2 (Z_3.2.1 9), bScene E (G 10) (Z_3.2.1 10), bScene E (G 11) (Z_3.2.1 11), bPool E e0 (Z_3.2.2 0), bPool E e1 (Z_3.2.2 1), bPool E e2 (Z_3.2.2 2), bModel E a M]) (bc := [bModel E a M]) (br := [bGC G (pl 99) (dr 99) Z_3.1, bText E (G 1) (Z_3.2.1 1), bNow E (G 2) (G 3) e0 (Z_3.2.1 2), bScene E (G 3) (Z_3.2.1 3), bPlan E pl (Z_3.2.1 4), bPlan E dr (Z_3.2.1 5), bRumour E (G 6) (Z_3.2.1 6), bIm E G (Z_3.2.1 7), bNow E (G 8) (G 10) e1 (Z_3.2.1 8), bNow E (G 9) (G 11) e2 (Z_3.2.1 9), bScene E (G 10) (Z_3.2.1 10), bScene E (G 11) (Z_3.2.1 11), bPool E e0 (Z_3.2.2 0), bPool E e1 (Z_3.2.2 1), bPool E e2 (Z_3.2.2 2)]) [15, 0, 1, 2, 3, 4, 5, 6, 7, 8, 9, 10, 11, 12, 13, 14] rfl rfl (by decide)
          refine g_i (g_runV (As := [.int (xs (i + 1).toNatClampNeg)]) (rest := [.int r_2]) ⟨hx, hb, hml, hown, ht⟩ hE (c_X6_type E l a M (xs (i + 1).toNatClampNeg) _ h) ⟨rfl, rfl⟩ wk_L_17 wi_X6_type ws_X6_type wn_X6 wc_X6_type yd_X6_type ⟨Nat.le_of_ble_eq_true rfl, Nat.le_of_ble_eq_true rfl⟩ hP hD p1 (ci := 6) rfl rfl rfl rfl rfl hl.1 rfl (lv_room (Nat.le_of_ble_eq_true rfl)) dL_law_167 ⟨Nat.le_of_ble_eq_true rfl, Nat.le_of_ble_eq_true rfl⟩) hP hD hS p1 (fun r_4 M_5 w H locs h hw hP hD hS => ?_)
          subst hw
          clear p1
          have p2 := gB (n := 16) (bs := [bGC G (pl 99) (dr 99) Z_3.1, bText E (G 1) (Z_3.2.1 1), bNow E (G 2) (G 3) e0 (Z_3.2.1 2), bScene E (G 3) (Z_3.2.1 3), bPlan E pl (Z_3.2.1 4), bPlan E dr (Z_3.2.1 5), bRumour E (G 6) (Z_3.2.1 6), bIm E G (Z_3.2.1 7), bNow E (G 8) (G 10) e1 (Z_3.2.1 8), bNow E (G 9) (G 11) e2 (Z_3.2.1 9), bScene E (G 10) (Z_3.2.1 10), bScene E (G 11) (Z_3.2.1 11), bPool E e0 (Z_3.2.2 0), bPool E e1 (Z_3.2.2 1), bPool E e2 (Z_3.2.2 2), bModel E a M_5]) (bc := [bModel E a M_5]) (br := [bGC G (pl 99) (dr 99) Z_3.1, bText E (G 1) (Z_3.2.1 1), bNow E (G 2) (G 3) e0 (Z_3.2.1 2), bScene E (G 3) (Z_3.2.1 3), bPlan E pl (Z_3.2.1 4), bPlan E dr (Z_3.2.1 5), bRumour E (G 6) (Z_3.2.1 6), bIm E G (Z_3.2.1 7), bNow E (G 8) (G 10) e1 (Z_3.2.1 8), bNow E (G 9) (G 11) e2 (Z_3.2.1 9), bScene E (G 10) (Z_3.2.1 10), bScene E (G 11) (Z_3.2.1 11), bPool E e0 (Z_3.2.2 0), bPool E e1 (Z_3.2.2 1), bPool E e2 (Z_3.2.2 2)]) [15, 0, 1, 2, 3, 4, 5, 6, 7, 8, 9, 10, 11, 12, 13, 14] rfl rfl (by decide)
          have hP := gP_perm p2.symm hP
          have hD := gD_perm p2.symm hD
          clear p2
          refine lv_icmp_eq (tgt := 821) hx hb dL_law_170 (by decide) (fun c_6 => ?_) (fun c_6 => ?_)
          · have h := h.1 c_6
            refine lv_iinc (v := (i + 4)) (lv' := [(3, .int (i + 4)), (0, .ref b), (1, .ref (G 0 99)), (2, .ref (a 99))]) hx hb dL_law_821 hl (k := 3) rfl rfl (by decide) rfl (fun ls hl => ?_)
            refine lv_goto (tgt := 18) hx hb dL_law_824 (by decide) ?_
            exact ih (i + 4) Z_3 M_5 pl dr e0 _ _ _ h hP hD hS (lv_sub hl [1, 2, 3, 0] rfl)
          · have h := h.2 c_6
            refine lv_iconst (v := 0) hx hb dL_law_173 (by decide) ?_
            exact h.elim
        · have h := h.2.1 c
          refine lv_asi c ?_
          refine lv_tableIn (off := 143) (tgt := 175) hx hb dL_law_32 (by decide) (by decide) rfl (by decide) ?_
          refine lv_aload_n hx hb dL_law_175 rfl (lv_at hl 1 rfl) ?_
          have p1 := gB (n := 16) (bs := [bGC G (pl 99) (dr 99) Z.1, bText E (G 1) (Z.2.1 1), bNow E (G 2) (G 3) e0 (Z.2.1 2), bScene E (G 3) (Z.2.1 3), bPlan E pl (Z.2.1 4), bPlan E dr (Z.2.1 5), bRumour E (G 6) (Z.2.1 6), bIm E G (Z.2.1 7), bNow E (G 8) (G 10) e1 (Z.2.1 8), bNow E (G 9) (G 11) e2 (Z.2.1 9), bScene E (G 10) (Z.2.1 10), bScene E (G 11) (Z.2.1 11), bPool E e0 (Z.2.2 0), bPool E e1 (Z.2.2 1), bPool E e2 (Z.2.2 2), bModel E a M]) (bc := [bGC G (pl 99) (dr 99) Z.1, bText E (G 1) (Z.2.1 1), bNow E (G 2) (G 3) e0 (Z.2.1 2), bScene E (G 3) (Z.2.1 3), bPlan E pl (Z.2.1 4), bPlan E dr (Z.2.1 5), bRumour E (G 6) (Z.2.1 6), bIm E G (Z.2.1 7), bNow E (G 8) (G 10) e1 (Z.2.1 8), bNow E (G 9) (G 11) e2 (Z.2.1 9), bScene E (G 10) (Z.2.1 10), bScene E (G 11) (Z.2.1 11), bPool E e0 (Z.2.2 0), bPool E e1 (Z.2.2 1), bPool E e2 (Z.2.2 2)]) (br := [bModel E a M]) [0, 1, 2, 3, 4, 5, 6, 7, 8, 9, 10, 11, 12, 13, 14, 15] rfl rfl (by decide)
          refine g_i (g_runV (As := []) (rest := []) ⟨hx, hb, hml, hown, ht⟩ hE (c_X5_clear E l G pl dr e0 e1 e2 Z _ h) ⟨rfl, rfl⟩ wk_L_18 wi_X5_clear ws_X5_clear wn_X5 wc_X5_clear yd_X5_clear ⟨Nat.le_of_ble_eq_true rfl, Nat.le_of_ble_eq_true rfl⟩ hP hD p1 (ci := 5) rfl rfl rfl rfl rfl hl.1 rfl (lv_room (Nat.le_of_ble_eq_true rfl)) dL_law_176 ⟨Nat.le_of_ble_eq_true rfl, Nat.le_of_ble_eq_true rfl⟩) hP hD hS p1 (fun r_7 Z_8 w H locs h hw hP hD hS => ?_)
          subst hw
          clear p1
          have p2 := gB (n := 16) (bs := [bGC G (pl 99) (dr 99) Z_8.1, bText E (G 1) (Z_8.2.1 1), bNow E (G 2) (G 3) e0 (Z_8.2.1 2), bScene E (G 3) (Z_8.2.1 3), bPlan E pl (Z_8.2.1 4), bPlan E dr (Z_8.2.1 5), bRumour E (G 6) (Z_8.2.1 6), bIm E G (Z_8.2.1 7), bNow E (G 8) (G 10) e1 (Z_8.2.1 8), bNow E (G 9) (G 11) e2 (Z_8.2.1 9), bScene E (G 10) (Z_8.2.1 10), bScene E (G 11) (Z_8.2.1 11), bPool E e0 (Z_8.2.2 0), bPool E e1 (Z_8.2.2 1), bPool E e2 (Z_8.2.2 2), bModel E a M]) (bc := [bGC G (pl 99) (dr 99) Z_8.1, bText E (G 1) (Z_8.2.1 1), bNow E (G 2) (G 3) e0 (Z_8.2.1 2), bScene E (G 3) (Z_8.2.1 3), bPlan E pl (Z_8.2.1 4), bPlan E dr (Z_8.2.1 5), bRumour E (G 6) (Z_8.2.1 6), bIm E G (Z_8.2.1 7), bNow E (G 8) (G 10) e1 (Z_8.2.1 8), bNow E (G 9) (G 11) e2 (Z_8.2.1 9), bScene E (G 10) (Z_8.2.1 10), bScene E (G 11) (Z_8.2.1 11), bPool E e0 (Z_8.2.2 0), bPool E e1 (Z_8.2.2 1), bPool E e2 (Z_8.2.2 2)]) (br := [bModel E a M]) [0, 1, 2, 3, 4, 5, 6, 7, 8, 9, 10, 11, 12, 13, 14, 15] rfl rfl (by decide)
          have hP := gP_perm p2.symm hP
          have hD := gD_perm p2.symm hD
          clear p2
          refine lv_aload_n hx hb dL_law_179 rfl (lv_at hl 2 rfl) ?_
          have p1 := gB (n := 16) (bs := [bGC G (pl 99) (dr 99) Z_8.1, bText E (G 1) (Z_8.2.1 1), bNow E (G 2) (G 3) e0 (Z_8.2.1 2), bScene E (G 3) (Z_8.2.1 3), bPlan E pl (Z_8.2.1 4), bPlan E dr (Z_8.2.1 5), bRumour E (G 6) (Z_8.2.1 6), bIm E G (Z_8.2.1 7), bNow E (G 8) (G 10) e1 (Z_8.2.1 8), bNow E (G 9) (G 11) e2 (Z_8.2.1 9), bScene E (G 10) (Z_8.2.1 10), bScene E (G 11) (Z_8.2.1 11), bPool E e0 (Z_8.2.2 0), bPool E e1 (Z_8.2.2 1), bPool E e2 (Z_8.2.2 2), bModel E a M]) (bc := [bModel E a M]) (br := [bGC G (pl 99) (dr 99) Z_8.1, bText E (G 1) (Z_8.2.1 1), bNow E (G 2) (G 3) e0 (Z_8.2.1 2), bScene E (G 3) (Z_8.2.1 3), bPlan E pl (Z_8.2.1 4), bPlan E dr (Z_8.2.1 5), bRumour E (G 6) (Z_8.2.1 6), bIm E G (Z_8.2.1 7), bNow E (G 8) (G 10) e1 (Z_8.2.1 8), bNow E (G 9) (G 11) e2 (Z_8.2.1 9), bScene E (G 10) (Z_8.2.1 10), bScene E (G 11) (Z_8.2.1 11), bPool E e0 (Z_8.2.2 0), bPool E e1 (Z_8.2.2 1), bPool E e2 (Z_8.2.2 2)]) [15, 0, 1, 2, 3, 4, 5, 6, 7, 8, 9, 10, 11, 12, 13, 14] rfl rfl (by decide)
          refine g_i (g_runV (As := []) (rest := [.int r_7]) ⟨hx, hb, hml, hown, ht⟩ hE (c_X6_clear E l a M _ h) ⟨rfl, rfl⟩ wk_L_22 wi_X6_clear ws_X6_clear wn_X6 wc_X6_clear yd_X6_clear ⟨Nat.le_of_ble_eq_true rfl, Nat.le_of_ble_eq_true rfl⟩ hP hD p1 (ci := 6) rfl rfl rfl rfl rfl hl.1 rfl (lv_room (Nat.le_of_ble_eq_true rfl)) dL_law_180 ⟨Nat.le_of_ble_eq_true rfl, Nat.le_of_ble_eq_true rfl⟩) hP hD hS p1 (fun r_9 M_10 w H locs h hw hP hD hS => ?_)
          subst hw
          clear p1
          have p2 := gB (n := 16) (bs := [bGC G (pl 99) (dr 99) Z_8.1, bText E (G 1) (Z_8.2.1 1), bNow E (G 2) (G 3) e0 (Z_8.2.1 2), bScene E (G 3) (Z_8.2.1 3), bPlan E pl (Z_8.2.1 4), bPlan E dr (Z_8.2.1 5), bRumour E (G 6) (Z_8.2.1 6), bIm E G (Z_8.2.1 7), bNow E (G 8) (G 10) e1 (Z_8.2.1 8), bNow E (G 9) (G 11) e2 (Z_8.2.1 9), bScene E (G 10) (Z_8.2.1 10), bScene E (G 11) (Z_8.2.1 11), bPool E e0 (Z_8.2.2 0), bPool E e1 (Z_8.2.2 1), bPool E e2 (Z_8.2.2 2), bModel E a M_10]) (bc := [bModel E a M_10]) (br := [bGC G (pl 99) (dr 99) Z_8.1, bText E (G 1) (Z_8.2.1 1), bNow E (G 2) (G 3) e0 (Z_8.2.1 2), bScene E (G 3) (Z_8.2.1 3), bPlan E pl (Z_8.2.1 4), bPlan E dr (Z_8.2.1 5), bRumour E (G 6) (Z_8.2.1 6), bIm E G (Z_8.2.1 7), bNow E (G 8) (G 10) e1 (Z_8.2.1 8), bNow E (G 9) (G 11) e2 (Z_8.2.1 9), bScene E (G 10) (Z_8.2.1 10), bScene E (G 11) (Z_8.2.1 11), bPool E e0 (Z_8.2.2 0), bPool E e1 (Z_8.2.2 1), bPool E e2 (Z_8.2.2 2)]) [15, 0, 1, 2, 3, 4, 5, 6, 7, 8, 9, 10, 11, 12, 13, 14] rfl rfl (by decide)
          have hP := gP_perm p2.symm hP
          have hD := gD_perm p2.symm hD
          clear p2
          refine lv_icmp_eq (tgt := 821) hx hb dL_law_183 (by decide) (fun c_11 => ?_) (fun c_11 => ?_)
          · have h := h.1 c_11
            refine lv_iinc (v := (i + 4)) (lv' := [(3, .int (i + 4)), (0, .ref b), (1, .ref (G 0 99)), (2, .ref (a 99))]) hx hb dL_law_821 hl (k := 3) rfl rfl (by decide) rfl (fun ls hl => ?_)
            refine lv_goto (tgt := 18) hx hb dL_law_824 (by decide) ?_
            exact ih (i + 4) Z_8 M_10 pl dr e0 _ _ _ h hP hD hS (lv_sub hl [1, 2, 3, 0] rfl)
          · have h := h.2 c_11
            refine lv_iconst (v := 0) hx hb dL_law_186 (by decide) ?_
            exact h.elim
        · have h := h.2.2.1 c
          refine lv_asi c ?_
          refine lv_tableIn (off := 156) (tgt := 188) hx hb dL_law_32 (by decide) (by decide) rfl (by decide) ?_
          refine lv_aload_n hx hb dL_law_188 rfl (lv_at hl 1 rfl) ?_
          have p1 := gB (n := 16) (bs := [bGC G (pl 99) (dr 99) Z.1, bText E (G 1) (Z.2.1 1), bNow E (G 2) (G 3) e0 (Z.2.1 2), bScene E (G 3) (Z.2.1 3), bPlan E pl (Z.2.1 4), bPlan E dr (Z.2.1 5), bRumour E (G 6) (Z.2.1 6), bIm E G (Z.2.1 7), bNow E (G 8) (G 10) e1 (Z.2.1 8), bNow E (G 9) (G 11) e2 (Z.2.1 9), bScene E (G 10) (Z.2.1 10), bScene E (G 11) (Z.2.1 11), bPool E e0 (Z.2.2 0), bPool E e1 (Z.2.2 1), bPool E e2 (Z.2.2 2), bModel E a M]) (bc := [bGC G (pl 99) (dr 99) Z.1, bText E (G 1) (Z.2.1 1), bNow E (G 2) (G 3) e0 (Z.2.1 2), bScene E (G 3) (Z.2.1 3), bPlan E pl (Z.2.1 4), bPlan E dr (Z.2.1 5), bRumour E (G 6) (Z.2.1 6), bIm E G (Z.2.1 7), bNow E (G 8) (G 10) e1 (Z.2.1 8), bNow E (G 9) (G 11) e2 (Z.2.1 9), bScene E (G 10) (Z.2.1 10), bScene E (G 11) (Z.2.1 11), bPool E e0 (Z.2.2 0), bPool E e1 (Z.2.2 1), bPool E e2 (Z.2.2 2)]) (br := [bModel E a M]) [0, 1, 2, 3, 4, 5, 6, 7, 8, 9, 10, 11, 12, 13, 14, 15] rfl rfl (by decide)
          refine g_i (g_runV (As := []) (rest := []) ⟨hx, hb, hml, hown, ht⟩ hE (c_X5_gate E l G pl dr e0 e1 e2 Z _ h) ⟨rfl, rfl⟩ wk_L_23 wi_X5_gate ws_X5_gate wn_X5 wc_X5_gate yd_X5_gate ⟨Nat.le_of_ble_eq_true rfl, Nat.le_of_ble_eq_true rfl⟩ hP hD p1 (ci := 5) rfl rfl rfl rfl rfl hl.1 rfl (lv_room (Nat.le_of_ble_eq_true rfl)) dL_law_189 ⟨Nat.le_of_ble_eq_true rfl, Nat.le_of_ble_eq_true rfl⟩) hP hD hS p1 (fun r_12 Z_13 w H locs h hw hP hD hS => ?_)
          obtain ⟨pl_14, dr_15, e_16, rfl⟩ := hw
          clear p1
          have p2 := gB (n := 16) (bs := [bGC G (pl_14 99) (dr_15 99) Z_13.1, bText E (G 1) (Z_13.2.1 1), bNow E (G 2) (G 3) e_16 (Z_13.2.1 2), bScene E (G 3) (Z_13.2.1 3), bPlan E pl_14 (Z_13.2.1 4), bPlan E dr_15 (Z_13.2.1 5), bRumour E (G 6) (Z_13.2.1 6), bIm E G (Z_13.2.1 7), bNow E (G 8) (G 10) e1 (Z_13.2.1 8), bNow E (G 9) (G 11) e2 (Z_13.2.1 9), bScene E (G 10) (Z_13.2.1 10), bScene E (G 11) (Z_13.2.1 11), bPool E e_16 (Z_13.2.2 0), bPool E e1 (Z_13.2.2 1), bPool E e2 (Z_13.2.2 2), bModel E a M]) (bc := [bGC G (pl_14 99) (dr_15 99) Z_13.1, bText E (G 1) (Z_13.2.1 1), bNow E (G 2) (G 3) e_16 (Z_13.2.1 2), bScene E (G 3) (Z_13.2.1 3), bPlan E pl_14 (Z_13.2.1 4), bPlan E dr_15 (Z_13.2.1 5), bRumour E (G 6) (Z_13.2.1 6), bIm E G (Z_13.2.1 7), bNow E (G 8) (G 10) e1 (Z_13.2.1 8), bNow E (G 9) (G 11) e2 (Z_13.2.1 9), bScene E (G 10) (Z_13.2.1 10), bScene E (G 11) (Z_13.2.1 11), bPool E e_16 (Z_13.2.2 0), bPool E e1 (Z_13.2.2 1), bPool E e2 (Z_13.2.2 2)]) (br := [bModel E a M]) [0, 1, 2, 3, 4, 5, 6, 7, 8, 9, 10, 11, 12, 13, 14, 15] rfl rfl (by decide)
          have hP := gP_perm p2.symm hP
          have hD := gD_perm p2.symm hD
          clear p2
          refine lv_aload_n hx hb dL_law_192 rfl (lv_at hl 2 rfl) ?_
          have p1 := gB (n := 16) (bs := [bGC G (pl_14 99) (dr_15 99) Z_13.1, bText E (G 1) (Z_13.2.1 1), bNow E (G 2) (G 3) e_16 (Z_13.2.1 2), bScene E (G 3) (Z_13.2.1 3), bPlan E pl_14 (Z_13.2.1 4), bPlan E dr_15 (Z_13.2.1 5), bRumour E (G 6) (Z_13.2.1 6), bIm E G (Z_13.2.1 7), bNow E (G 8) (G 10) e1 (Z_13.2.1 8), bNow E (G 9) (G 11) e2 (Z_13.2.1 9), bScene E (G 10) (Z_13.2.1 10), bScene E (G 11) (Z_13.2.1 11), bPool E e_16 (Z_13.2.2 0), bPool E e1 (Z_13.2.2 1), bPool E e2 (Z_13.2.2 2), bModel E a M]) (bc := [bModel E a M]) (br := [bGC G (pl_14 99) (dr_15 99) Z_13.1, bText E (G 1) (Z_13.2.1 1), bNow E (G 2) (G 3) e_16 (Z_13.2.1 2), bScene E (G 3) (Z_13.2.1 3), bPlan E pl_14 (Z_13.2.1 4), bPlan E dr_15 (Z_13.2.1 5), bRumour E (G 6) (Z_13.2.1 6), bIm E G (Z_13.2.1 7), bNow E (G 8) (G 10) e1 (Z_13.2.1 8), bNow E (G 9) (G 11) e2 (Z_13.2.1 9), bScene E (G 10) (Z_13.2.1 10), bScene E (G 11) (Z_13.2.1 11), bPool E e_16 (Z_13.2.2 0), bPool E e1 (Z_13.2.2 1), bPool E e2 (Z_13.2.2 2)]) [15, 0, 1, 2, 3, 4, 5, 6, 7, 8, 9, 10, 11, 12, 13, 14] rfl rfl (by decide)
          refine g_i (g_runV (As := []) (rest := [.int r_12]) ⟨hx, hb, hml, hown, ht⟩ hE (c_X6_gate E l a M _ h) ⟨rfl, rfl⟩ wk_L_26 wi_X6_gate ws_X6_gate wn_X6 wc_X6_gate yd_X6_gate ⟨Nat.le_of_ble_eq_true rfl, Nat.le_of_ble_eq_true rfl⟩ hP hD p1 (ci := 6) rfl rfl rfl rfl rfl hl.1 rfl (lv_room (Nat.le_of_ble_eq_true rfl)) dL_law_193 ⟨Nat.le_of_ble_eq_true rfl, Nat.le_of_ble_eq_true rfl⟩) hP hD hS p1 (fun r_17 M_18 w H locs h hw hP hD hS => ?_)
          subst hw
          clear p1
          have p2 := gB (n := 16) (bs := [bGC G (pl_14 99) (dr_15 99) Z_13.1, bText E (G 1) (Z_13.2.1 1), bNow E (G 2) (G 3) e_16 (Z_13.2.1 2), bScene E (G 3) (Z_13.2.1 3), bPlan E pl_14 (Z_13.2.1 4), bPlan E dr_15 (Z_13.2.1 5), bRumour E (G 6) (Z_13.2.1 6), bIm E G (Z_13.2.1 7), bNow E (G 8) (G 10) e1 (Z_13.2.1 8), bNow E (G 9) (G 11) e2 (Z_13.2.1 9), bScene E (G 10) (Z_13.2.1 10), bScene E (G 11) (Z_13.2.1 11), bPool E e_16 (Z_13.2.2 0), bPool E e1 (Z_13.2.2 1), bPool E e2 (Z_13.2.2 2), bModel E a M_18]) (bc := [bModel E a M_18]) (br := [bGC G (pl_14 99) (dr_15 99) Z_13.1, bText E (G 1) (Z_13.2.1 1), bNow E (G 2) (G 3) e_16 (Z_13.2.1 2), bScene E (G 3) (Z_13.2.1 3), bPlan E pl_14 (Z_13.2.1 4), bPlan E dr_15 (Z_13.2.1 5), bRumour E (G 6) (Z_13.2.1 6), bIm E G (Z_13.2.1 7), bNow E (G 8) (G 10) e1 (Z_13.2.1 8), bNow E (G 9) (G 11) e2 (Z_13.2.1 9), bScene E (G 10) (Z_13.2.1 10), bScene E (G 11) (Z_13.2.1 11), bPool E e_16 (Z_13.2.2 0), bPool E e1 (Z_13.2.2 1), bPool E e2 (Z_13.2.2 2)]) [15, 0, 1, 2, 3, 4, 5, 6, 7, 8, 9, 10, 11, 12, 13, 14] rfl rfl (by decide)
          have hP := gP_perm p2.symm hP
          have hD := gD_perm p2.symm hD
          clear p2
          refine lv_icmp_eq (tgt := 821) hx hb dL_law_196 (by decide) (fun c_19 => ?_) (fun c_19 => ?_)
          · have h := h.1 c_19
            refine lv_iinc (v := (i + 4)) (lv' := [(3, .int (i + 4)), (0, .ref b), (1, .ref (G 0 99)), (2, .ref (a 99))]) hx hb dL_law_821 hl (k := 3) rfl rfl (by decide) rfl (fun ls hl => ?_)
            refine lv_goto (tgt := 18) hx hb dL_law_824 (by decide) ?_
            exact ih (i + 4) Z_13 M_18 pl_14 dr_15 e_16 _ _ _ h hP hD hS (lv_sub hl [1, 2, 3, 0] rfl)
          · have h := h.2 c_19
            refine lv_iconst (v := 0) hx hb dL_law_199 (by decide) ?_
            exact h.elim
        · have h := h.2.2.2.1 c
          refine lv_asi c ?_
          refine lv_tableIn (off := 169) (tgt := 201) hx hb dL_law_32 (by decide) (by decide) rfl (by decide) ?_
          refine lv_aload_n hx hb dL_law_201 rfl (lv_at hl 1 rfl) ?_
          refine lv_aload_n hx hb dL_law_202 rfl (lv_at hl 0 rfl) ?_
          refine lv_iload_n hx hb dL_law_203 rfl (lv_at hl 3 rfl) ?_
          refine lv_iconst (v := 1) hx hb dL_law_204 (by decide) ?_
          refine lv_iadd hx hb dL_law_205 ?_
          refine va_sld hx hb hX hbl hbA hS h.1 dL_law_206 ?_
          have h := h.2
          refine lv_aload_n hx hb dL_law_207 rfl (lv_at hl 0 rfl) ?_
          refine lv_iload_n hx hb dL_law_208 rfl (lv_at hl 3 rfl) ?_
          refine lv_iconst (v := 2) hx hb dL_law_209 (by decide) ?_
          refine lv_iadd hx hb dL_law_210 ?_
          refine va_sld hx hb hX hbl hbA hS h.1 dL_law_211 ?_
          have h := h.2
          have p1 := gB (n := 16) (bs := [bGC G (pl 99) (dr 99) Z.1, bText E (G 1) (Z.2.1 1), bNow E (G 2) (G 3) e0 (Z.2.1 2), bScene E (G 3) (Z.2.1 3), bPlan E pl (Z.2.1 4), bPlan E dr (Z.2.1 5), bRumour E (G 6) (Z.2.1 6), bIm E G (Z.2.1 7), bNow E (G 8) (G 10) e1 (Z.2.1 8), bNow E (G 9) (G 11) e2 (Z.2.1 9), bScene E (G 10) (Z.2.1 10), bScene E (G 11) (Z.2.1 11), bPool E e0 (Z.2.2 0), bPool E e1 (Z.2.2 1), bPool E e2 (Z.2.2 2), bModel E a M]) (bc := [bGC G (pl 99) (dr 99) Z.1, bText E (G 1) (Z.2.1 1), bNow E (G 2) (G 3) e0 (Z.2.1 2), bScene E (G 3) (Z.2.1 3), bPlan E pl (Z.2.1 4), bPlan E dr (Z.2.1 5), bRumour E (G 6) (Z.2.1 6), bIm E G (Z.2.1 7), bNow E (G 8) (G 10) e1 (Z.2.1 8), bNow E (G 9) (G 11) e2 (Z.2.1 9), bScene E (G 10) (Z.2.1 10), bScene E (G 11) (Z.2.1 11), bPool E e0 (Z.2.2 0), bPool E e1 (Z.2.2 1), bPool E e2 (Z.2.2 2)]) (br := [bModel E a M]) [0, 1, 2, 3, 4, 5, 6, 7, 8, 9, 10, 11, 12, 13, 14, 15] rfl rfl (by decide)
          refine g_i (g_runV (As := [.int (xs (i + 1).toNatClampNeg), .int (xs (i + 2).toNatClampNeg)]) (rest := []) ⟨hx, hb, hml, hown, ht⟩ hE (c_X5_lock E l G pl dr e0 e1 e2 Z (xs (i + 1).toNatClampNeg) (xs (i + 2).toNatClampNeg) _ h) ⟨rfl, rfl⟩ wk_L_27 wi_X5_lock ws_X5_lock wn_X5 wc_X5_lock yd_X5_lock ⟨Nat.le_of_ble_eq_true rfl, Nat.le_of_ble_eq_true rfl⟩ hP hD p1 (ci := 5) rfl rfl rfl rfl rfl hl.1 rfl (lv_room (Nat.le_of_ble_eq_true rfl)) dL_law_212 ⟨Nat.le_of_ble_eq_true rfl, Nat.le_of_ble_eq_true rfl⟩) hP hD hS p1 (fun r_20 _ w H locs h hw hP hD hS => ?_)
          subst hw
          clear p1
          have p2 := gB (n := 16) (bs := [bGC G (pl 99) (dr 99) Z.1, bText E (G 1) (Z.2.1 1), bNow E (G 2) (G 3) e0 (Z.2.1 2), bScene E (G 3) (Z.2.1 3), bPlan E pl (Z.2.1 4), bPlan E dr (Z.2.1 5), bRumour E (G 6) (Z.2.1 6), bIm E G (Z.2.1 7), bNow E (G 8) (G 10) e1 (Z.2.1 8), bNow E (G 9) (G 11) e2 (Z.2.1 9), bScene E (G 10) (Z.2.1 10), bScene E (G 11) (Z.2.1 11), bPool E e0 (Z.2.2 0), bPool E e1 (Z.2.2 1), bPool E e2 (Z.2.2 2), bModel E a M]) (bc := [bGC G (pl 99) (dr 99) Z.1, bText E (G 1) (Z.2.1 1), bNow E (G 2) (G 3) e0 (Z.2.1 2), bScene E (G 3) (Z.2.1 3), bPlan E pl (Z.2.1 4), bPlan E dr (Z.2.1 5), bRumour E (G 6) (Z.2.1 6), bIm E G (Z.2.1 7), bNow E (G 8) (G 10) e1 (Z.2.1 8), bNow E (G 9) (G 11) e2 (Z.2.1 9), bScene E (G 10) (Z.2.1 10), bScene E (G 11) (Z.2.1 11), bPool E e0 (Z.2.2 0), bPool E e1 (Z.2.2 1), bPool E e2 (Z.2.2 2)]) (br := [bModel E a M]) [0, 1, 2, 3, 4, 5, 6, 7, 8, 9, 10, 11, 12, 13, 14, 15] rfl rfl (by decide)
          have hP := gP_perm p2.symm hP
          have hD := gD_perm p2.symm hD
          clear p2
          refine lv_aload_n hx hb dL_law_215 rfl (lv_at hl 2 rfl) ?_
          refine lv_aload_n hx hb dL_law_216 rfl (lv_at hl 0 rfl) ?_
          refine lv_iload_n hx hb dL_law_217 rfl (lv_at hl 3 rfl) ?_
          refine lv_iconst (v := 1) hx hb dL_law_218 (by decide) ?_
          refine lv_iadd hx hb dL_law_219 ?_
          refine va_sld hx hb hX hbl hbA hS h.1 dL_law_220 ?_
          have h := h.2
          refine lv_aload_n hx hb dL_law_221 rfl (lv_at hl 0 rfl) ?_
          refine lv_iload_n hx hb dL_law_222 rfl (lv_at hl 3 rfl) ?_
          refine lv_iconst (v := 2) hx hb dL_law_223 (by decide) ?_
          refine lv_iadd hx hb dL_law_224 ?_
          refine va_sld hx hb hX hbl hbA hS h.1 dL_law_225 ?_
          have h := h.2
          have p1 := gB (n := 16) (bs := [bGC G (pl 99) (dr 99) Z.1, bText E (G 1) (Z.2.1 1), bNow E (G 2) (G 3) e0 (Z.2.1 2), bScene E (G 3) (Z.2.1 3), bPlan E pl (Z.2.1 4), bPlan E dr (Z.2.1 5), bRumour E (G 6) (Z.2.1 6), bIm E G (Z.2.1 7), bNow E (G 8) (G 10) e1 (Z.2.1 8), bNow E (G 9) (G 11) e2 (Z.2.1 9), bScene E (G 10) (Z.2.1 10), bScene E (G 11) (Z.2.1 11), bPool E e0 (Z.2.2 0), bPool E e1 (Z.2.2 1), bPool E e2 (Z.2.2 2), bModel E a M]) (bc := [bModel E a M]) (br := [bGC G (pl 99) (dr 99) Z.1, bText E (G 1) (Z.2.1 1), bNow E (G 2) (G 3) e0 (Z.2.1 2), bScene E (G 3) (Z.2.1 3), bPlan E pl (Z.2.1 4), bPlan E dr (Z.2.1 5), bRumour E (G 6) (Z.2.1 6), bIm E G (Z.2.1 7), bNow E (G 8) (G 10) e1 (Z.2.1 8), bNow E (G 9) (G 11) e2 (Z.2.1 9), bScene E (G 10) (Z.2.1 10), bScene E (G 11) (Z.2.1 11), bPool E e0 (Z.2.2 0), bPool E e1 (Z.2.2 1), bPool E e2 (Z.2.2 2)]) [15, 0, 1, 2, 3, 4, 5, 6, 7, 8, 9, 10, 11, 12, 13, 14] rfl rfl (by decide)
          refine g_i (g_runV (As := [.int (xs (i + 1).toNatClampNeg), .int (xs (i + 2).toNatClampNeg)]) (rest := [.int r_20]) ⟨hx, hb, hml, hown, ht⟩ hE (c_X6_lock E l a M (xs (i + 1).toNatClampNeg) (xs (i + 2).toNatClampNeg) _ h) ⟨rfl, rfl⟩ wk_L_31 wi_X6_lock ws_X6_lock wn_X6 wc_X6_lock yd_X6_lock ⟨Nat.le_of_ble_eq_true rfl, Nat.le_of_ble_eq_true rfl⟩ hP hD p1 (ci := 6) rfl rfl rfl rfl rfl hl.1 rfl (lv_room (Nat.le_of_ble_eq_true rfl)) dL_law_226 ⟨Nat.le_of_ble_eq_true rfl, Nat.le_of_ble_eq_true rfl⟩) hP hD hS p1 (fun r_21 _ w H locs h hw hP hD hS => ?_)
          subst hw
          clear p1
          have p2 := gB (n := 16) (bs := [bGC G (pl 99) (dr 99) Z.1, bText E (G 1) (Z.2.1 1), bNow E (G 2) (G 3) e0 (Z.2.1 2), bScene E (G 3) (Z.2.1 3), bPlan E pl (Z.2.1 4), bPlan E dr (Z.2.1 5), bRumour E (G 6) (Z.2.1 6), bIm E G (Z.2.1 7), bNow E (G 8) (G 10) e1 (Z.2.1 8), bNow E (G 9) (G 11) e2 (Z.2.1 9), bScene E (G 10) (Z.2.1 10), bScene E (G 11) (Z.2.1 11), bPool E e0 (Z.2.2 0), bPool E e1 (Z.2.2 1), bPool E e2 (Z.2.2 2), bModel E a M]) (bc := [bModel E a M]) (br := [bGC G (pl 99) (dr 99) Z.1, bText E (G 1) (Z.2.1 1), bNow E (G 2) (G 3) e0 (Z.2.1 2), bScene E (G 3) (Z.2.1 3), bPlan E pl (Z.2.1 4), bPlan E dr (Z.2.1 5), bRumour E (G 6) (Z.2.1 6), bIm E G (Z.2.1 7), bNow E (G 8) (G 10) e1 (Z.2.1 8), bNow E (G 9) (G 11) e2 (Z.2.1 9), bScene E (G 10) (Z.2.1 10), bScene E (G 11) (Z.2.1 11), bPool E e0 (Z.2.2 0), bPool E e1 (Z.2.2 1), bPool E e2 (Z.2.2 2)]) [15, 0, 1, 2, 3, 4, 5, 6, 7, 8, 9, 10, 11, 12, 13, 14] rfl rfl (by decide)
          have hP := gP_perm p2.symm hP
          have hD := gD_perm p2.symm hD
          clear p2
          refine lv_icmp_eq (tgt := 821) hx hb dL_law_229 (by decide) (fun c_22 => ?_) (fun c_22 => ?_)
          · have h := h.1 c_22
            refine lv_iinc (v := (i + 4)) (lv' := [(3, .int (i + 4)), (0, .ref b), (1, .ref (G 0 99)), (2, .ref (a 99))]) hx hb dL_law_821 hl (k := 3) rfl rfl (by decide) rfl (fun ls hl => ?_)
            refine lv_goto (tgt := 18) hx hb dL_law_824 (by decide) ?_
            exact ih (i + 4) Z M pl dr e0 _ _ _ h hP hD hS (lv_sub hl [1, 2, 3, 0] rfl)
          · have h := h.2 c_22
            refine lv_iconst (v := 0) hx hb dL_law_232 (by decide) ?_
            exact h.elim
        · have h := h.2.2.2.2.1 c
          refine lv_asi c ?_
          refine lv_tableIn (off := 202) (tgt := 234) hx hb dL_law_32 (by decide) (by decide) rfl (by decide) ?_
          refine lv_aload_n hx hb dL_law_234 rfl (lv_at hl 1 rfl) ?_
          refine lv_aload_n hx hb dL_law_235 rfl (lv_at hl 0 rfl) ?_
          refine lv_iload_n hx hb dL_law_236 rfl (lv_at hl 3 rfl) ?_
          refine lv_iconst (v := 1) hx hb dL_law_237 (by decide) ?_
          refine lv_iadd hx hb dL_law_238 ?_
          refine va_sld hx hb hX hbl hbA hS h.1 dL_law_239 ?_
          have h := h.2
          refine lv_aload_n hx hb dL_law_240 rfl (lv_at hl 0 rfl) ?_
          refine lv_iload_n hx hb dL_law_241 rfl (lv_at hl 3 rfl) ?_
          refine lv_iconst (v := 2) hx hb dL_law_242 (by decide) ?_
          refine lv_iadd hx hb dL_law_243 ?_
          refine va_sld hx hb hX hbl hbA hS h.1 dL_law_244 ?_
          have h := h.2
          have p1 := gB (n := 16) (bs := [bGC G (pl 99) (dr 99) Z.1, bText E (G 1) (Z.2.1 1), bNow E (G 2) (G 3) e0 (Z.2.1 2), bScene E (G 3) (Z.2.1 3), bPlan E pl (Z.2.1 4), bPlan E dr (Z.2.1 5), bRumour E (G 6) (Z.2.1 6), bIm E G (Z.2.1 7), bNow E (G 8) (G 10) e1 (Z.2.1 8), bNow E (G 9) (G 11) e2 (Z.2.1 9), bScene E (G 10) (Z.2.1 10), bScene E (G 11) (Z.2.1 11), bPool E e0 (Z.2.2 0), bPool E e1 (Z.2.2 1), bPool E e2 (Z.2.2 2), bModel E a M]) (bc := [bGC G (pl 99) (dr 99) Z.1, bText E (G 1) (Z.2.1 1), bNow E (G 2) (G 3) e0 (Z.2.1 2), bScene E (G 3) (Z.2.1 3), bPlan E pl (Z.2.1 4), bPlan E dr (Z.2.1 5), bRumour E (G 6) (Z.2.1 6), bIm E G (Z.2.1 7), bNow E (G 8) (G 10) e1 (Z.2.1 8), bNow E (G 9) (G 11) e2 (Z.2.1 9), bScene E (G 10) (Z.2.1 10), bScene E (G 11) (Z.2.1 11), bPool E e0 (Z.2.2 0), bPool E e1 (Z.2.2 1), bPool E e2 (Z.2.2 2)]) (br := [bModel E a M]) [0, 1, 2, 3, 4, 5, 6, 7, 8, 9, 10, 11, 12, 13, 14, 15] rfl rfl (by decide)
          refine g_i (g_runV (As := [.int (xs (i + 1).toNatClampNeg), .int (xs (i + 2).toNatClampNeg)]) (rest := []) ⟨hx, hb, hml, hown, ht⟩ hE (c_X5_person E l G pl dr e0 e1 e2 Z (xs (i + 1).toNatClampNeg) (xs (i + 2).toNatClampNeg) _ h) ⟨rfl, rfl⟩ wk_L_32 wi_X5_person ws_X5_person wn_X5 wc_X5_person yd_X5_person ⟨Nat.le_of_ble_eq_true rfl, Nat.le_of_ble_eq_true rfl⟩ hP hD p1 (ci := 5) rfl rfl rfl rfl rfl hl.1 rfl (lv_room (Nat.le_of_ble_eq_true rfl)) dL_law_245 ⟨Nat.le_of_ble_eq_true rfl, Nat.le_of_ble_eq_true rfl⟩) hP hD hS p1 (fun r_23 _ w H locs h hw hP hD hS => ?_)
          subst hw
          clear p1
          have p2 := gB (n := 16) (bs := [bGC G (pl 99) (dr 99) Z.1, bText E (G 1) (Z.2.1 1), bNow E (G 2) (G 3) e0 (Z.2.1 2), bScene E (G 3) (Z.2.1 3), bPlan E pl (Z.2.1 4), bPlan E dr (Z.2.1 5), bRumour E (G 6) (Z.2.1 6), bIm E G (Z.2.1 7), bNow E (G 8) (G 10) e1 (Z.2.1 8), bNow E (G 9) (G 11) e2 (Z.2.1 9), bScene E (G 10) (Z.2.1 10), bScene E (G 11) (Z.2.1 11), bPool E e0 (Z.2.2 0), bPool E e1 (Z.2.2 1), bPool E e2 (Z.2.2 2), bModel E a M]) (bc := [bGC G (pl 99) (dr 99) Z.1, bText E (G 1) (Z.2.1 1), bNow E (G 2) (G 3) e0 (Z.2.1 2), bScene E (G 3) (Z.2.1 3), bPlan E pl (Z.2.1 4), bPlan E dr (Z.2.1 5), bRumour E (G 6) (Z.2.1 6), bIm E G (Z.2.1 7), bNow E (G 8) (G 10) e1 (Z.2.1 8), bNow E (G 9) (G 11) e2 (Z.2.1 9), bScene E (G 10) (Z.2.1 10), bScene E (G 11) (Z.2.1 11), bPool E e0 (Z.2.2 0), bPool E e1 (Z.2.2 1), bPool E e2 (Z.2.2 2)]) (br := [bModel E a M]) [0, 1, 2, 3, 4, 5, 6, 7, 8, 9, 10, 11, 12, 13, 14, 15] rfl rfl (by decide)
          have hP := gP_perm p2.symm hP
          have hD := gD_perm p2.symm hD
          clear p2
          refine lv_aload_n hx hb dL_law_248 rfl (lv_at hl 2 rfl) ?_
          refine lv_aload_n hx hb dL_law_249 rfl (lv_at hl 0 rfl) ?_
          refine lv_iload_n hx hb dL_law_250 rfl (lv_at hl 3 rfl) ?_
          refine lv_iconst (v := 1) hx hb dL_law_251 (by decide) ?_
          refine lv_iadd hx hb dL_law_252 ?_
          refine va_sld hx hb hX hbl hbA hS h.1 dL_law_253 ?_
          have h := h.2
          refine lv_aload_n hx hb dL_law_254 rfl (lv_at hl 0 rfl) ?_
          refine lv_iload_n hx hb dL_law_255 rfl (lv_at hl 3 rfl) ?_
          refine lv_iconst (v := 2) hx hb dL_law_256 (by decide) ?_
          refine lv_iadd hx hb dL_law_257 ?_
          refine va_sld hx hb hX hbl hbA hS h.1 dL_law_258 ?_
          have h := h.2
          have p1 := gB (n := 16) (bs := [bGC G (pl 99) (dr 99) Z.1, bText E (G 1) (Z.2.1 1), bNow E (G 2) (G 3) e0 (Z.2.1 2), bScene E (G 3) (Z.2.1 3), bPlan E pl (Z.2.1 4), bPlan E dr (Z.2.1 5), bRumour E (G 6) (Z.2.1 6), bIm E G (Z.2.1 7), bNow E (G 8) (G 10) e1 (Z.2.1 8), bNow E (G 9) (G 11) e2 (Z.2.1 9), bScene E (G 10) (Z.2.1 10), bScene E (G 11) (Z.2.1 11), bPool E e0 (Z.2.2 0), bPool E e1 (Z.2.2 1), bPool E e2 (Z.2.2 2), bModel E a M]) (bc := [bModel E a M]) (br := [bGC G (pl 99) (dr 99) Z.1, bText E (G 1) (Z.2.1 1), bNow E (G 2) (G 3) e0 (Z.2.1 2), bScene E (G 3) (Z.2.1 3), bPlan E pl (Z.2.1 4), bPlan E dr (Z.2.1 5), bRumour E (G 6) (Z.2.1 6), bIm E G (Z.2.1 7), bNow E (G 8) (G 10) e1 (Z.2.1 8), bNow E (G 9) (G 11) e2 (Z.2.1 9), bScene E (G 10) (Z.2.1 10), bScene E (G 11) (Z.2.1 11), bPool E e0 (Z.2.2 0), bPool E e1 (Z.2.2 1), bPool E e2 (Z.2.2 2)]) [15, 0, 1, 2, 3, 4, 5, 6, 7, 8, 9, 10, 11, 12, 13, 14] rfl rfl (by decide)
          refine g_i (g_runV (As := [.int (xs (i + 1).toNatClampNeg), .int (xs (i + 2).toNatClampNeg)]) (rest := [.int r_23]) ⟨hx, hb, hml, hown, ht⟩ hE (c_X6_person E l a M (xs (i + 1).toNatClampNeg) (xs (i + 2).toNatClampNeg) _ h) ⟨rfl, rfl⟩ wk_L_35 wi_X6_person ws_X6_person wn_X6 wc_X6_person yd_X6_person ⟨Nat.le_of_ble_eq_true rfl, Nat.le_of_ble_eq_true rfl⟩ hP hD p1 (ci := 6) rfl rfl rfl rfl rfl hl.1 rfl (lv_room (Nat.le_of_ble_eq_true rfl)) dL_law_259 ⟨Nat.le_of_ble_eq_true rfl, Nat.le_of_ble_eq_true rfl⟩) hP hD hS p1 (fun r_24 _ w H locs h hw hP hD hS => ?_)
          subst hw
          clear p1
          have p2 := gB (n := 16) (bs := [bGC G (pl 99) (dr 99) Z.1, bText E (G 1) (Z.2.1 1), bNow E (G 2) (G 3) e0 (Z.2.1 2), bScene E (G 3) (Z.2.1 3), bPlan E pl (Z.2.1 4), bPlan E dr (Z.2.1 5), bRumour E (G 6) (Z.2.1 6), bIm E G (Z.2.1 7), bNow E (G 8) (G 10) e1 (Z.2.1 8), bNow E (G 9) (G 11) e2 (Z.2.1 9), bScene E (G 10) (Z.2.1 10), bScene E (G 11) (Z.2.1 11), bPool E e0 (Z.2.2 0), bPool E e1 (Z.2.2 1), bPool E e2 (Z.2.2 2), bModel E a M]) (bc := [bModel E a M]) (br := [bGC G (pl 99) (dr 99) Z.1, bText E (G 1) (Z.2.1 1), bNow E (G 2) (G 3) e0 (Z.2.1 2), bScene E (G 3) (Z.2.1 3), bPlan E pl (Z.2.1 4), bPlan E dr (Z.2.1 5), bRumour E (G 6) (Z.2.1 6), bIm E G (Z.2.1 7), bNow E (G 8) (G 10) e1 (Z.2.1 8), bNow E (G 9) (G 11) e2 (Z.2.1 9), bScene E (G 10) (Z.2.1 10), bScene E (G 11) (Z.2.1 11), bPool E e0 (Z.2.2 0), bPool E e1 (Z.2.2 1), bPool E e2 (Z.2.2 2)]) [15, 0, 1, 2, 3, 4, 5, 6, 7, 8, 9, 10, 11, 12, 13, 14] rfl rfl (by decide)
          have hP := gP_perm p2.symm hP
          have hD := gD_perm p2.symm hD
          clear p2
          refine lv_icmp_eq (tgt := 821) hx hb dL_law_262 (by decide) (fun c_25 => ?_) (fun c_25 => ?_)
          · have h := h.1 c_25
            refine lv_iinc (v := (i + 4)) (lv' := [(3, .int (i + 4)), (0, .ref b), (1, .ref (G 0 99)), (2, .ref (a 99))]) hx hb dL_law_821 hl (k := 3) rfl rfl (by decide) rfl (fun ls hl => ?_)
            refine lv_goto (tgt := 18) hx hb dL_law_824 (by decide) ?_
            exact ih (i + 4) Z M pl dr e0 _ _ _ h hP hD hS (lv_sub hl [1, 2, 3, 0] rfl)
          · have h := h.2 c_25
            refine lv_iconst (v := 0) hx hb dL_law_265 (by decide) ?_
            exact h.elim
        · have h := h.2.2.2.2.2.1 c
          refine lv_asi c ?_
          refine lv_tableIn (off := 235) (tgt := 267) hx hb dL_law_32 (by decide) (by decide) rfl (by decide) ?_
          refine lv_aload_n hx hb dL_law_267 rfl (lv_at hl 1 rfl) ?_
          refine lv_aload_n hx hb dL_law_268 rfl (lv_at hl 0 rfl) ?_
          refine lv_iload_n hx hb dL_law_269 rfl (lv_at hl 3 rfl) ?_
          refine lv_iconst (v := 1) hx hb dL_law_270 (by decide) ?_
          refine lv_iadd hx hb dL_law_271 ?_
          refine va_sld hx hb hX hbl hbA hS h.1 dL_law_272 ?_
          have h := h.2
          refine lv_aload_n hx hb dL_law_273 rfl (lv_at hl 0 rfl) ?_
          refine lv_iload_n hx hb dL_law_274 rfl (lv_at hl 3 rfl) ?_
          refine lv_iconst (v := 2) hx hb dL_law_275 (by decide) ?_
          refine lv_iadd hx hb dL_law_276 ?_
          refine va_sld hx hb hX hbl hbA hS h.1 dL_law_277 ?_
          have h := h.2
          have p1 := gB (n := 16) (bs := [bGC G (pl 99) (dr 99) Z.1, bText E (G 1) (Z.2.1 1), bNow E (G 2) (G 3) e0 (Z.2.1 2), bScene E (G 3) (Z.2.1 3), bPlan E pl (Z.2.1 4), bPlan E dr (Z.2.1 5), bRumour E (G 6) (Z.2.1 6), bIm E G (Z.2.1 7), bNow E (G 8) (G 10) e1 (Z.2.1 8), bNow E (G 9) (G 11) e2 (Z.2.1 9), bScene E (G 10) (Z.2.1 10), bScene E (G 11) (Z.2.1 11), bPool E e0 (Z.2.2 0), bPool E e1 (Z.2.2 1), bPool E e2 (Z.2.2 2), bModel E a M]) (bc := [bGC G (pl 99) (dr 99) Z.1, bText E (G 1) (Z.2.1 1), bNow E (G 2) (G 3) e0 (Z.2.1 2), bScene E (G 3) (Z.2.1 3), bPlan E pl (Z.2.1 4), bPlan E dr (Z.2.1 5), bRumour E (G 6) (Z.2.1 6), bIm E G (Z.2.1 7), bNow E (G 8) (G 10) e1 (Z.2.1 8), bNow E (G 9) (G 11) e2 (Z.2.1 9), bScene E (G 10) (Z.2.1 10), bScene E (G 11) (Z.2.1 11), bPool E e0 (Z.2.2 0), bPool E e1 (Z.2.2 1), bPool E e2 (Z.2.2 2)]) (br := [bModel E a M]) [0, 1, 2, 3, 4, 5, 6, 7, 8, 9, 10, 11, 12, 13, 14, 15] rfl rfl (by decide)
          refine g_i (g_runV (As := [.int (xs (i + 1).toNatClampNeg), .int (xs (i + 2).toNatClampNeg)]) (rest := []) ⟨hx, hb, hml, hown, ht⟩ hE (c_X5_opens E l G pl dr e0 e1 e2 Z (xs (i + 1).toNatClampNeg) (xs (i + 2).toNatClampNeg) _ h) ⟨rfl, rfl⟩ wk_L_36 wi_X5_opens ws_X5_opens wn_X5 wc_X5_opens yd_X5_opens ⟨Nat.le_of_ble_eq_true rfl, Nat.le_of_ble_eq_true rfl⟩ hP hD p1 (ci := 5) rfl rfl rfl rfl rfl hl.1 rfl (lv_room (Nat.le_of_ble_eq_true rfl)) dL_law_278 ⟨Nat.le_of_ble_eq_true rfl, Nat.le_of_ble_eq_true rfl⟩) hP hD hS p1 (fun r_26 Z_27 w H locs h hw hP hD hS => ?_)
          obtain ⟨pl_28, dr_29, e_30, rfl⟩ := hw
          clear p1
          have p2 := gB (n := 16) (bs := [bGC G (pl_28 99) (dr_29 99) Z_27.1, bText E (G 1) (Z_27.2.1 1), bNow E (G 2) (G 3) e_30 (Z_27.2.1 2), bScene E (G 3) (Z_27.2.1 3), bPlan E pl_28 (Z_27.2.1 4), bPlan E dr_29 (Z_27.2.1 5), bRumour E (G 6) (Z_27.2.1 6), bIm E G (Z_27.2.1 7), bNow E (G 8) (G 10) e1 (Z_27.2.1 8), bNow E (G 9) (G 11) e2 (Z_27.2.1 9), bScene E (G 10) (Z_27.2.1 10), bScene E (G 11) (Z_27.2.1 11), bPool E e_30 (Z_27.2.2 0), bPool E e1 (Z_27.2.2 1), bPool E e2 (Z_27.2.2 2), bModel E a M]) (bc := [bGC G (pl_28 99) (dr_29 99) Z_27.1, bText E (G 1) (Z_27.2.1 1), bNow E (G 2) (G 3) e_30 (Z_27.2.1 2), bScene E (G 3) (Z_27.2.1 3), bPlan E pl_28 (Z_27.2.1 4), bPlan E dr_29 (Z_27.2.1 5), bRumour E (G 6) (Z_27.2.1 6), bIm E G (Z_27.2.1 7), bNow E (G 8) (G 10) e1 (Z_27.2.1 8), bNow E (G 9) (G 11) e2 (Z_27.2.1 9), bScene E (G 10) (Z_27.2.1 10), bScene E (G 11) (Z_27.2.1 11), bPool E e_30 (Z_27.2.2 0), bPool E e1 (Z_27.2.2 1), bPool E e2 (Z_27.2.2 2)]) (br := [bModel E a M]) [0, 1, 2, 3, 4, 5, 6, 7, 8, 9, 10, 11, 12, 13, 14, 15] rfl rfl (by decide)
          have hP := gP_perm p2.symm hP
          have hD := gD_perm p2.symm hD
          clear p2
          refine lv_aload_n hx hb dL_law_281 rfl (lv_at hl 2 rfl) ?_
          refine lv_aload_n hx hb dL_law_282 rfl (lv_at hl 0 rfl) ?_
          refine lv_iload_n hx hb dL_law_283 rfl (lv_at hl 3 rfl) ?_
          refine lv_iconst (v := 1) hx hb dL_law_284 (by decide) ?_
          refine lv_iadd hx hb dL_law_285 ?_
          refine va_sld hx hb hX hbl hbA hS h.1 dL_law_286 ?_
          have h := h.2
          refine lv_aload_n hx hb dL_law_287 rfl (lv_at hl 0 rfl) ?_
          refine lv_iload_n hx hb dL_law_288 rfl (lv_at hl 3 rfl) ?_
          refine lv_iconst (v := 2) hx hb dL_law_289 (by decide) ?_
          refine lv_iadd hx hb dL_law_290 ?_
          refine va_sld hx hb hX hbl hbA hS h.1 dL_law_291 ?_
          have h := h.2
          have p1 := gB (n := 16) (bs := [bGC G (pl_28 99) (dr_29 99) Z_27.1, bText E (G 1) (Z_27.2.1 1), bNow E (G 2) (G 3) e_30 (Z_27.2.1 2), bScene E (G 3) (Z_27.2.1 3), bPlan E pl_28 (Z_27.2.1 4), bPlan E dr_29 (Z_27.2.1 5), bRumour E (G 6) (Z_27.2.1 6), bIm E G (Z_27.2.1 7), bNow E (G 8) (G 10) e1 (Z_27.2.1 8), bNow E (G 9) (G 11) e2 (Z_27.2.1 9), bScene E (G 10) (Z_27.2.1 10), bScene E (G 11) (Z_27.2.1 11), bPool E e_30 (Z_27.2.2 0), bPool E e1 (Z_27.2.2 1), bPool E e2 (Z_27.2.2 2), bModel E a M]) (bc := [bModel E a M]) (br := [bGC G (pl_28 99) (dr_29 99) Z_27.1, bText E (G 1) (Z_27.2.1 1), bNow E (G 2) (G 3) e_30 (Z_27.2.1 2), bScene E (G 3) (Z_27.2.1 3), bPlan E pl_28 (Z_27.2.1 4), bPlan E dr_29 (Z_27.2.1 5), bRumour E (G 6) (Z_27.2.1 6), bIm E G (Z_27.2.1 7), bNow E (G 8) (G 10) e1 (Z_27.2.1 8), bNow E (G 9) (G 11) e2 (Z_27.2.1 9), bScene E (G 10) (Z_27.2.1 10), bScene E (G 11) (Z_27.2.1 11), bPool E e_30 (Z_27.2.2 0), bPool E e1 (Z_27.2.2 1), bPool E e2 (Z_27.2.2 2)]) [15, 0, 1, 2, 3, 4, 5, 6, 7, 8, 9, 10, 11, 12, 13, 14] rfl rfl (by decide)
          refine g_i (g_runV (As := [.int (xs (i + 1).toNatClampNeg), .int (xs (i + 2).toNatClampNeg)]) (rest := [.int r_26]) ⟨hx, hb, hml, hown, ht⟩ hE (c_X6_opens E l a M (xs (i + 1).toNatClampNeg) (xs (i + 2).toNatClampNeg) _ h) ⟨rfl, rfl⟩ wk_L_39 wi_X6_opens ws_X6_opens wn_X6 wc_X6_opens yd_X6_opens ⟨Nat.le_of_ble_eq_true rfl, Nat.le_of_ble_eq_true rfl⟩ hP hD p1 (ci := 6) rfl rfl rfl rfl rfl hl.1 rfl (lv_room (Nat.le_of_ble_eq_true rfl)) dL_law_292 ⟨Nat.le_of_ble_eq_true rfl, Nat.le_of_ble_eq_true rfl⟩) hP hD hS p1 (fun r_31 M_32 w H locs h hw hP hD hS => ?_)
          subst hw
          clear p1
          have p2 := gB (n := 16) (bs := [bGC G (pl_28 99) (dr_29 99) Z_27.1, bText E (G 1) (Z_27.2.1 1), bNow E (G 2) (G 3) e_30 (Z_27.2.1 2), bScene E (G 3) (Z_27.2.1 3), bPlan E pl_28 (Z_27.2.1 4), bPlan E dr_29 (Z_27.2.1 5), bRumour E (G 6) (Z_27.2.1 6), bIm E G (Z_27.2.1 7), bNow E (G 8) (G 10) e1 (Z_27.2.1 8), bNow E (G 9) (G 11) e2 (Z_27.2.1 9), bScene E (G 10) (Z_27.2.1 10), bScene E (G 11) (Z_27.2.1 11), bPool E e_30 (Z_27.2.2 0), bPool E e1 (Z_27.2.2 1), bPool E e2 (Z_27.2.2 2), bModel E a M_32]) (bc := [bModel E a M_32]) (br := [bGC G (pl_28 99) (dr_29 99) Z_27.1, bText E (G 1) (Z_27.2.1 1), bNow E (G 2) (G 3) e_30 (Z_27.2.1 2), bScene E (G 3) (Z_27.2.1 3), bPlan E pl_28 (Z_27.2.1 4), bPlan E dr_29 (Z_27.2.1 5), bRumour E (G 6) (Z_27.2.1 6), bIm E G (Z_27.2.1 7), bNow E (G 8) (G 10) e1 (Z_27.2.1 8), bNow E (G 9) (G 11) e2 (Z_27.2.1 9), bScene E (G 10) (Z_27.2.1 10), bScene E (G 11) (Z_27.2.1 11), bPool E e_30 (Z_27.2.2 0), bPool E e1 (Z_27.2.2 1), bPool E e2 (Z_27.2.2 2)]) [15, 0, 1, 2, 3, 4, 5, 6, 7, 8, 9, 10, 11, 12, 13, 14] rfl rfl (by decide)
          have hP := gP_perm p2.symm hP
          have hD := gD_perm p2.symm hD
          clear p2
          refine lv_icmp_eq (tgt := 821) hx hb dL_law_295 (by decide) (fun c_33 => ?_) (fun c_33 => ?_)
          · have h := h.1 c_33
            refine lv_iinc (v := (i + 4)) (lv' := [(3, .int (i + 4)), (0, .ref b), (1, .ref (G 0 99)), (2, .ref (a 99))]) hx hb dL_law_821 hl (k := 3) rfl rfl (by decide) rfl (fun ls hl => ?_)
            refine lv_goto (tgt := 18) hx hb dL_law_824 (by decide) ?_
            exact ih (i + 4) Z_27 M_32 pl_28 dr_29 e_30 _ _ _ h hP hD hS (lv_sub hl [1, 2, 3, 0] rfl)
          · have h := h.2 c_33
            refine lv_iconst (v := 0) hx hb dL_law_298 (by decide) ?_
            exact h.elim
        · have h := h.2.2.2.2.2.2.1 c
          refine lv_asi c ?_
          refine lv_tableIn (off := 268) (tgt := 300) hx hb dL_law_32 (by decide) (by decide) rfl (by decide) ?_
          refine lv_aload_n hx hb dL_law_300 rfl (lv_at hl 1 rfl) ?_
          refine lv_aload_n hx hb dL_law_301 rfl (lv_at hl 0 rfl) ?_
          refine lv_iload_n hx hb dL_law_302 rfl (lv_at hl 3 rfl) ?_
          refine lv_iconst (v := 1) hx hb dL_law_303 (by decide) ?_
          refine lv_iadd hx hb dL_law_304 ?_
          refine va_sld hx hb hX hbl hbA hS h.1 dL_law_305 ?_
          have h := h.2
          refine lv_aload_n hx hb dL_law_306 rfl (lv_at hl 0 rfl) ?_
          refine lv_iload_n hx hb dL_law_307 rfl (lv_at hl 3 rfl) ?_
          refine lv_iconst (v := 2) hx hb dL_law_308 (by decide) ?_
          refine lv_iadd hx hb dL_law_309 ?_
          refine va_sld hx hb hX hbl hbA hS h.1 dL_law_310 ?_
          have h := h.2
          have p1 := gB (n := 16) (bs := [bGC G (pl 99) (dr 99) Z.1, bText E (G 1) (Z.2.1 1), bNow E (G 2) (G 3) e0 (Z.2.1 2), bScene E (G 3) (Z.2.1 3), bPlan E pl (Z.2.1 4), bPlan E dr (Z.2.1 5), bRumour E (G 6) (Z.2.1 6), bIm E G (Z.2.1 7), bNow E (G 8) (G 10) e1 (Z.2.1 8), bNow E (G 9) (G 11) e2 (Z.2.1 9), bScene E (G 10) (Z.2.1 10), bScene E (G 11) (Z.2.1 11), bPool E e0 (Z.2.2 0), bPool E e1 (Z.2.2 1), bPool E e2 (Z.2.2 2), bModel E a M]) (bc := [bGC G (pl 99) (dr 99) Z.1, bText E (G 1) (Z.2.1 1), bNow E (G 2) (G 3) e0 (Z.2.1 2), bScene E (G 3) (Z.2.1 3), bPlan E pl (Z.2.1 4), bPlan E dr (Z.2.1 5), bRumour E (G 6) (Z.2.1 6), bIm E G (Z.2.1 7), bNow E (G 8) (G 10) e1 (Z.2.1 8), bNow E (G 9) (G 11) e2 (Z.2.1 9), bScene E (G 10) (Z.2.1 10), bScene E (G 11) (Z.2.1 11), bPool E e0 (Z.2.2 0), bPool E e1 (Z.2.2 1), bPool E e2 (Z.2.2 2)]) (br := [bModel E a M]) [0, 1, 2, 3, 4, 5, 6, 7, 8, 9, 10, 11, 12, 13, 14, 15] rfl rfl (by decide)
          refine g_i (g_runV (As := [.int (xs (i + 1).toNatClampNeg), .int (xs (i + 2).toNatClampNeg)]) (rest := []) ⟨hx, hb, hml, hown, ht⟩ hE (c_X5_shuts E l G pl dr e0 e1 e2 Z (xs (i + 1).toNatClampNeg) (xs (i + 2).toNatClampNeg) _ h) ⟨rfl, rfl⟩ wk_L_40 wi_X5_shuts ws_X5_shuts wn_X5 wc_X5_shuts yd_X5_shuts ⟨Nat.le_of_ble_eq_true rfl, Nat.le_of_ble_eq_true rfl⟩ hP hD p1 (ci := 5) rfl rfl rfl rfl rfl hl.1 rfl (lv_room (Nat.le_of_ble_eq_true rfl)) dL_law_311 ⟨Nat.le_of_ble_eq_true rfl, Nat.le_of_ble_eq_true rfl⟩) hP hD hS p1 (fun r_34 Z_35 w H locs h hw hP hD hS => ?_)
          obtain ⟨pl_36, dr_37, e_38, rfl⟩ := hw
          clear p1
          have p2 := gB (n := 16) (bs := [bGC G (pl_36 99) (dr_37 99) Z_35.1, bText E (G 1) (Z_35.2.1 1), bNow E (G 2) (G 3) e_38 (Z_35.2.1 2), bScene E (G 3) (Z_35.2.1 3), bPlan E pl_36 (Z_35.2.1 4), bPlan E dr_37 (Z_35.2.1 5), bRumour E (G 6) (Z_35.2.1 6), bIm E G (Z_35.2.1 7), bNow E (G 8) (G 10) e1 (Z_35.2.1 8), bNow E (G 9) (G 11) e2 (Z_35.2.1 9), bScene E (G 10) (Z_35.2.1 10), bScene E (G 11) (Z_35.2.1 11), bPool E e_38 (Z_35.2.2 0), bPool E e1 (Z_35.2.2 1), bPool E e2 (Z_35.2.2 2), bModel E a M]) (bc := [bGC G (pl_36 99) (dr_37 99) Z_35.1, bText E (G 1) (Z_35.2.1 1), bNow E (G 2) (G 3) e_38 (Z_35.2.1 2), bScene E (G 3) (Z_35.2.1 3), bPlan E pl_36 (Z_35.2.1 4), bPlan E dr_37 (Z_35.2.1 5), bRumour E (G 6) (Z_35.2.1 6), bIm E G (Z_35.2.1 7), bNow E (G 8) (G 10) e1 (Z_35.2.1 8), bNow E (G 9) (G 11) e2 (Z_35.2.1 9), bScene E (G 10) (Z_35.2.1 10), bScene E (G 11) (Z_35.2.1 11), bPool E e_38 (Z_35.2.2 0), bPool E e1 (Z_35.2.2 1), bPool E e2 (Z_35.2.2 2)]) (br := [bModel E a M]) [0, 1, 2, 3, 4, 5, 6, 7, 8, 9, 10, 11, 12, 13, 14, 15] rfl rfl (by decide)
          have hP := gP_perm p2.symm hP
          have hD := gD_perm p2.symm hD
          clear p2
          refine lv_aload_n hx hb dL_law_314 rfl (lv_at hl 2 rfl) ?_
          refine lv_aload_n hx hb dL_law_315 rfl (lv_at hl 0 rfl) ?_
          refine lv_iload_n hx hb dL_law_316 rfl (lv_at hl 3 rfl) ?_
          refine lv_iconst (v := 1) hx hb dL_law_317 (by decide) ?_
          refine lv_iadd hx hb dL_law_318 ?_
          refine va_sld hx hb hX hbl hbA hS h.1 dL_law_319 ?_
          have h := h.2
          refine lv_aload_n hx hb dL_law_320 rfl (lv_at hl 0 rfl) ?_
          refine lv_iload_n hx hb dL_law_321 rfl (lv_at hl 3 rfl) ?_
          refine lv_iconst (v := 2) hx hb dL_law_322 (by decide) ?_
          refine lv_iadd hx hb dL_law_323 ?_
          refine va_sld hx hb hX hbl hbA hS h.1 dL_law_324 ?_
          have h := h.2
          have p1 := gB (n := 16) (bs := [bGC G (pl_36 99) (dr_37 99) Z_35.1, bText E (G 1) (Z_35.2.1 1), bNow E (G 2) (G 3) e_38 (Z_35.2.1 2), bScene E (G 3) (Z_35.2.1 3), bPlan E pl_36 (Z_35.2.1 4), bPlan E dr_37 (Z_35.2.1 5), bRumour E (G 6) (Z_35.2.1 6), bIm E G (Z_35.2.1 7), bNow E (G 8) (G 10) e1 (Z_35.2.1 8), bNow E (G 9) (G 11) e2 (Z_35.2.1 9), bScene E (G 10) (Z_35.2.1 10), bScene E (G 11) (Z_35.2.1 11), bPool E e_38 (Z_35.2.2 0), bPool E e1 (Z_35.2.2 1), bPool E e2 (Z_35.2.2 2), bModel E a M]) (bc := [bModel E a M]) (br := [bGC G (pl_36 99) (dr_37 99) Z_35.1, bText E (G 1) (Z_35.2.1 1), bNow E (G 2) (G 3) e_38 (Z_35.2.1 2), bScene E (G 3) (Z_35.2.1 3), bPlan E pl_36 (Z_35.2.1 4), bPlan E dr_37 (Z_35.2.1 5), bRumour E (G 6) (Z_35.2.1 6), bIm E G (Z_35.2.1 7), bNow E (G 8) (G 10) e1 (Z_35.2.1 8), bNow E (G 9) (G 11) e2 (Z_35.2.1 9), bScene E (G 10) (Z_35.2.1 10), bScene E (G 11) (Z_35.2.1 11), bPool E e_38 (Z_35.2.2 0), bPool E e1 (Z_35.2.2 1), bPool E e2 (Z_35.2.2 2)]) [15, 0, 1, 2, 3, 4, 5, 6, 7, 8, 9, 10, 11, 12, 13, 14] rfl rfl (by decide)
          refine g_i (g_runV (As := [.int (xs (i + 1).toNatClampNeg), .int (xs (i + 2).toNatClampNeg)]) (rest := [.int r_34]) ⟨hx, hb, hml, hown, ht⟩ hE (c_X6_shuts E l a M (xs (i + 1).toNatClampNeg) (xs (i + 2).toNatClampNeg) _ h) ⟨rfl, rfl⟩ wk_L_43 wi_X6_shuts ws_X6_shuts wn_X6 wc_X6_shuts yd_X6_shuts ⟨Nat.le_of_ble_eq_true rfl, Nat.le_of_ble_eq_true rfl⟩ hP hD p1 (ci := 6) rfl rfl rfl rfl rfl hl.1 rfl (lv_room (Nat.le_of_ble_eq_true rfl)) dL_law_325 ⟨Nat.le_of_ble_eq_true rfl, Nat.le_of_ble_eq_true rfl⟩) hP hD hS p1 (fun r_39 M_40 w H locs h hw hP hD hS => ?_)
          subst hw
          clear p1
          have p2 := gB (n := 16) (bs := [bGC G (pl_36 99) (dr_37 99) Z_35.1, bText E (G 1) (Z_35.2.1 1), bNow E (G 2) (G 3) e_38 (Z_35.2.1 2), bScene E (G 3) (Z_35.2.1 3), bPlan E pl_36 (Z_35.2.1 4), bPlan E dr_37 (Z_35.2.1 5), bRumour E (G 6) (Z_35.2.1 6), bIm E G (Z_35.2.1 7), bNow E (G 8) (G 10) e1 (Z_35.2.1 8), bNow E (G 9) (G 11) e2 (Z_35.2.1 9), bScene E (G 10) (Z_35.2.1 10), bScene E (G 11) (Z_35.2.1 11), bPool E e_38 (Z_35.2.2 0), bPool E e1 (Z_35.2.2 1), bPool E e2 (Z_35.2.2 2), bModel E a M_40]) (bc := [bModel E a M_40]) (br := [bGC G (pl_36 99) (dr_37 99) Z_35.1, bText E (G 1) (Z_35.2.1 1), bNow E (G 2) (G 3) e_38 (Z_35.2.1 2), bScene E (G 3) (Z_35.2.1 3), bPlan E pl_36 (Z_35.2.1 4), bPlan E dr_37 (Z_35.2.1 5), bRumour E (G 6) (Z_35.2.1 6), bIm E G (Z_35.2.1 7), bNow E (G 8) (G 10) e1 (Z_35.2.1 8), bNow E (G 9) (G 11) e2 (Z_35.2.1 9), bScene E (G 10) (Z_35.2.1 10), bScene E (G 11) (Z_35.2.1 11), bPool E e_38 (Z_35.2.2 0), bPool E e1 (Z_35.2.2 1), bPool E e2 (Z_35.2.2 2)]) [15, 0, 1, 2, 3, 4, 5, 6, 7, 8, 9, 10, 11, 12, 13, 14] rfl rfl (by decide)
          have hP := gP_perm p2.symm hP
          have hD := gD_perm p2.symm hD
          clear p2
          refine lv_icmp_eq (tgt := 821) hx hb dL_law_328 (by decide) (fun c_41 => ?_) (fun c_41 => ?_)
          · have h := h.1 c_41
            refine lv_iinc (v := (i + 4)) (lv' := [(3, .int (i + 4)), (0, .ref b), (1, .ref (G 0 99)), (2, .ref (a 99))]) hx hb dL_law_821 hl (k := 3) rfl rfl (by decide) rfl (fun ls hl => ?_)
            refine lv_goto (tgt := 18) hx hb dL_law_824 (by decide) ?_
            exact ih (i + 4) Z_35 M_40 pl_36 dr_37 e_38 _ _ _ h hP hD hS (lv_sub hl [1, 2, 3, 0] rfl)
          · have h := h.2 c_41
            refine lv_iconst (v := 0) hx hb dL_law_331 (by decide) ?_
            exact h.elim
        · have h := h.2.2.2.2.2.2.2.1 c
          refine lv_asi c ?_
          refine lv_tableIn (off := 301) (tgt := 333) hx hb dL_law_32 (by decide) (by decide) rfl (by decide) ?_
          refine lv_aload_n hx hb dL_law_333 rfl (lv_at hl 1 rfl) ?_
          refine lv_aload_n hx hb dL_law_334 rfl (lv_at hl 0 rfl) ?_
          refine lv_iload_n hx hb dL_law_335 rfl (lv_at hl 3 rfl) ?_
          refine lv_iconst (v := 1) hx hb dL_law_336 (by decide) ?_
          refine lv_iadd hx hb dL_law_337 ?_
          refine va_sld hx hb hX hbl hbA hS h.1 dL_law_338 ?_
          have h := h.2
          refine lv_aload_n hx hb dL_law_339 rfl (lv_at hl 0 rfl) ?_
          refine lv_iload_n hx hb dL_law_340 rfl (lv_at hl 3 rfl) ?_
          refine lv_iconst (v := 2) hx hb dL_law_341 (by decide) ?_
          refine lv_iadd hx hb dL_law_342 ?_
          refine va_sld hx hb hX hbl hbA hS h.1 dL_law_343 ?_
          have h := h.2
          have p1 := gB (n := 16) (bs := [bGC G (pl 99) (dr 99) Z.1, bText E (G 1) (Z.2.1 1), bNow E (G 2) (G 3) e0 (Z.2.1 2), bScene E (G 3) (Z.2.1 3), bPlan E pl (Z.2.1 4), bPlan E dr (Z.2.1 5), bRumour E (G 6) (Z.2.1 6), bIm E G (Z.2.1 7), bNow E (G 8) (G 10) e1 (Z.2.1 8), bNow E (G 9) (G 11) e2 (Z.2.1 9), bScene E (G 10) (Z.2.1 10), bScene E (G 11) (Z.2.1 11), bPool E e0 (Z.2.2 0), bPool E e1 (Z.2.2 1), bPool E e2 (Z.2.2 2), bModel E a M]) (bc := [bGC G (pl 99) (dr 99) Z.1, bText E (G 1) (Z.2.1 1), bNow E (G 2) (G 3) e0 (Z.2.1 2), bScene E (G 3) (Z.2.1 3), bPlan E pl (Z.2.1 4), bPlan E dr (Z.2.1 5), bRumour E (G 6) (Z.2.1 6), bIm E G (Z.2.1 7), bNow E (G 8) (G 10) e1 (Z.2.1 8), bNow E (G 9) (G 11) e2 (Z.2.1 9), bScene E (G 10) (Z.2.1 10), bScene E (G 11) (Z.2.1 11), bPool E e0 (Z.2.2 0), bPool E e1 (Z.2.2 1), bPool E e2 (Z.2.2 2)]) (br := [bModel E a M]) [0, 1, 2, 3, 4, 5, 6, 7, 8, 9, 10, 11, 12, 13, 14, 15] rfl rfl (by decide)
          refine g_i (g_runV (As := [.int (xs (i + 1).toNatClampNeg), .int (xs (i + 2).toNatClampNeg)]) (rest := []) ⟨hx, hb, hml, hown, ht⟩ hE (c_X5_hangs E l G pl dr e0 e1 e2 Z (xs (i + 1).toNatClampNeg) (xs (i + 2).toNatClampNeg) _ h) ⟨rfl, rfl⟩ wk_L_44 wi_X5_hangs ws_X5_hangs wn_X5 wc_X5_hangs yd_X5_hangs ⟨Nat.le_of_ble_eq_true rfl, Nat.le_of_ble_eq_true rfl⟩ hP hD p1 (ci := 5) rfl rfl rfl rfl rfl hl.1 rfl (lv_room (Nat.le_of_ble_eq_true rfl)) dL_law_344 ⟨Nat.le_of_ble_eq_true rfl, Nat.le_of_ble_eq_true rfl⟩) hP hD hS p1 (fun r_42 Z_43 w H locs h hw hP hD hS => ?_)
          obtain ⟨pl_44, dr_45, e_46, rfl⟩ := hw
          clear p1
          have p2 := gB (n := 16) (bs := [bGC G (pl_44 99) (dr_45 99) Z_43.1, bText E (G 1) (Z_43.2.1 1), bNow E (G 2) (G 3) e_46 (Z_43.2.1 2), bScene E (G 3) (Z_43.2.1 3), bPlan E pl_44 (Z_43.2.1 4), bPlan E dr_45 (Z_43.2.1 5), bRumour E (G 6) (Z_43.2.1 6), bIm E G (Z_43.2.1 7), bNow E (G 8) (G 10) e1 (Z_43.2.1 8), bNow E (G 9) (G 11) e2 (Z_43.2.1 9), bScene E (G 10) (Z_43.2.1 10), bScene E (G 11) (Z_43.2.1 11), bPool E e_46 (Z_43.2.2 0), bPool E e1 (Z_43.2.2 1), bPool E e2 (Z_43.2.2 2), bModel E a M]) (bc := [bGC G (pl_44 99) (dr_45 99) Z_43.1, bText E (G 1) (Z_43.2.1 1), bNow E (G 2) (G 3) e_46 (Z_43.2.1 2), bScene E (G 3) (Z_43.2.1 3), bPlan E pl_44 (Z_43.2.1 4), bPlan E dr_45 (Z_43.2.1 5), bRumour E (G 6) (Z_43.2.1 6), bIm E G (Z_43.2.1 7), bNow E (G 8) (G 10) e1 (Z_43.2.1 8), bNow E (G 9) (G 11) e2 (Z_43.2.1 9), bScene E (G 10) (Z_43.2.1 10), bScene E (G 11) (Z_43.2.1 11), bPool E e_46 (Z_43.2.2 0), bPool E e1 (Z_43.2.2 1), bPool E e2 (Z_43.2.2 2)]) (br := [bModel E a M]) [0, 1, 2, 3, 4, 5, 6, 7, 8, 9, 10, 11, 12, 13, 14, 15] rfl rfl (by decide)
          have hP := gP_perm p2.symm hP
          have hD := gD_perm p2.symm hD
          clear p2
          refine lv_aload_n hx hb dL_law_347 rfl (lv_at hl 2 rfl) ?_
          refine lv_aload_n hx hb dL_law_348 rfl (lv_at hl 0 rfl) ?_
          refine lv_iload_n hx hb dL_law_349 rfl (lv_at hl 3 rfl) ?_
          refine lv_iconst (v := 1) hx hb dL_law_350 (by decide) ?_
          refine lv_iadd hx hb dL_law_351 ?_
          refine va_sld hx hb hX hbl hbA hS h.1 dL_law_352 ?_
          have h := h.2
          refine lv_aload_n hx hb dL_law_353 rfl (lv_at hl 0 rfl) ?_
          refine lv_iload_n hx hb dL_law_354 rfl (lv_at hl 3 rfl) ?_
          refine lv_iconst (v := 2) hx hb dL_law_355 (by decide) ?_
          refine lv_iadd hx hb dL_law_356 ?_
          refine va_sld hx hb hX hbl hbA hS h.1 dL_law_357 ?_
          have h := h.2
          have p1 := gB (n := 16) (bs := [bGC G (pl_44 99) (dr_45 99) Z_43.1, bText E (G 1) (Z_43.2.1 1), bNow E (G 2) (G 3) e_46 (Z_43.2.1 2), bScene E (G 3) (Z_43.2.1 3), bPlan E pl_44 (Z_43.2.1 4), bPlan E dr_45 (Z_43.2.1 5), bRumour E (G 6) (Z_43.2.1 6), bIm E G (Z_43.2.1 7), bNow E (G 8) (G 10) e1 (Z_43.2.1 8), bNow E (G 9) (G 11) e2 (Z_43.2.1 9), bScene E (G 10) (Z_43.2.1 10), bScene E (G 11) (Z_43.2.1 11), bPool E e_46 (Z_43.2.2 0), bPool E e1 (Z_43.2.2 1), bPool E e2 (Z_43.2.2 2), bModel E a M]) (bc := [bModel E a M]) (br := [bGC G (pl_44 99) (dr_45 99) Z_43.1, bText E (G 1) (Z_43.2.1 1), bNow E (G 2) (G 3) e_46 (Z_43.2.1 2), bScene E (G 3) (Z_43.2.1 3), bPlan E pl_44 (Z_43.2.1 4), bPlan E dr_45 (Z_43.2.1 5), bRumour E (G 6) (Z_43.2.1 6), bIm E G (Z_43.2.1 7), bNow E (G 8) (G 10) e1 (Z_43.2.1 8), bNow E (G 9) (G 11) e2 (Z_43.2.1 9), bScene E (G 10) (Z_43.2.1 10), bScene E (G 11) (Z_43.2.1 11), bPool E e_46 (Z_43.2.2 0), bPool E e1 (Z_43.2.2 1), bPool E e2 (Z_43.2.2 2)]) [15, 0, 1, 2, 3, 4, 5, 6, 7, 8, 9, 10, 11, 12, 13, 14] rfl rfl (by decide)
          refine g_i (g_runV (As := [.int (xs (i + 1).toNatClampNeg), .int (xs (i + 2).toNatClampNeg)]) (rest := [.int r_42]) ⟨hx, hb, hml, hown, ht⟩ hE (c_X6_hangs E l a M (xs (i + 1).toNatClampNeg) (xs (i + 2).toNatClampNeg) _ h) ⟨rfl, rfl⟩ wk_L_47 wi_X6_hangs ws_X6_hangs wn_X6 wc_X6_hangs yd_X6_hangs ⟨Nat.le_of_ble_eq_true rfl, Nat.le_of_ble_eq_true rfl⟩ hP hD p1 (ci := 6) rfl rfl rfl rfl rfl hl.1 rfl (lv_room (Nat.le_of_ble_eq_true rfl)) dL_law_358 ⟨Nat.le_of_ble_eq_true rfl, Nat.le_of_ble_eq_true rfl⟩) hP hD hS p1 (fun r_47 M_48 w H locs h hw hP hD hS => ?_)
          subst hw
          clear p1
          have p2 := gB (n := 16) (bs := [bGC G (pl_44 99) (dr_45 99) Z_43.1, bText E (G 1) (Z_43.2.1 1), bNow E (G 2) (G 3) e_46 (Z_43.2.1 2), bScene E (G 3) (Z_43.2.1 3), bPlan E pl_44 (Z_43.2.1 4), bPlan E dr_45 (Z_43.2.1 5), bRumour E (G 6) (Z_43.2.1 6), bIm E G (Z_43.2.1 7), bNow E (G 8) (G 10) e1 (Z_43.2.1 8), bNow E (G 9) (G 11) e2 (Z_43.2.1 9), bScene E (G 10) (Z_43.2.1 10), bScene E (G 11) (Z_43.2.1 11), bPool E e_46 (Z_43.2.2 0), bPool E e1 (Z_43.2.2 1), bPool E e2 (Z_43.2.2 2), bModel E a M_48]) (bc := [bModel E a M_48]) (br := [bGC G (pl_44 99) (dr_45 99) Z_43.1, bText E (G 1) (Z_43.2.1 1), bNow E (G 2) (G 3) e_46 (Z_43.2.1 2), bScene E (G 3) (Z_43.2.1 3), bPlan E pl_44 (Z_43.2.1 4), bPlan E dr_45 (Z_43.2.1 5), bRumour E (G 6) (Z_43.2.1 6), bIm E G (Z_43.2.1 7), bNow E (G 8) (G 10) e1 (Z_43.2.1 8), bNow E (G 9) (G 11) e2 (Z_43.2.1 9), bScene E (G 10) (Z_43.2.1 10), bScene E (G 11) (Z_43.2.1 11), bPool E e_46 (Z_43.2.2 0), bPool E e1 (Z_43.2.2 1), bPool E e2 (Z_43.2.2 2)]) [15, 0, 1, 2, 3, 4, 5, 6, 7, 8, 9, 10, 11, 12, 13, 14] rfl rfl (by decide)
          have hP := gP_perm p2.symm hP
          have hD := gD_perm p2.symm hD
          clear p2
          refine lv_icmp_eq (tgt := 821) hx hb dL_law_361 (by decide) (fun c_49 => ?_) (fun c_49 => ?_)
          · have h := h.1 c_49
            refine lv_iinc (v := (i + 4)) (lv' := [(3, .int (i + 4)), (0, .ref b), (1, .ref (G 0 99)), (2, .ref (a 99))]) hx hb dL_law_821 hl (k := 3) rfl rfl (by decide) rfl (fun ls hl => ?_)
            refine lv_goto (tgt := 18) hx hb dL_law_824 (by decide) ?_
            exact ih (i + 4) Z_43 M_48 pl_44 dr_45 e_46 _ _ _ h hP hD hS (lv_sub hl [1, 2, 3, 0] rfl)
          · have h := h.2 c_49
            refine lv_iconst (v := 0) hx hb dL_law_364 (by decide) ?_
            exact h.elim
        · have h := h.2.2.2.2.2.2.2.2.1 c
          refine lv_asi c ?_
          refine lv_tableIn (off := 334) (tgt := 366) hx hb dL_law_32 (by decide) (by decide) rfl (by decide) ?_
          refine lv_aload_n hx hb dL_law_366 rfl (lv_at hl 1 rfl) ?_
          refine lv_aload_n hx hb dL_law_367 rfl (lv_at hl 0 rfl) ?_
          refine lv_iload_n hx hb dL_law_368 rfl (lv_at hl 3 rfl) ?_
          refine lv_iconst (v := 1) hx hb dL_law_369 (by decide) ?_
          refine lv_iadd hx hb dL_law_370 ?_
          refine va_sld hx hb hX hbl hbA hS h.1 dL_law_371 ?_
          have h := h.2
          refine lv_aload_n hx hb dL_law_372 rfl (lv_at hl 0 rfl) ?_
          refine lv_iload_n hx hb dL_law_373 rfl (lv_at hl 3 rfl) ?_
          refine lv_iconst (v := 2) hx hb dL_law_374 (by decide) ?_
          refine lv_iadd hx hb dL_law_375 ?_
          refine va_sld hx hb hX hbl hbA hS h.1 dL_law_376 ?_
          have h := h.2
          refine lv_aload_n hx hb dL_law_377 rfl (lv_at hl 0 rfl) ?_
          refine lv_iload_n hx hb dL_law_378 rfl (lv_at hl 3 rfl) ?_
          refine lv_iconst (v := 3) hx hb dL_law_379 (by decide) ?_
          refine lv_iadd hx hb dL_law_380 ?_
          refine va_sld hx hb hX hbl hbA hS h.1 dL_law_381 ?_
          have h := h.2
          have p1 := gB (n := 16) (bs := [bGC G (pl 99) (dr 99) Z.1, bText E (G 1) (Z.2.1 1), bNow E (G 2) (G 3) e0 (Z.2.1 2), bScene E (G 3) (Z.2.1 3), bPlan E pl (Z.2.1 4), bPlan E dr (Z.2.1 5), bRumour E (G 6) (Z.2.1 6), bIm E G (Z.2.1 7), bNow E (G 8) (G 10) e1 (Z.2.1 8), bNow E (G 9) (G 11) e2 (Z.2.1 9), bScene E (G 10) (Z.2.1 10), bScene E (G 11) (Z.2.1 11), bPool E e0 (Z.2.2 0), bPool E e1 (Z.2.2 1), bPool E e2 (Z.2.2 2), bModel E a M]) (bc := [bGC G (pl 99) (dr 99) Z.1, bText E (G 1) (Z.2.1 1), bNow E (G 2) (G 3) e0 (Z.2.1 2), bScene E (G 3) (Z.2.1 3), bPlan E pl (Z.2.1 4), bPlan E dr (Z.2.1 5), bRumour E (G 6) (Z.2.1 6), bIm E G (Z.2.1 7), bNow E (G 8) (G 10) e1 (Z.2.1 8), bNow E (G 9) (G 11) e2 (Z.2.1 9), bScene E (G 10) (Z.2.1 10), bScene E (G 11) (Z.2.1 11), bPool E e0 (Z.2.2 0), bPool E e1 (Z.2.2 1), bPool E e2 (Z.2.2 2)]) (br := [bModel E a M]) [0, 1, 2, 3, 4, 5, 6, 7, 8, 9, 10, 11, 12, 13, 14, 15] rfl rfl (by decide)
          refine g_i (g_runV (As := [.int (xs (i + 1).toNatClampNeg), .int (xs (i + 2).toNatClampNeg), .int (xs (i + 3).toNatClampNeg)]) (rest := []) ⟨hx, hb, hml, hown, ht⟩ hE (c_X5_tells E l G pl dr e0 e1 e2 Z (xs (i + 1).toNatClampNeg) (xs (i + 2).toNatClampNeg) (xs (i + 3).toNatClampNeg) _ h) ⟨rfl, rfl⟩ wk_L_48 wi_X5_tells ws_X5_tells wn_X5 wc_X5_tells yd_X5_tells ⟨Nat.le_of_ble_eq_true rfl, Nat.le_of_ble_eq_true rfl⟩ hP hD p1 (ci := 5) rfl rfl rfl rfl rfl hl.1 rfl (lv_room (Nat.le_of_ble_eq_true rfl)) dL_law_382 ⟨Nat.le_of_ble_eq_true rfl, Nat.le_of_ble_eq_true rfl⟩) hP hD hS p1 (fun r_50 Z_51 w H locs h hw hP hD hS => ?_)
          obtain ⟨pl_52, dr_53, e_54, rfl⟩ := hw
          clear p1
          have p2 := gB (n := 16) (bs := [bGC G (pl_52 99) (dr_53 99) Z_51.1, bText E (G 1) (Z_51.2.1 1), bNow E (G 2) (G 3) e_54 (Z_51.2.1 2), bScene E (G 3) (Z_51.2.1 3), bPlan E pl_52 (Z_51.2.1 4), bPlan E dr_53 (Z_51.2.1 5), bRumour E (G 6) (Z_51.2.1 6), bIm E G (Z_51.2.1 7), bNow E (G 8) (G 10) e1 (Z_51.2.1 8), bNow E (G 9) (G 11) e2 (Z_51.2.1 9), bScene E (G 10) (Z_51.2.1 10), bScene E (G 11) (Z_51.2.1 11), bPool E e_54 (Z_51.2.2 0), bPool E e1 (Z_51.2.2 1), bPool E e2 (Z_51.2.2 2), bModel E a M]) (bc := [bGC G (pl_52 99) (dr_53 99) Z_51.1, bText E (G 1) (Z_51.2.1 1), bNow E (G 2) (G 3) e_54 (Z_51.2.1 2), bScene E (G 3) (Z_51.2.1 3), bPlan E pl_52 (Z_51.2.1 4), bPlan E dr_53 (Z_51.2.1 5), bRumour E (G 6) (Z_51.2.1 6), bIm E G (Z_51.2.1 7), bNow E (G 8) (G 10) e1 (Z_51.2.1 8), bNow E (G 9) (G 11) e2 (Z_51.2.1 9), bScene E (G 10) (Z_51.2.1 10), bScene E (G 11) (Z_51.2.1 11), bPool E e_54 (Z_51.2.2 0), bPool E e1 (Z_51.2.2 1), bPool E e2 (Z_51.2.2 2)]) (br := [bModel E a M]) [0, 1, 2, 3, 4, 5, 6, 7, 8, 9, 10, 11, 12, 13, 14, 15] rfl rfl (by decide)
          have hP := gP_perm p2.symm hP
          have hD := gD_perm p2.symm hD
          clear p2
          refine lv_aload_n hx hb dL_law_385 rfl (lv_at hl 2 rfl) ?_
          refine lv_aload_n hx hb dL_law_386 rfl (lv_at hl 0 rfl) ?_
          refine lv_iload_n hx hb dL_law_387 rfl (lv_at hl 3 rfl) ?_
          refine lv_iconst (v := 1) hx hb dL_law_388 (by decide) ?_
          refine lv_iadd hx hb dL_law_389 ?_
          refine va_sld hx hb hX hbl hbA hS h.1 dL_law_390 ?_
          have h := h.2
          refine lv_aload_n hx hb dL_law_391 rfl (lv_at hl 0 rfl) ?_
          refine lv_iload_n hx hb dL_law_392 rfl (lv_at hl 3 rfl) ?_
          refine lv_iconst (v := 2) hx hb dL_law_393 (by decide) ?_
          refine lv_iadd hx hb dL_law_394 ?_
          refine va_sld hx hb hX hbl hbA hS h.1 dL_law_395 ?_
          have h := h.2
          refine lv_aload_n hx hb dL_law_396 rfl (lv_at hl 0 rfl) ?_
          refine lv_iload_n hx hb dL_law_397 rfl (lv_at hl 3 rfl) ?_
          refine lv_iconst (v := 3) hx hb dL_law_398 (by decide) ?_
          refine lv_iadd hx hb dL_law_399 ?_
          refine va_sld hx hb hX hbl hbA hS h.1 dL_law_400 ?_
          have h := h.2
          have p1 := gB (n := 16) (bs := [bGC G (pl_52 99) (dr_53 99) Z_51.1, bText E (G 1) (Z_51.2.1 1), bNow E (G 2) (G 3) e_54 (Z_51.2.1 2), bScene E (G 3) (Z_51.2.1 3), bPlan E pl_52 (Z_51.2.1 4), bPlan E dr_53 (Z_51.2.1 5), bRumour E (G 6) (Z_51.2.1 6), bIm E G (Z_51.2.1 7), bNow E (G 8) (G 10) e1 (Z_51.2.1 8), bNow E (G 9) (G 11) e2 (Z_51.2.1 9), bScene E (G 10) (Z_51.2.1 10), bScene E (G 11) (Z_51.2.1 11), bPool E e_54 (Z_51.2.2 0), bPool E e1 (Z_51.2.2 1), bPool E e2 (Z_51.2.2 2), bModel E a M]) (bc := [bModel E a M]) (br := [bGC G (pl_52 99) (dr_53 99) Z_51.1, bText E (G 1) (Z_51.2.1 1), bNow E (G 2) (G 3) e_54 (Z_51.2.1 2), bScene E (G 3) (Z_51.2.1 3), bPlan E pl_52 (Z_51.2.1 4), bPlan E dr_53 (Z_51.2.1 5), bRumour E (G 6) (Z_51.2.1 6), bIm E G (Z_51.2.1 7), bNow E (G 8) (G 10) e1 (Z_51.2.1 8), bNow E (G 9) (G 11) e2 (Z_51.2.1 9), bScene E (G 10) (Z_51.2.1 10), bScene E (G 11) (Z_51.2.1 11), bPool E e_54 (Z_51.2.2 0), bPool E e1 (Z_51.2.2 1), bPool E e2 (Z_51.2.2 2)]) [15, 0, 1, 2, 3, 4, 5, 6, 7, 8, 9, 10, 11, 12, 13, 14] rfl rfl (by decide)
          refine g_i (g_runV (As := [.int (xs (i + 1).toNatClampNeg), .int (xs (i + 2).toNatClampNeg), .int (xs (i + 3).toNatClampNeg)]) (rest := [.int r_50]) ⟨hx, hb, hml, hown, ht⟩ hE (c_X6_tells E l a M (xs (i + 1).toNatClampNeg) (xs (i + 2).toNatClampNeg) (xs (i + 3).toNatClampNeg) _ h) ⟨rfl, rfl⟩ wk_L_52 wi_X6_tells ws_X6_tells wn_X6 wc_X6_tells yd_X6_tells ⟨Nat.le_of_ble_eq_true rfl, Nat.le_of_ble_eq_true rfl⟩ hP hD p1 (ci := 6) rfl rfl rfl rfl rfl hl.1 rfl (lv_room (Nat.le_of_ble_eq_true rfl)) dL_law_401 ⟨Nat.le_of_ble_eq_true rfl, Nat.le_of_ble_eq_true rfl⟩) hP hD hS p1 (fun r_55 M_56 w H locs h hw hP hD hS => ?_)
          subst hw
          clear p1
          have p2 := gB (n := 16) (bs := [bGC G (pl_52 99) (dr_53 99) Z_51.1, bText E (G 1) (Z_51.2.1 1), bNow E (G 2) (G 3) e_54 (Z_51.2.1 2), bScene E (G 3) (Z_51.2.1 3), bPlan E pl_52 (Z_51.2.1 4), bPlan E dr_53 (Z_51.2.1 5), bRumour E (G 6) (Z_51.2.1 6), bIm E G (Z_51.2.1 7), bNow E (G 8) (G 10) e1 (Z_51.2.1 8), bNow E (G 9) (G 11) e2 (Z_51.2.1 9), bScene E (G 10) (Z_51.2.1 10), bScene E (G 11) (Z_51.2.1 11), bPool E e_54 (Z_51.2.2 0), bPool E e1 (Z_51.2.2 1), bPool E e2 (Z_51.2.2 2), bModel E a M_56]) (bc := [bModel E a M_56]) (br := [bGC G (pl_52 99) (dr_53 99) Z_51.1, bText E (G 1) (Z_51.2.1 1), bNow E (G 2) (G 3) e_54 (Z_51.2.1 2), bScene E (G 3) (Z_51.2.1 3), bPlan E pl_52 (Z_51.2.1 4), bPlan E dr_53 (Z_51.2.1 5), bRumour E (G 6) (Z_51.2.1 6), bIm E G (Z_51.2.1 7), bNow E (G 8) (G 10) e1 (Z_51.2.1 8), bNow E (G 9) (G 11) e2 (Z_51.2.1 9), bScene E (G 10) (Z_51.2.1 10), bScene E (G 11) (Z_51.2.1 11), bPool E e_54 (Z_51.2.2 0), bPool E e1 (Z_51.2.2 1), bPool E e2 (Z_51.2.2 2)]) [15, 0, 1, 2, 3, 4, 5, 6, 7, 8, 9, 10, 11, 12, 13, 14] rfl rfl (by decide)
          have hP := gP_perm p2.symm hP
          have hD := gD_perm p2.symm hD
          clear p2
          refine lv_icmp_eq (tgt := 821) hx hb dL_law_404 (by decide) (fun c_57 => ?_) (fun c_57 => ?_)
          · have h := h.1 c_57
            refine lv_iinc (v := (i + 4)) (lv' := [(3, .int (i + 4)), (0, .ref b), (1, .ref (G 0 99)), (2, .ref (a 99))]) hx hb dL_law_821 hl (k := 3) rfl rfl (by decide) rfl (fun ls hl => ?_)
            refine lv_goto (tgt := 18) hx hb dL_law_824 (by decide) ?_
            exact ih (i + 4) Z_51 M_56 pl_52 dr_53 e_54 _ _ _ h hP hD hS (lv_sub hl [1, 2, 3, 0] rfl)
          · have h := h.2 c_57
            refine lv_iconst (v := 0) hx hb dL_law_407 (by decide) ?_
            exact h.elim
        · have h := h.2.2.2.2.2.2.2.2.2.1 c
          refine lv_asi c ?_
          refine lv_tableIn (off := 377) (tgt := 409) hx hb dL_law_32 (by decide) (by decide) rfl (by decide) ?_
          refine lv_aload_n hx hb dL_law_409 rfl (lv_at hl 1 rfl) ?_
          refine lv_aload_n hx hb dL_law_410 rfl (lv_at hl 0 rfl) ?_
          refine lv_iload_n hx hb dL_law_411 rfl (lv_at hl 3 rfl) ?_
          refine lv_iconst (v := 1) hx hb dL_law_412 (by decide) ?_
          refine lv_iadd hx hb dL_law_413 ?_
          refine va_sld hx hb hX hbl hbA hS h.1 dL_law_414 ?_
          have h := h.2
          refine lv_aload_n hx hb dL_law_415 rfl (lv_at hl 0 rfl) ?_
          refine lv_iload_n hx hb dL_law_416 rfl (lv_at hl 3 rfl) ?_
          refine lv_iconst (v := 2) hx hb dL_law_417 (by decide) ?_
          refine lv_iadd hx hb dL_law_418 ?_
          refine va_sld hx hb hX hbl hbA hS h.1 dL_law_419 ?_
          have h := h.2
          have p1 := gB (n := 16) (bs := [bGC G (pl 99) (dr 99) Z.1, bText E (G 1) (Z.2.1 1), bNow E (G 2) (G 3) e0 (Z.2.1 2), bScene E (G 3) (Z.2.1 3), bPlan E pl (Z.2.1 4), bPlan E dr (Z.2.1 5), bRumour E (G 6) (Z.2.1 6), bIm E G (Z.2.1 7), bNow E (G 8) (G 10) e1 (Z.2.1 8), bNow E (G 9) (G 11) e2 (Z.2.1 9), bScene E (G 10) (Z.2.1 10), bScene E (G 11) (Z.2.1 11), bPool E e0 (Z.2.2 0), bPool E e1 (Z.2.2 1), bPool E e2 (Z.2.2 2), bModel E a M]) (bc := [bGC G (pl 99) (dr 99) Z.1, bText E (G 1) (Z.2.1 1), bNow E (G 2) (G 3) e0 (Z.2.1 2), bScene E (G 3) (Z.2.1 3), bPlan E pl (Z.2.1 4), bPlan E dr (Z.2.1 5), bRumour E (G 6) (Z.2.1 6), bIm E G (Z.2.1 7), bNow E (G 8) (G 10) e1 (Z.2.1 8), bNow E (G 9) (G 11) e2 (Z.2.1 9), bScene E (G 10) (Z.2.1 10), bScene E (G 11) (Z.2.1 11), bPool E e0 (Z.2.2 0), bPool E e1 (Z.2.2 1), bPool E e2 (Z.2.2 2)]) (br := [bModel E a M]) [0, 1, 2, 3, 4, 5, 6, 7, 8, 9, 10, 11, 12, 13, 14, 15] rfl rfl (by decide)
          refine g_i (g_runV (As := [.int (xs (i + 1).toNatClampNeg), .int (xs (i + 2).toNatClampNeg)]) (rest := []) ⟨hx, hb, hml, hown, ht⟩ hE (c_X5_changes E l G pl dr e0 e1 e2 Z (xs (i + 1).toNatClampNeg) (xs (i + 2).toNatClampNeg) _ h) ⟨rfl, rfl⟩ wk_L_53 wi_X5_changes ws_X5_changes wn_X5 wc_X5_changes yd_X5_changes ⟨Nat.le_of_ble_eq_true rfl, Nat.le_of_ble_eq_true rfl⟩ hP hD p1 (ci := 5) rfl rfl rfl rfl rfl hl.1 rfl (lv_room (Nat.le_of_ble_eq_true rfl)) dL_law_420 ⟨Nat.le_of_ble_eq_true rfl, Nat.le_of_ble_eq_true rfl⟩) hP hD hS p1 (fun r_58 Z_59 w H locs h hw hP hD hS => ?_)
          obtain ⟨pl_60, dr_61, e_62, rfl⟩ := hw
          clear p1
          have p2 := gB (n := 16) (bs := [bGC G (pl_60 99) (dr_61 99) Z_59.1, bText E (G 1) (Z_59.2.1 1), bNow E (G 2) (G 3) e_62 (Z_59.2.1 2), bScene E (G 3) (Z_59.2.1 3), bPlan E pl_60 (Z_59.2.1 4), bPlan E dr_61 (Z_59.2.1 5), bRumour E (G 6) (Z_59.2.1 6), bIm E G (Z_59.2.1 7), bNow E (G 8) (G 10) e1 (Z_59.2.1 8), bNow E (G 9) (G 11) e2 (Z_59.2.1 9), bScene E (G 10) (Z_59.2.1 10), bScene E (G 11) (Z_59.2.1 11), bPool E e_62 (Z_59.2.2 0), bPool E e1 (Z_59.2.2 1), bPool E e2 (Z_59.2.2 2), bModel E a M]) (bc := [bGC G (pl_60 99) (dr_61 99) Z_59.1, bText E (G 1) (Z_59.2.1 1), bNow E (G 2) (G 3) e_62 (Z_59.2.1 2), bScene E (G 3) (Z_59.2.1 3), bPlan E pl_60 (Z_59.2.1 4), bPlan E dr_61 (Z_59.2.1 5), bRumour E (G 6) (Z_59.2.1 6), bIm E G (Z_59.2.1 7), bNow E (G 8) (G 10) e1 (Z_59.2.1 8), bNow E (G 9) (G 11) e2 (Z_59.2.1 9), bScene E (G 10) (Z_59.2.1 10), bScene E (G 11) (Z_59.2.1 11), bPool E e_62 (Z_59.2.2 0), bPool E e1 (Z_59.2.2 1), bPool E e2 (Z_59.2.2 2)]) (br := [bModel E a M]) [0, 1, 2, 3, 4, 5, 6, 7, 8, 9, 10, 11, 12, 13, 14, 15] rfl rfl (by decide)
          have hP := gP_perm p2.symm hP
          have hD := gD_perm p2.symm hD
          clear p2
          refine lv_aload_n hx hb dL_law_423 rfl (lv_at hl 2 rfl) ?_
          refine lv_aload_n hx hb dL_law_424 rfl (lv_at hl 0 rfl) ?_
          refine lv_iload_n hx hb dL_law_425 rfl (lv_at hl 3 rfl) ?_
          refine lv_iconst (v := 1) hx hb dL_law_426 (by decide) ?_
          refine lv_iadd hx hb dL_law_427 ?_
          refine va_sld hx hb hX hbl hbA hS h.1 dL_law_428 ?_
          have h := h.2
          refine lv_aload_n hx hb dL_law_429 rfl (lv_at hl 0 rfl) ?_
          refine lv_iload_n hx hb dL_law_430 rfl (lv_at hl 3 rfl) ?_
          refine lv_iconst (v := 2) hx hb dL_law_431 (by decide) ?_
          refine lv_iadd hx hb dL_law_432 ?_
          refine va_sld hx hb hX hbl hbA hS h.1 dL_law_433 ?_
          have h := h.2
          have p1 := gB (n := 16) (bs := [bGC G (pl_60 99) (dr_61 99) Z_59.1, bText E (G 1) (Z_59.2.1 1), bNow E (G 2) (G 3) e_62 (Z_59.2.1 2), bScene E (G 3) (Z_59.2.1 3), bPlan E pl_60 (Z_59.2.1 4), bPlan E dr_61 (Z_59.2.1 5), bRumour E (G 6) (Z_59.2.1 6), bIm E G (Z_59.2.1 7), bNow E (G 8) (G 10) e1 (Z_59.2.1 8), bNow E (G 9) (G 11) e2 (Z_59.2.1 9), bScene E (G 10) (Z_59.2.1 10), bScene E (G 11) (Z_59.2.1 11), bPool E e_62 (Z_59.2.2 0), bPool E e1 (Z_59.2.2 1), bPool E e2 (Z_59.2.2 2), bModel E a M]) (bc := [bModel E a M]) (br := [bGC G (pl_60 99) (dr_61 99) Z_59.1, bText E (G 1) (Z_59.2.1 1), bNow E (G 2) (G 3) e_62 (Z_59.2.1 2), bScene E (G 3) (Z_59.2.1 3), bPlan E pl_60 (Z_59.2.1 4), bPlan E dr_61 (Z_59.2.1 5), bRumour E (G 6) (Z_59.2.1 6), bIm E G (Z_59.2.1 7), bNow E (G 8) (G 10) e1 (Z_59.2.1 8), bNow E (G 9) (G 11) e2 (Z_59.2.1 9), bScene E (G 10) (Z_59.2.1 10), bScene E (G 11) (Z_59.2.1 11), bPool E e_62 (Z_59.2.2 0), bPool E e1 (Z_59.2.2 1), bPool E e2 (Z_59.2.2 2)]) [15, 0, 1, 2, 3, 4, 5, 6, 7, 8, 9, 10, 11, 12, 13, 14] rfl rfl (by decide)
          refine g_i (g_runV (As := [.int (xs (i + 1).toNatClampNeg), .int (xs (i + 2).toNatClampNeg)]) (rest := [.int r_58]) ⟨hx, hb, hml, hown, ht⟩ hE (c_X6_changes E l a M (xs (i + 1).toNatClampNeg) (xs (i + 2).toNatClampNeg) _ h) ⟨rfl, rfl⟩ wk_L_56 wi_X6_changes ws_X6_changes wn_X6 wc_X6_changes yd_X6_changes ⟨Nat.le_of_ble_eq_true rfl, Nat.le_of_ble_eq_true rfl⟩ hP hD p1 (ci := 6) rfl rfl rfl rfl rfl hl.1 rfl (lv_room (Nat.le_of_ble_eq_true rfl)) dL_law_434 ⟨Nat.le_of_ble_eq_true rfl, Nat.le_of_ble_eq_true rfl⟩) hP hD hS p1 (fun r_63 M_64 w H locs h hw hP hD hS => ?_)
          subst hw
          clear p1
          have p2 := gB (n := 16) (bs := [bGC G (pl_60 99) (dr_61 99) Z_59.1, bText E (G 1) (Z_59.2.1 1), bNow E (G 2) (G 3) e_62 (Z_59.2.1 2), bScene E (G 3) (Z_59.2.1 3), bPlan E pl_60 (Z_59.2.1 4), bPlan E dr_61 (Z_59.2.1 5), bRumour E (G 6) (Z_59.2.1 6), bIm E G (Z_59.2.1 7), bNow E (G 8) (G 10) e1 (Z_59.2.1 8), bNow E (G 9) (G 11) e2 (Z_59.2.1 9), bScene E (G 10) (Z_59.2.1 10), bScene E (G 11) (Z_59.2.1 11), bPool E e_62 (Z_59.2.2 0), bPool E e1 (Z_59.2.2 1), bPool E e2 (Z_59.2.2 2), bModel E a M_64]) (bc := [bModel E a M_64]) (br := [bGC G (pl_60 99) (dr_61 99) Z_59.1, bText E (G 1) (Z_59.2.1 1), bNow E (G 2) (G 3) e_62 (Z_59.2.1 2), bScene E (G 3) (Z_59.2.1 3), bPlan E pl_60 (Z_59.2.1 4), bPlan E dr_61 (Z_59.2.1 5), bRumour E (G 6) (Z_59.2.1 6), bIm E G (Z_59.2.1 7), bNow E (G 8) (G 10) e1 (Z_59.2.1 8), bNow E (G 9) (G 11) e2 (Z_59.2.1 9), bScene E (G 10) (Z_59.2.1 10), bScene E (G 11) (Z_59.2.1 11), bPool E e_62 (Z_59.2.2 0), bPool E e1 (Z_59.2.2 1), bPool E e2 (Z_59.2.2 2)]) [15, 0, 1, 2, 3, 4, 5, 6, 7, 8, 9, 10, 11, 12, 13, 14] rfl rfl (by decide)
          have hP := gP_perm p2.symm hP
          have hD := gD_perm p2.symm hD
          clear p2
          refine lv_icmp_eq (tgt := 821) hx hb dL_law_437 (by decide) (fun c_65 => ?_) (fun c_65 => ?_)
          · have h := h.1 c_65
            refine lv_iinc (v := (i + 4)) (lv' := [(3, .int (i + 4)), (0, .ref b), (1, .ref (G 0 99)), (2, .ref (a 99))]) hx hb dL_law_821 hl (k := 3) rfl rfl (by decide) rfl (fun ls hl => ?_)
            refine lv_goto (tgt := 18) hx hb dL_law_824 (by decide) ?_
            exact ih (i + 4) Z_59 M_64 pl_60 dr_61 e_62 _ _ _ h hP hD hS (lv_sub hl [1, 2, 3, 0] rfl)
          · have h := h.2 c_65
            refine lv_iconst (v := 0) hx hb dL_law_440 (by decide) ?_
            exact h.elim
        · have h := h.2.2.2.2.2.2.2.2.2.2.1 c
          refine lv_asi c ?_
          refine lv_tableIn (off := 410) (tgt := 442) hx hb dL_law_32 (by decide) (by decide) rfl (by decide) ?_
          refine lv_aload_n hx hb dL_law_442 rfl (lv_at hl 1 rfl) ?_
          refine lv_aload_n hx hb dL_law_443 rfl (lv_at hl 0 rfl) ?_
          refine lv_iload_n hx hb dL_law_444 rfl (lv_at hl 3 rfl) ?_
          refine lv_iconst (v := 1) hx hb dL_law_445 (by decide) ?_
          refine lv_iadd hx hb dL_law_446 ?_
          refine va_sld hx hb hX hbl hbA hS h.1 dL_law_447 ?_
          have h := h.2
          refine lv_aload_n hx hb dL_law_448 rfl (lv_at hl 0 rfl) ?_
          refine lv_iload_n hx hb dL_law_449 rfl (lv_at hl 3 rfl) ?_
          refine lv_iconst (v := 2) hx hb dL_law_450 (by decide) ?_
          refine lv_iadd hx hb dL_law_451 ?_
          refine va_sld hx hb hX hbl hbA hS h.1 dL_law_452 ?_
          have h := h.2
          have p1 := gB (n := 16) (bs := [bGC G (pl 99) (dr 99) Z.1, bText E (G 1) (Z.2.1 1), bNow E (G 2) (G 3) e0 (Z.2.1 2), bScene E (G 3) (Z.2.1 3), bPlan E pl (Z.2.1 4), bPlan E dr (Z.2.1 5), bRumour E (G 6) (Z.2.1 6), bIm E G (Z.2.1 7), bNow E (G 8) (G 10) e1 (Z.2.1 8), bNow E (G 9) (G 11) e2 (Z.2.1 9), bScene E (G 10) (Z.2.1 10), bScene E (G 11) (Z.2.1 11), bPool E e0 (Z.2.2 0), bPool E e1 (Z.2.2 1), bPool E e2 (Z.2.2 2), bModel E a M]) (bc := [bGC G (pl 99) (dr 99) Z.1, bText E (G 1) (Z.2.1 1), bNow E (G 2) (G 3) e0 (Z.2.1 2), bScene E (G 3) (Z.2.1 3), bPlan E pl (Z.2.1 4), bPlan E dr (Z.2.1 5), bRumour E (G 6) (Z.2.1 6), bIm E G (Z.2.1 7), bNow E (G 8) (G 10) e1 (Z.2.1 8), bNow E (G 9) (G 11) e2 (Z.2.1 9), bScene E (G 10) (Z.2.1 10), bScene E (G 11) (Z.2.1 11), bPool E e0 (Z.2.2 0), bPool E e1 (Z.2.2 1), bPool E e2 (Z.2.2 2)]) (br := [bModel E a M]) [0, 1, 2, 3, 4, 5, 6, 7, 8, 9, 10, 11, 12, 13, 14, 15] rfl rfl (by decide)
          refine g_i (g_runV (As := [.int (xs (i + 1).toNatClampNeg), .int (xs (i + 2).toNatClampNeg)]) (rest := []) ⟨hx, hb, hml, hown, ht⟩ hE (c_X5_tries E l G pl dr e0 e1 e2 Z (xs (i + 1).toNatClampNeg) (xs (i + 2).toNatClampNeg) _ h) ⟨rfl, rfl⟩ wk_L_57 wi_X5_tries ws_X5_tries wn_X5 wc_X5_tries yd_X5_tries ⟨Nat.le_of_ble_eq_true rfl, Nat.le_of_ble_eq_true rfl⟩ hP hD p1 (ci := 5) rfl rfl rfl rfl rfl hl.1 rfl (lv_room (Nat.le_of_ble_eq_true rfl)) dL_law_453 ⟨Nat.le_of_ble_eq_true rfl, Nat.le_of_ble_eq_true rfl⟩) hP hD hS p1 (fun r_66 Z_67 w H locs h hw hP hD hS => ?_)
          obtain ⟨pl_68, dr_69, e_70, rfl⟩ := hw
          clear p1
          have p2 := gB (n := 16) (bs := [bGC G (pl_68 99) (dr_69 99) Z_67.1, bText E (G 1) (Z_67.2.1 1), bNow E (G 2) (G 3) e_70 (Z_67.2.1 2), bScene E (G 3) (Z_67.2.1 3), bPlan E pl_68 (Z_67.2.1 4), bPlan E dr_69 (Z_67.2.1 5), bRumour E (G 6) (Z_67.2.1 6), bIm E G (Z_67.2.1 7), bNow E (G 8) (G 10) e1 (Z_67.2.1 8), bNow E (G 9) (G 11) e2 (Z_67.2.1 9), bScene E (G 10) (Z_67.2.1 10), bScene E (G 11) (Z_67.2.1 11), bPool E e_70 (Z_67.2.2 0), bPool E e1 (Z_67.2.2 1), bPool E e2 (Z_67.2.2 2), bModel E a M]) (bc := [bGC G (pl_68 99) (dr_69 99) Z_67.1, bText E (G 1) (Z_67.2.1 1), bNow E (G 2) (G 3) e_70 (Z_67.2.1 2), bScene E (G 3) (Z_67.2.1 3), bPlan E pl_68 (Z_67.2.1 4), bPlan E dr_69 (Z_67.2.1 5), bRumour E (G 6) (Z_67.2.1 6), bIm E G (Z_67.2.1 7), bNow E (G 8) (G 10) e1 (Z_67.2.1 8), bNow E (G 9) (G 11) e2 (Z_67.2.1 9), bScene E (G 10) (Z_67.2.1 10), bScene E (G 11) (Z_67.2.1 11), bPool E e_70 (Z_67.2.2 0), bPool E e1 (Z_67.2.2 1), bPool E e2 (Z_67.2.2 2)]) (br := [bModel E a M]) [0, 1, 2, 3, 4, 5, 6, 7, 8, 9, 10, 11, 12, 13, 14, 15] rfl rfl (by decide)
          have hP := gP_perm p2.symm hP
          have hD := gD_perm p2.symm hD
          clear p2
          refine lv_aload_n hx hb dL_law_456 rfl (lv_at hl 2 rfl) ?_
          refine lv_aload_n hx hb dL_law_457 rfl (lv_at hl 0 rfl) ?_
          refine lv_iload_n hx hb dL_law_458 rfl (lv_at hl 3 rfl) ?_
          refine lv_iconst (v := 1) hx hb dL_law_459 (by decide) ?_
          refine lv_iadd hx hb dL_law_460 ?_
          refine va_sld hx hb hX hbl hbA hS h.1 dL_law_461 ?_
          have h := h.2
          refine lv_aload_n hx hb dL_law_462 rfl (lv_at hl 0 rfl) ?_
          refine lv_iload_n hx hb dL_law_463 rfl (lv_at hl 3 rfl) ?_
          refine lv_iconst (v := 2) hx hb dL_law_464 (by decide) ?_
          refine lv_iadd hx hb dL_law_465 ?_
          refine va_sld hx hb hX hbl hbA hS h.1 dL_law_466 ?_
          have h := h.2
          have p1 := gB (n := 16) (bs := [bGC G (pl_68 99) (dr_69 99) Z_67.1, bText E (G 1) (Z_67.2.1 1), bNow E (G 2) (G 3) e_70 (Z_67.2.1 2), bScene E (G 3) (Z_67.2.1 3), bPlan E pl_68 (Z_67.2.1 4), bPlan E dr_69 (Z_67.2.1 5), bRumour E (G 6) (Z_67.2.1 6), bIm E G (Z_67.2.1 7), bNow E (G 8) (G 10) e1 (Z_67.2.1 8), bNow E (G 9) (G 11) e2 (Z_67.2.1 9), bScene E (G 10) (Z_67.2.1 10), bScene E (G 11) (Z_67.2.1 11), bPool E e_70 (Z_67.2.2 0), bPool E e1 (Z_67.2.2 1), bPool E e2 (Z_67.2.2 2), bModel E a M]) (bc := [bModel E a M]) (br := [bGC G (pl_68 99) (dr_69 99) Z_67.1, bText E (G 1) (Z_67.2.1 1), bNow E (G 2) (G 3) e_70 (Z_67.2.1 2), bScene E (G 3) (Z_67.2.1 3), bPlan E pl_68 (Z_67.2.1 4), bPlan E dr_69 (Z_67.2.1 5), bRumour E (G 6) (Z_67.2.1 6), bIm E G (Z_67.2.1 7), bNow E (G 8) (G 10) e1 (Z_67.2.1 8), bNow E (G 9) (G 11) e2 (Z_67.2.1 9), bScene E (G 10) (Z_67.2.1 10), bScene E (G 11) (Z_67.2.1 11), bPool E e_70 (Z_67.2.2 0), bPool E e1 (Z_67.2.2 1), bPool E e2 (Z_67.2.2 2)]) [15, 0, 1, 2, 3, 4, 5, 6, 7, 8, 9, 10, 11, 12, 13, 14] rfl rfl (by decide)
          refine g_i (g_runV (As := [.int (xs (i + 1).toNatClampNeg), .int (xs (i + 2).toNatClampNeg)]) (rest := [.int r_66]) ⟨hx, hb, hml, hown, ht⟩ hE (c_X6_tries E l a M (xs (i + 1).toNatClampNeg) (xs (i + 2).toNatClampNeg) _ h) ⟨rfl, rfl⟩ wk_L_60 wi_X6_tries ws_X6_tries wn_X6 wc_X6_tries yd_X6_tries ⟨Nat.le_of_ble_eq_true rfl, Nat.le_of_ble_eq_true rfl⟩ hP hD p1 (ci := 6) rfl rfl rfl rfl rfl hl.1 rfl (lv_room (Nat.le_of_ble_eq_true rfl)) dL_law_467 ⟨Nat.le_of_ble_eq_true rfl, Nat.le_of_ble_eq_true rfl⟩) hP hD hS p1 (fun r_71 M_72 w H locs h hw hP hD hS => ?_)
          subst hw
          clear p1
          have p2 := gB (n := 16) (bs := [bGC G (pl_68 99) (dr_69 99) Z_67.1, bText E (G 1) (Z_67.2.1 1), bNow E (G 2) (G 3) e_70 (Z_67.2.1 2), bScene E (G 3) (Z_67.2.1 3), bPlan E pl_68 (Z_67.2.1 4), bPlan E dr_69 (Z_67.2.1 5), bRumour E (G 6) (Z_67.2.1 6), bIm E G (Z_67.2.1 7), bNow E (G 8) (G 10) e1 (Z_67.2.1 8), bNow E (G 9) (G 11) e2 (Z_67.2.1 9), bScene E (G 10) (Z_67.2.1 10), bScene E (G 11) (Z_67.2.1 11), bPool E e_70 (Z_67.2.2 0), bPool E e1 (Z_67.2.2 1), bPool E e2 (Z_67.2.2 2), bModel E a M_72]) (bc := [bModel E a M_72]) (br := [bGC G (pl_68 99) (dr_69 99) Z_67.1, bText E (G 1) (Z_67.2.1 1), bNow E (G 2) (G 3) e_70 (Z_67.2.1 2), bScene E (G 3) (Z_67.2.1 3), bPlan E pl_68 (Z_67.2.1 4), bPlan E dr_69 (Z_67.2.1 5), bRumour E (G 6) (Z_67.2.1 6), bIm E G (Z_67.2.1 7), bNow E (G 8) (G 10) e1 (Z_67.2.1 8), bNow E (G 9) (G 11) e2 (Z_67.2.1 9), bScene E (G 10) (Z_67.2.1 10), bScene E (G 11) (Z_67.2.1 11), bPool E e_70 (Z_67.2.2 0), bPool E e1 (Z_67.2.2 1), bPool E e2 (Z_67.2.2 2)]) [15, 0, 1, 2, 3, 4, 5, 6, 7, 8, 9, 10, 11, 12, 13, 14] rfl rfl (by decide)
          have hP := gP_perm p2.symm hP
          have hD := gD_perm p2.symm hD
          clear p2
          refine lv_icmp_eq (tgt := 821) hx hb dL_law_470 (by decide) (fun c_73 => ?_) (fun c_73 => ?_)
          · have h := h.1 c_73
            refine lv_iinc (v := (i + 4)) (lv' := [(3, .int (i + 4)), (0, .ref b), (1, .ref (G 0 99)), (2, .ref (a 99))]) hx hb dL_law_821 hl (k := 3) rfl rfl (by decide) rfl (fun ls hl => ?_)
            refine lv_goto (tgt := 18) hx hb dL_law_824 (by decide) ?_
            exact ih (i + 4) Z_67 M_72 pl_68 dr_69 e_70 _ _ _ h hP hD hS (lv_sub hl [1, 2, 3, 0] rfl)
          · have h := h.2 c_73
            refine lv_iconst (v := 0) hx hb dL_law_473 (by decide) ?_
            exact h.elim
        · have h := h.2.2.2.2.2.2.2.2.2.2.2.1 c
          refine lv_asi c ?_
          refine lv_tableIn (off := 443) (tgt := 475) hx hb dL_law_32 (by decide) (by decide) rfl (by decide) ?_
          refine lv_aload_n hx hb dL_law_475 rfl (lv_at hl 1 rfl) ?_
          have p1 := gB (n := 16) (bs := [bGC G (pl 99) (dr 99) Z.1, bText E (G 1) (Z.2.1 1), bNow E (G 2) (G 3) e0 (Z.2.1 2), bScene E (G 3) (Z.2.1 3), bPlan E pl (Z.2.1 4), bPlan E dr (Z.2.1 5), bRumour E (G 6) (Z.2.1 6), bIm E G (Z.2.1 7), bNow E (G 8) (G 10) e1 (Z.2.1 8), bNow E (G 9) (G 11) e2 (Z.2.1 9), bScene E (G 10) (Z.2.1 10), bScene E (G 11) (Z.2.1 11), bPool E e0 (Z.2.2 0), bPool E e1 (Z.2.2 1), bPool E e2 (Z.2.2 2), bModel E a M]) (bc := [bGC G (pl 99) (dr 99) Z.1, bText E (G 1) (Z.2.1 1), bNow E (G 2) (G 3) e0 (Z.2.1 2), bScene E (G 3) (Z.2.1 3), bPlan E pl (Z.2.1 4), bPlan E dr (Z.2.1 5), bRumour E (G 6) (Z.2.1 6), bIm E G (Z.2.1 7), bNow E (G 8) (G 10) e1 (Z.2.1 8), bNow E (G 9) (G 11) e2 (Z.2.1 9), bScene E (G 10) (Z.2.1 10), bScene E (G 11) (Z.2.1 11), bPool E e0 (Z.2.2 0), bPool E e1 (Z.2.2 1), bPool E e2 (Z.2.2 2)]) (br := [bModel E a M]) [0, 1, 2, 3, 4, 5, 6, 7, 8, 9, 10, 11, 12, 13, 14, 15] rfl rfl (by decide)
          refine g_i (g_runV (As := []) (rest := []) ⟨hx, hb, hml, hown, ht⟩ hE (c_X5_undo E l G pl dr e0 e1 e2 Z _ h) ⟨rfl, rfl⟩ wk_L_61 wi_X5_undo ws_X5_undo wn_X5 wc_X5_undo yd_X5_undo ⟨Nat.le_of_ble_eq_true rfl, Nat.le_of_ble_eq_true rfl⟩ hP hD p1 (ci := 5) rfl rfl rfl rfl rfl hl.1 rfl (lv_room (Nat.le_of_ble_eq_true rfl)) dL_law_476 ⟨Nat.le_of_ble_eq_true rfl, Nat.le_of_ble_eq_true rfl⟩) hP hD hS p1 (fun r_74 Z_75 w H locs h hw hP hD hS => ?_)
          subst hw
          clear p1
          have p2 := gB (n := 16) (bs := [bGC G (pl 99) (dr 99) Z_75.1, bText E (G 1) (Z_75.2.1 1), bNow E (G 2) (G 3) e0 (Z_75.2.1 2), bScene E (G 3) (Z_75.2.1 3), bPlan E pl (Z_75.2.1 4), bPlan E dr (Z_75.2.1 5), bRumour E (G 6) (Z_75.2.1 6), bIm E G (Z_75.2.1 7), bNow E (G 8) (G 10) e1 (Z_75.2.1 8), bNow E (G 9) (G 11) e2 (Z_75.2.1 9), bScene E (G 10) (Z_75.2.1 10), bScene E (G 11) (Z_75.2.1 11), bPool E e0 (Z_75.2.2 0), bPool E e1 (Z_75.2.2 1), bPool E e2 (Z_75.2.2 2), bModel E a M]) (bc := [bGC G (pl 99) (dr 99) Z_75.1, bText E (G 1) (Z_75.2.1 1), bNow E (G 2) (G 3) e0 (Z_75.2.1 2), bScene E (G 3) (Z_75.2.1 3), bPlan E pl (Z_75.2.1 4), bPlan E dr (Z_75.2.1 5), bRumour E (G 6) (Z_75.2.1 6), bIm E G (Z_75.2.1 7), bNow E (G 8) (G 10) e1 (Z_75.2.1 8), bNow E (G 9) (G 11) e2 (Z_75.2.1 9), bScene E (G 10) (Z_75.2.1 10), bScene E (G 11) (Z_75.2.1 11), bPool E e0 (Z_75.2.2 0), bPool E e1 (Z_75.2.2 1), bPool E e2 (Z_75.2.2 2)]) (br := [bModel E a M]) [0, 1, 2, 3, 4, 5, 6, 7, 8, 9, 10, 11, 12, 13, 14, 15] rfl rfl (by decide)
          have hP := gP_perm p2.symm hP
          have hD := gD_perm p2.symm hD
          clear p2
          refine lv_aload_n hx hb dL_law_479 rfl (lv_at hl 2 rfl) ?_
          have p1 := gB (n := 16) (bs := [bGC G (pl 99) (dr 99) Z_75.1, bText E (G 1) (Z_75.2.1 1), bNow E (G 2) (G 3) e0 (Z_75.2.1 2), bScene E (G 3) (Z_75.2.1 3), bPlan E pl (Z_75.2.1 4), bPlan E dr (Z_75.2.1 5), bRumour E (G 6) (Z_75.2.1 6), bIm E G (Z_75.2.1 7), bNow E (G 8) (G 10) e1 (Z_75.2.1 8), bNow E (G 9) (G 11) e2 (Z_75.2.1 9), bScene E (G 10) (Z_75.2.1 10), bScene E (G 11) (Z_75.2.1 11), bPool E e0 (Z_75.2.2 0), bPool E e1 (Z_75.2.2 1), bPool E e2 (Z_75.2.2 2), bModel E a M]) (bc := [bModel E a M]) (br := [bGC G (pl 99) (dr 99) Z_75.1, bText E (G 1) (Z_75.2.1 1), bNow E (G 2) (G 3) e0 (Z_75.2.1 2), bScene E (G 3) (Z_75.2.1 3), bPlan E pl (Z_75.2.1 4), bPlan E dr (Z_75.2.1 5), bRumour E (G 6) (Z_75.2.1 6), bIm E G (Z_75.2.1 7), bNow E (G 8) (G 10) e1 (Z_75.2.1 8), bNow E (G 9) (G 11) e2 (Z_75.2.1 9), bScene E (G 10) (Z_75.2.1 10), bScene E (G 11) (Z_75.2.1 11), bPool E e0 (Z_75.2.2 0), bPool E e1 (Z_75.2.2 1), bPool E e2 (Z_75.2.2 2)]) [15, 0, 1, 2, 3, 4, 5, 6, 7, 8, 9, 10, 11, 12, 13, 14] rfl rfl (by decide)
          refine g_i (g_runV (As := []) (rest := [.int r_74]) ⟨hx, hb, hml, hown, ht⟩ hE (c_X6_undo E l a M _ h) ⟨rfl, rfl⟩ wk_L_64 wi_X6_undo ws_X6_undo wn_X6 wc_X6_undo yd_X6_undo ⟨Nat.le_of_ble_eq_true rfl, Nat.le_of_ble_eq_true rfl⟩ hP hD p1 (ci := 6) rfl rfl rfl rfl rfl hl.1 rfl (lv_room (Nat.le_of_ble_eq_true rfl)) dL_law_480 ⟨Nat.le_of_ble_eq_true rfl, Nat.le_of_ble_eq_true rfl⟩) hP hD hS p1 (fun r_76 M_77 w H locs h hw hP hD hS => ?_)
          subst hw
          clear p1
          have p2 := gB (n := 16) (bs := [bGC G (pl 99) (dr 99) Z_75.1, bText E (G 1) (Z_75.2.1 1), bNow E (G 2) (G 3) e0 (Z_75.2.1 2), bScene E (G 3) (Z_75.2.1 3), bPlan E pl (Z_75.2.1 4), bPlan E dr (Z_75.2.1 5), bRumour E (G 6) (Z_75.2.1 6), bIm E G (Z_75.2.1 7), bNow E (G 8) (G 10) e1 (Z_75.2.1 8), bNow E (G 9) (G 11) e2 (Z_75.2.1 9), bScene E (G 10) (Z_75.2.1 10), bScene E (G 11) (Z_75.2.1 11), bPool E e0 (Z_75.2.2 0), bPool E e1 (Z_75.2.2 1), bPool E e2 (Z_75.2.2 2), bModel E a M_77]) (bc := [bModel E a M_77]) (br := [bGC G (pl 99) (dr 99) Z_75.1, bText E (G 1) (Z_75.2.1 1), bNow E (G 2) (G 3) e0 (Z_75.2.1 2), bScene E (G 3) (Z_75.2.1 3), bPlan E pl (Z_75.2.1 4), bPlan E dr (Z_75.2.1 5), bRumour E (G 6) (Z_75.2.1 6), bIm E G (Z_75.2.1 7), bNow E (G 8) (G 10) e1 (Z_75.2.1 8), bNow E (G 9) (G 11) e2 (Z_75.2.1 9), bScene E (G 10) (Z_75.2.1 10), bScene E (G 11) (Z_75.2.1 11), bPool E e0 (Z_75.2.2 0), bPool E e1 (Z_75.2.2 1), bPool E e2 (Z_75.2.2 2)]) [15, 0, 1, 2, 3, 4, 5, 6, 7, 8, 9, 10, 11, 12, 13, 14] rfl rfl (by decide)
          have hP := gP_perm p2.symm hP
          have hD := gD_perm p2.symm hD
          clear p2
          refine lv_icmp_eq (tgt := 821) hx hb dL_law_483 (by decide) (fun c_78 => ?_) (fun c_78 => ?_)
          · have h := h.1 c_78
            refine lv_iinc (v := (i + 4)) (lv' := [(3, .int (i + 4)), (0, .ref b), (1, .ref (G 0 99)), (2, .ref (a 99))]) hx hb dL_law_821 hl (k := 3) rfl rfl (by decide) rfl (fun ls hl => ?_)
            refine lv_goto (tgt := 18) hx hb dL_law_824 (by decide) ?_
            exact ih (i + 4) Z_75 M_77 pl dr e0 _ _ _ h hP hD hS (lv_sub hl [1, 2, 3, 0] rfl)
          · have h := h.2 c_78
            refine lv_iconst (v := 0) hx hb dL_law_486 (by decide) ?_
            exact h.elim
        · have h := h.2.2.2.2.2.2.2.2.2.2.2.2.1 c
          refine lv_asi c ?_
          refine lv_tableIn (off := 456) (tgt := 488) hx hb dL_law_32 (by decide) (by decide) rfl (by decide) ?_
          refine lv_aload_n hx hb dL_law_488 rfl (lv_at hl 1 rfl) ?_
          refine lv_aload_n hx hb dL_law_489 rfl (lv_at hl 0 rfl) ?_
          refine lv_iload_n hx hb dL_law_490 rfl (lv_at hl 3 rfl) ?_
          refine lv_iconst (v := 1) hx hb dL_law_491 (by decide) ?_
          refine lv_iadd hx hb dL_law_492 ?_
          refine va_sld hx hb hX hbl hbA hS h.1 dL_law_493 ?_
          have h := h.2
          have p1 := gB (n := 16) (bs := [bGC G (pl 99) (dr 99) Z.1, bText E (G 1) (Z.2.1 1), bNow E (G 2) (G 3) e0 (Z.2.1 2), bScene E (G 3) (Z.2.1 3), bPlan E pl (Z.2.1 4), bPlan E dr (Z.2.1 5), bRumour E (G 6) (Z.2.1 6), bIm E G (Z.2.1 7), bNow E (G 8) (G 10) e1 (Z.2.1 8), bNow E (G 9) (G 11) e2 (Z.2.1 9), bScene E (G 10) (Z.2.1 10), bScene E (G 11) (Z.2.1 11), bPool E e0 (Z.2.2 0), bPool E e1 (Z.2.2 1), bPool E e2 (Z.2.2 2), bModel E a M]) (bc := [bGC G (pl 99) (dr 99) Z.1, bText E (G 1) (Z.2.1 1), bNow E (G 2) (G 3) e0 (Z.2.1 2), bScene E (G 3) (Z.2.1 3), bPlan E pl (Z.2.1 4), bPlan E dr (Z.2.1 5), bRumour E (G 6) (Z.2.1 6), bIm E G (Z.2.1 7), bNow E (G 8) (G 10) e1 (Z.2.1 8), bNow E (G 9) (G 11) e2 (Z.2.1 9), bScene E (G 10) (Z.2.1 10), bScene E (G 11) (Z.2.1 11), bPool E e0 (Z.2.2 0), bPool E e1 (Z.2.2 1), bPool E e2 (Z.2.2 2)]) (br := [bModel E a M]) [0, 1, 2, 3, 4, 5, 6, 7, 8, 9, 10, 11, 12, 13, 14, 15] rfl rfl (by decide)
          refine g_i (g_runV (As := [.int (xs (i + 1).toNatClampNeg)]) (rest := []) ⟨hx, hb, hml, hown, ht⟩ hE (c_X5_now E l G pl dr e0 e1 e2 Z (xs (i + 1).toNatClampNeg) _ h) ⟨rfl, rfl⟩ wk_L_65 wi_X5_now ws_X5_now wn_X5 wc_X5_now yd_X5_now ⟨Nat.le_of_ble_eq_true rfl, Nat.le_of_ble_eq_true rfl⟩ hP hD p1 (ci := 5) rfl rfl rfl rfl rfl hl.1 rfl (lv_room (Nat.le_of_ble_eq_true rfl)) dL_law_494 ⟨Nat.le_of_ble_eq_true rfl, Nat.le_of_ble_eq_true rfl⟩) hP hD hS p1 (fun r_79 _ w H locs h hw hP hD hS => ?_)
          subst hw
          clear p1
          have p2 := gB (n := 16) (bs := [bGC G (pl 99) (dr 99) Z.1, bText E (G 1) (Z.2.1 1), bNow E (G 2) (G 3) e0 (Z.2.1 2), bScene E (G 3) (Z.2.1 3), bPlan E pl (Z.2.1 4), bPlan E dr (Z.2.1 5), bRumour E (G 6) (Z.2.1 6), bIm E G (Z.2.1 7), bNow E (G 8) (G 10) e1 (Z.2.1 8), bNow E (G 9) (G 11) e2 (Z.2.1 9), bScene E (G 10) (Z.2.1 10), bScene E (G 11) (Z.2.1 11), bPool E e0 (Z.2.2 0), bPool E e1 (Z.2.2 1), bPool E e2 (Z.2.2 2), bModel E a M]) (bc := [bGC G (pl 99) (dr 99) Z.1, bText E (G 1) (Z.2.1 1), bNow E (G 2) (G 3) e0 (Z.2.1 2), bScene E (G 3) (Z.2.1 3), bPlan E pl (Z.2.1 4), bPlan E dr (Z.2.1 5), bRumour E (G 6) (Z.2.1 6), bIm E G (Z.2.1 7), bNow E (G 8) (G 10) e1 (Z.2.1 8), bNow E (G 9) (G 11) e2 (Z.2.1 9), bScene E (G 10) (Z.2.1 10), bScene E (G 11) (Z.2.1 11), bPool E e0 (Z.2.2 0), bPool E e1 (Z.2.2 1), bPool E e2 (Z.2.2 2)]) (br := [bModel E a M]) [0, 1, 2, 3, 4, 5, 6, 7, 8, 9, 10, 11, 12, 13, 14, 15] rfl rfl (by decide)
          have hP := gP_perm p2.symm hP
          have hD := gD_perm p2.symm hD
          clear p2
          refine lv_aload_n hx hb dL_law_497 rfl (lv_at hl 2 rfl) ?_
          refine lv_aload_n hx hb dL_law_498 rfl (lv_at hl 0 rfl) ?_
          refine lv_iload_n hx hb dL_law_499 rfl (lv_at hl 3 rfl) ?_
          refine lv_iconst (v := 1) hx hb dL_law_500 (by decide) ?_
          refine lv_iadd hx hb dL_law_501 ?_
          refine va_sld hx hb hX hbl hbA hS h.1 dL_law_502 ?_
          have h := h.2
          have p1 := gB (n := 16) (bs := [bGC G (pl 99) (dr 99) Z.1, bText E (G 1) (Z.2.1 1), bNow E (G 2) (G 3) e0 (Z.2.1 2), bScene E (G 3) (Z.2.1 3), bPlan E pl (Z.2.1 4), bPlan E dr (Z.2.1 5), bRumour E (G 6) (Z.2.1 6), bIm E G (Z.2.1 7), bNow E (G 8) (G 10) e1 (Z.2.1 8), bNow E (G 9) (G 11) e2 (Z.2.1 9), bScene E (G 10) (Z.2.1 10), bScene E (G 11) (Z.2.1 11), bPool E e0 (Z.2.2 0), bPool E e1 (Z.2.2 1), bPool E e2 (Z.2.2 2), bModel E a M]) (bc := [bModel E a M]) (br := [bGC G (pl 99) (dr 99) Z.1, bText E (G 1) (Z.2.1 1), bNow E (G 2) (G 3) e0 (Z.2.1 2), bScene E (G 3) (Z.2.1 3), bPlan E pl (Z.2.1 4), bPlan E dr (Z.2.1 5), bRumour E (G 6) (Z.2.1 6), bIm E G (Z.2.1 7), bNow E (G 8) (G 10) e1 (Z.2.1 8), bNow E (G 9) (G 11) e2 (Z.2.1 9), bScene E (G 10) (Z.2.1 10), bScene E (G 11) (Z.2.1 11), bPool E e0 (Z.2.2 0), bPool E e1 (Z.2.2 1), bPool E e2 (Z.2.2 2)]) [15, 0, 1, 2, 3, 4, 5, 6, 7, 8, 9, 10, 11, 12, 13, 14] rfl rfl (by decide)
          refine g_i (g_runV (As := [.int (xs (i + 1).toNatClampNeg)]) (rest := [.int r_79]) ⟨hx, hb, hml, hown, ht⟩ hE (c_X6_now E l a M (xs (i + 1).toNatClampNeg) _ h) ⟨rfl, rfl⟩ wk_L_68 wi_X6_now ws_X6_now wn_X6 wc_X6_now yd_X6_now ⟨Nat.le_of_ble_eq_true rfl, Nat.le_of_ble_eq_true rfl⟩ hP hD p1 (ci := 6) rfl rfl rfl rfl rfl hl.1 rfl (lv_room (Nat.le_of_ble_eq_true rfl)) dL_law_503 ⟨Nat.le_of_ble_eq_true rfl, Nat.le_of_ble_eq_true rfl⟩) hP hD hS p1 (fun r_80 _ w H locs h hw hP hD hS => ?_)
          subst hw
          clear p1
          have p2 := gB (n := 16) (bs := [bGC G (pl 99) (dr 99) Z.1, bText E (G 1) (Z.2.1 1), bNow E (G 2) (G 3) e0 (Z.2.1 2), bScene E (G 3) (Z.2.1 3), bPlan E pl (Z.2.1 4), bPlan E dr (Z.2.1 5), bRumour E (G 6) (Z.2.1 6), bIm E G (Z.2.1 7), bNow E (G 8) (G 10) e1 (Z.2.1 8), bNow E (G 9) (G 11) e2 (Z.2.1 9), bScene E (G 10) (Z.2.1 10), bScene E (G 11) (Z.2.1 11), bPool E e0 (Z.2.2 0), bPool E e1 (Z.2.2 1), bPool E e2 (Z.2.2 2), bModel E a M]) (bc := [bModel E a M]) (br := [bGC G (pl 99) (dr 99) Z.1, bText E (G 1) (Z.2.1 1), bNow E (G 2) (G 3) e0 (Z.2.1 2), bScene E (G 3) (Z.2.1 3), bPlan E pl (Z.2.1 4), bPlan E dr (Z.2.1 5), bRumour E (G 6) (Z.2.1 6), bIm E G (Z.2.1 7), bNow E (G 8) (G 10) e1 (Z.2.1 8), bNow E (G 9) (G 11) e2 (Z.2.1 9), bScene E (G 10) (Z.2.1 10), bScene E (G 11) (Z.2.1 11), bPool E e0 (Z.2.2 0), bPool E e1 (Z.2.2 1), bPool E e2 (Z.2.2 2)]) [15, 0, 1, 2, 3, 4, 5, 6, 7, 8, 9, 10, 11, 12, 13, 14] rfl rfl (by decide)
          have hP := gP_perm p2.symm hP
          have hD := gD_perm p2.symm hD
          clear p2
          refine lv_icmp_eq (tgt := 821) hx hb dL_law_506 (by decide) (fun c_81 => ?_) (fun c_81 => ?_)
          · have h := h.1 c_81
            refine lv_iinc (v := (i + 4)) (lv' := [(3, .int (i + 4)), (0, .ref b), (1, .ref (G 0 99)), (2, .ref (a 99))]) hx hb dL_law_821 hl (k := 3) rfl rfl (by decide) rfl (fun ls hl => ?_)
            refine lv_goto (tgt := 18) hx hb dL_law_824 (by decide) ?_
            exact ih (i + 4) Z M pl dr e0 _ _ _ h hP hD hS (lv_sub hl [1, 2, 3, 0] rfl)
          · have h := h.2 c_81
            refine lv_iconst (v := 0) hx hb dL_law_509 (by decide) ?_
            exact h.elim
        · have h := h.2.2.2.2.2.2.2.2.2.2.2.2.2.1 c
          refine lv_asi c ?_
          refine lv_tableIn (off := 479) (tgt := 511) hx hb dL_law_32 (by decide) (by decide) rfl (by decide) ?_
          refine lv_aload_n hx hb dL_law_511 rfl (lv_at hl 1 rfl) ?_
          refine lv_aload_n hx hb dL_law_512 rfl (lv_at hl 0 rfl) ?_
          refine lv_iload_n hx hb dL_law_513 rfl (lv_at hl 3 rfl) ?_
          refine lv_iconst (v := 1) hx hb dL_law_514 (by decide) ?_
          refine lv_iadd hx hb dL_law_515 ?_
          refine va_sld hx hb hX hbl hbA hS h.1 dL_law_516 ?_
          have h := h.2
          have p1 := gB (n := 16) (bs := [bGC G (pl 99) (dr 99) Z.1, bText E (G 1) (Z.2.1 1), bNow E (G 2) (G 3) e0 (Z.2.1 2), bScene E (G 3) (Z.2.1 3), bPlan E pl (Z.2.1 4), bPlan E dr (Z.2.1 5), bRumour E (G 6) (Z.2.1 6), bIm E G (Z.2.1 7), bNow E (G 8) (G 10) e1 (Z.2.1 8), bNow E (G 9) (G 11) e2 (Z.2.1 9), bScene E (G 10) (Z.2.1 10), bScene E (G 11) (Z.2.1 11), bPool E e0 (Z.2.2 0), bPool E e1 (Z.2.2 1), bPool E e2 (Z.2.2 2), bModel E a M]) (bc := [bGC G (pl 99) (dr 99) Z.1, bText E (G 1) (Z.2.1 1), bNow E (G 2) (G 3) e0 (Z.2.1 2), bScene E (G 3) (Z.2.1 3), bPlan E pl (Z.2.1 4), bPlan E dr (Z.2.1 5), bRumour E (G 6) (Z.2.1 6), bIm E G (Z.2.1 7), bNow E (G 8) (G 10) e1 (Z.2.1 8), bNow E (G 9) (G 11) e2 (Z.2.1 9), bScene E (G 10) (Z.2.1 10), bScene E (G 11) (Z.2.1 11), bPool E e0 (Z.2.2 0), bPool E e1 (Z.2.2 1), bPool E e2 (Z.2.2 2)]) (br := [bModel E a M]) [0, 1, 2, 3, 4, 5, 6, 7, 8, 9, 10, 11, 12, 13, 14, 15] rfl rfl (by decide)
          refine g_i (g_runV (As := [.int (xs (i + 1).toNatClampNeg)]) (rest := []) ⟨hx, hb, hml, hown, ht⟩ hE (c_X5_left E l G pl dr e0 e1 e2 Z (xs (i + 1).toNatClampNeg) _ h) ⟨rfl, rfl⟩ wk_L_69 wi_X5_left ws_X5_left wn_X5 wc_X5_left yd_X5_left ⟨Nat.le_of_ble_eq_true rfl, Nat.le_of_ble_eq_true rfl⟩ hP hD p1 (ci := 5) rfl rfl rfl rfl rfl hl.1 rfl (lv_room (Nat.le_of_ble_eq_true rfl)) dL_law_517 ⟨Nat.le_of_ble_eq_true rfl, Nat.le_of_ble_eq_true rfl⟩) hP hD hS p1 (fun r_82 _ w H locs h hw hP hD hS => ?_)
          subst hw
          clear p1
          have p2 := gB (n := 16) (bs := [bGC G (pl 99) (dr 99) Z.1, bText E (G 1) (Z.2.1 1), bNow E (G 2) (G 3) e0 (Z.2.1 2), bScene E (G 3) (Z.2.1 3), bPlan E pl (Z.2.1 4), bPlan E dr (Z.2.1 5), bRumour E (G 6) (Z.2.1 6), bIm E G (Z.2.1 7), bNow E (G 8) (G 10) e1 (Z.2.1 8), bNow E (G 9) (G 11) e2 (Z.2.1 9), bScene E (G 10) (Z.2.1 10), bScene E (G 11) (Z.2.1 11), bPool E e0 (Z.2.2 0), bPool E e1 (Z.2.2 1), bPool E e2 (Z.2.2 2), bModel E a M]) (bc := [bGC G (pl 99) (dr 99) Z.1, bText E (G 1) (Z.2.1 1), bNow E (G 2) (G 3) e0 (Z.2.1 2), bScene E (G 3) (Z.2.1 3), bPlan E pl (Z.2.1 4), bPlan E dr (Z.2.1 5), bRumour E (G 6) (Z.2.1 6), bIm E G (Z.2.1 7), bNow E (G 8) (G 10) e1 (Z.2.1 8), bNow E (G 9) (G 11) e2 (Z.2.1 9), bScene E (G 10) (Z.2.1 10), bScene E (G 11) (Z.2.1 11), bPool E e0 (Z.2.2 0), bPool E e1 (Z.2.2 1), bPool E e2 (Z.2.2 2)]) (br := [bModel E a M]) [0, 1, 2, 3, 4, 5, 6, 7, 8, 9, 10, 11, 12, 13, 14, 15] rfl rfl (by decide)
          have hP := gP_perm p2.symm hP
          have hD := gD_perm p2.symm hD
          clear p2
          refine lv_aload_n hx hb dL_law_520 rfl (lv_at hl 2 rfl) ?_
          refine lv_aload_n hx hb dL_law_521 rfl (lv_at hl 0 rfl) ?_
          refine lv_iload_n hx hb dL_law_522 rfl (lv_at hl 3 rfl) ?_
          refine lv_iconst (v := 1) hx hb dL_law_523 (by decide) ?_
          refine lv_iadd hx hb dL_law_524 ?_
          refine va_sld hx hb hX hbl hbA hS h.1 dL_law_525 ?_
          have h := h.2
          have p1 := gB (n := 16) (bs := [bGC G (pl 99) (dr 99) Z.1, bText E (G 1) (Z.2.1 1), bNow E (G 2) (G 3) e0 (Z.2.1 2), bScene E (G 3) (Z.2.1 3), bPlan E pl (Z.2.1 4), bPlan E dr (Z.2.1 5), bRumour E (G 6) (Z.2.1 6), bIm E G (Z.2.1 7), bNow E (G 8) (G 10) e1 (Z.2.1 8), bNow E (G 9) (G 11) e2 (Z.2.1 9), bScene E (G 10) (Z.2.1 10), bScene E (G 11) (Z.2.1 11), bPool E e0 (Z.2.2 0), bPool E e1 (Z.2.2 1), bPool E e2 (Z.2.2 2), bModel E a M]) (bc := [bModel E a M]) (br := [bGC G (pl 99) (dr 99) Z.1, bText E (G 1) (Z.2.1 1), bNow E (G 2) (G 3) e0 (Z.2.1 2), bScene E (G 3) (Z.2.1 3), bPlan E pl (Z.2.1 4), bPlan E dr (Z.2.1 5), bRumour E (G 6) (Z.2.1 6), bIm E G (Z.2.1 7), bNow E (G 8) (G 10) e1 (Z.2.1 8), bNow E (G 9) (G 11) e2 (Z.2.1 9), bScene E (G 10) (Z.2.1 10), bScene E (G 11) (Z.2.1 11), bPool E e0 (Z.2.2 0), bPool E e1 (Z.2.2 1), bPool E e2 (Z.2.2 2)]) [15, 0, 1, 2, 3, 4, 5, 6, 7, 8, 9, 10, 11, 12, 13, 14] rfl rfl (by decide)
          refine g_i (g_runV (As := [.int (xs (i + 1).toNatClampNeg)]) (rest := [.int r_82]) ⟨hx, hb, hml, hown, ht⟩ hE (c_X6_left E l a M (xs (i + 1).toNatClampNeg) _ h) ⟨rfl, rfl⟩ wk_L_72 wi_X6_left ws_X6_left wn_X6 wc_X6_left yd_X6_left ⟨Nat.le_of_ble_eq_true rfl, Nat.le_of_ble_eq_true rfl⟩ hP hD p1 (ci := 6) rfl rfl rfl rfl rfl hl.1 rfl (lv_room (Nat.le_of_ble_eq_true rfl)) dL_law_526 ⟨Nat.le_of_ble_eq_true rfl, Nat.le_of_ble_eq_true rfl⟩) hP hD hS p1 (fun r_83 _ w H locs h hw hP hD hS => ?_)
          subst hw
          clear p1
          have p2 := gB (n := 16) (bs := [bGC G (pl 99) (dr 99) Z.1, bText E (G 1) (Z.2.1 1), bNow E (G 2) (G 3) e0 (Z.2.1 2), bScene E (G 3) (Z.2.1 3), bPlan E pl (Z.2.1 4), bPlan E dr (Z.2.1 5), bRumour E (G 6) (Z.2.1 6), bIm E G (Z.2.1 7), bNow E (G 8) (G 10) e1 (Z.2.1 8), bNow E (G 9) (G 11) e2 (Z.2.1 9), bScene E (G 10) (Z.2.1 10), bScene E (G 11) (Z.2.1 11), bPool E e0 (Z.2.2 0), bPool E e1 (Z.2.2 1), bPool E e2 (Z.2.2 2), bModel E a M]) (bc := [bModel E a M]) (br := [bGC G (pl 99) (dr 99) Z.1, bText E (G 1) (Z.2.1 1), bNow E (G 2) (G 3) e0 (Z.2.1 2), bScene E (G 3) (Z.2.1 3), bPlan E pl (Z.2.1 4), bPlan E dr (Z.2.1 5), bRumour E (G 6) (Z.2.1 6), bIm E G (Z.2.1 7), bNow E (G 8) (G 10) e1 (Z.2.1 8), bNow E (G 9) (G 11) e2 (Z.2.1 9), bScene E (G 10) (Z.2.1 10), bScene E (G 11) (Z.2.1 11), bPool E e0 (Z.2.2 0), bPool E e1 (Z.2.2 1), bPool E e2 (Z.2.2 2)]) [15, 0, 1, 2, 3, 4, 5, 6, 7, 8, 9, 10, 11, 12, 13, 14] rfl rfl (by decide)
          have hP := gP_perm p2.symm hP
          have hD := gD_perm p2.symm hD
          clear p2
          refine lv_icmp_eq (tgt := 821) hx hb dL_law_529 (by decide) (fun c_84 => ?_) (fun c_84 => ?_)
          · have h := h.1 c_84
            refine lv_iinc (v := (i + 4)) (lv' := [(3, .int (i + 4)), (0, .ref b), (1, .ref (G 0 99)), (2, .ref (a 99))]) hx hb dL_law_821 hl (k := 3) rfl rfl (by decide) rfl (fun ls hl => ?_)
            refine lv_goto (tgt := 18) hx hb dL_law_824 (by decide) ?_
            exact ih (i + 4) Z M pl dr e0 _ _ _ h hP hD hS (lv_sub hl [1, 2, 3, 0] rfl)
          · have h := h.2 c_84
            refine lv_iconst (v := 0) hx hb dL_law_532 (by decide) ?_
            exact h.elim
        · have h := h.2.2.2.2.2.2.2.2.2.2.2.2.2.2.1 c
          refine lv_asi c ?_
          refine lv_tableIn (off := 502) (tgt := 534) hx hb dL_law_32 (by decide) (by decide) rfl (by decide) ?_
          refine lv_aload_n hx hb dL_law_534 rfl (lv_at hl 1 rfl) ?_
          refine lv_aload_n hx hb dL_law_535 rfl (lv_at hl 0 rfl) ?_
          refine lv_iload_n hx hb dL_law_536 rfl (lv_at hl 3 rfl) ?_
          refine lv_iconst (v := 1) hx hb dL_law_537 (by decide) ?_
          refine lv_iadd hx hb dL_law_538 ?_
          refine va_sld hx hb hX hbl hbA hS h.1 dL_law_539 ?_
          have h := h.2
          have p1 := gB (n := 16) (bs := [bGC G (pl 99) (dr 99) Z.1, bText E (G 1) (Z.2.1 1), bNow E (G 2) (G 3) e0 (Z.2.1 2), bScene E (G 3) (Z.2.1 3), bPlan E pl (Z.2.1 4), bPlan E dr (Z.2.1 5), bRumour E (G 6) (Z.2.1 6), bIm E G (Z.2.1 7), bNow E (G 8) (G 10) e1 (Z.2.1 8), bNow E (G 9) (G 11) e2 (Z.2.1 9), bScene E (G 10) (Z.2.1 10), bScene E (G 11) (Z.2.1 11), bPool E e0 (Z.2.2 0), bPool E e1 (Z.2.2 1), bPool E e2 (Z.2.2 2), bModel E a M]) (bc := [bGC G (pl 99) (dr 99) Z.1, bText E (G 1) (Z.2.1 1), bNow E (G 2) (G 3) e0 (Z.2.1 2), bScene E (G 3) (Z.2.1 3), bPlan E pl (Z.2.1 4), bPlan E dr (Z.2.1 5), bRumour E (G 6) (Z.2.1 6), bIm E G (Z.2.1 7), bNow E (G 8) (G 10) e1 (Z.2.1 8), bNow E (G 9) (G 11) e2 (Z.2.1 9), bScene E (G 10) (Z.2.1 10), bScene E (G 11) (Z.2.1 11), bPool E e0 (Z.2.2 0), bPool E e1 (Z.2.2 1), bPool E e2 (Z.2.2 2)]) (br := [bModel E a M]) [0, 1, 2, 3, 4, 5, 6, 7, 8, 9, 10, 11, 12, 13, 14, 15] rfl rfl (by decide)
          refine g_i (g_runV (As := [.int (xs (i + 1).toNatClampNeg)]) (rest := []) ⟨hx, hb, hml, hown, ht⟩ hE (c_X5_jam E l G pl dr e0 e1 e2 Z (xs (i + 1).toNatClampNeg) _ h) ⟨rfl, rfl⟩ wk_L_73 wi_X5_jam ws_X5_jam wn_X5 wc_X5_jam yd_X5_jam ⟨Nat.le_of_ble_eq_true rfl, Nat.le_of_ble_eq_true rfl⟩ hP hD p1 (ci := 5) rfl rfl rfl rfl rfl hl.1 rfl (lv_room (Nat.le_of_ble_eq_true rfl)) dL_law_540 ⟨Nat.le_of_ble_eq_true rfl, Nat.le_of_ble_eq_true rfl⟩) hP hD hS p1 (fun r_85 _ w H locs h hw hP hD hS => ?_)
          subst hw
          clear p1
          have p2 := gB (n := 16) (bs := [bGC G (pl 99) (dr 99) Z.1, bText E (G 1) (Z.2.1 1), bNow E (G 2) (G 3) e0 (Z.2.1 2), bScene E (G 3) (Z.2.1 3), bPlan E pl (Z.2.1 4), bPlan E dr (Z.2.1 5), bRumour E (G 6) (Z.2.1 6), bIm E G (Z.2.1 7), bNow E (G 8) (G 10) e1 (Z.2.1 8), bNow E (G 9) (G 11) e2 (Z.2.1 9), bScene E (G 10) (Z.2.1 10), bScene E (G 11) (Z.2.1 11), bPool E e0 (Z.2.2 0), bPool E e1 (Z.2.2 1), bPool E e2 (Z.2.2 2), bModel E a M]) (bc := [bGC G (pl 99) (dr 99) Z.1, bText E (G 1) (Z.2.1 1), bNow E (G 2) (G 3) e0 (Z.2.1 2), bScene E (G 3) (Z.2.1 3), bPlan E pl (Z.2.1 4), bPlan E dr (Z.2.1 5), bRumour E (G 6) (Z.2.1 6), bIm E G (Z.2.1 7), bNow E (G 8) (G 10) e1 (Z.2.1 8), bNow E (G 9) (G 11) e2 (Z.2.1 9), bScene E (G 10) (Z.2.1 10), bScene E (G 11) (Z.2.1 11), bPool E e0 (Z.2.2 0), bPool E e1 (Z.2.2 1), bPool E e2 (Z.2.2 2)]) (br := [bModel E a M]) [0, 1, 2, 3, 4, 5, 6, 7, 8, 9, 10, 11, 12, 13, 14, 15] rfl rfl (by decide)
          have hP := gP_perm p2.symm hP
          have hD := gD_perm p2.symm hD
          clear p2
          refine lv_aload_n hx hb dL_law_543 rfl (lv_at hl 2 rfl) ?_
          refine lv_aload_n hx hb dL_law_544 rfl (lv_at hl 0 rfl) ?_
          refine lv_iload_n hx hb dL_law_545 rfl (lv_at hl 3 rfl) ?_
          refine lv_iconst (v := 1) hx hb dL_law_546 (by decide) ?_
          refine lv_iadd hx hb dL_law_547 ?_
          refine va_sld hx hb hX hbl hbA hS h.1 dL_law_548 ?_
          have h := h.2
          have p1 := gB (n := 16) (bs := [bGC G (pl 99) (dr 99) Z.1, bText E (G 1) (Z.2.1 1), bNow E (G 2) (G 3) e0 (Z.2.1 2), bScene E (G 3) (Z.2.1 3), bPlan E pl (Z.2.1 4), bPlan E dr (Z.2.1 5), bRumour E (G 6) (Z.2.1 6), bIm E G (Z.2.1 7), bNow E (G 8) (G 10) e1 (Z.2.1 8), bNow E (G 9) (G 11) e2 (Z.2.1 9), bScene E (G 10) (Z.2.1 10), bScene E (G 11) (Z.2.1 11), bPool E e0 (Z.2.2 0), bPool E e1 (Z.2.2 1), bPool E e2 (Z.2.2 2), bModel E a M]) (bc := [bModel E a M]) (br := [bGC G (pl 99) (dr 99) Z.1, bText E (G 1) (Z.2.1 1), bNow E (G 2) (G 3) e0 (Z.2.1 2), bScene E (G 3) (Z.2.1 3), bPlan E pl (Z.2.1 4), bPlan E dr (Z.2.1 5), bRumour E (G 6) (Z.2.1 6), bIm E G (Z.2.1 7), bNow E (G 8) (G 10) e1 (Z.2.1 8), bNow E (G 9) (G 11) e2 (Z.2.1 9), bScene E (G 10) (Z.2.1 10), bScene E (G 11) (Z.2.1 11), bPool E e0 (Z.2.2 0), bPool E e1 (Z.2.2 1), bPool E e2 (Z.2.2 2)]) [15, 0, 1, 2, 3, 4, 5, 6, 7, 8, 9, 10, 11, 12, 13, 14] rfl rfl (by decide)
          refine g_i (g_runV (As := [.int (xs (i + 1).toNatClampNeg)]) (rest := [.int r_85]) ⟨hx, hb, hml, hown, ht⟩ hE (c_X6_jam E l a M (xs (i + 1).toNatClampNeg) _ h) ⟨rfl, rfl⟩ wk_L_76 wi_X6_jam ws_X6_jam wn_X6 wc_X6_jam yd_X6_jam ⟨Nat.le_of_ble_eq_true rfl, Nat.le_of_ble_eq_true rfl⟩ hP hD p1 (ci := 6) rfl rfl rfl rfl rfl hl.1 rfl (lv_room (Nat.le_of_ble_eq_true rfl)) dL_law_549 ⟨Nat.le_of_ble_eq_true rfl, Nat.le_of_ble_eq_true rfl⟩) hP hD hS p1 (fun r_86 _ w H locs h hw hP hD hS => ?_)
          subst hw
          clear p1
          have p2 := gB (n := 16) (bs := [bGC G (pl 99) (dr 99) Z.1, bText E (G 1) (Z.2.1 1), bNow E (G 2) (G 3) e0 (Z.2.1 2), bScene E (G 3) (Z.2.1 3), bPlan E pl (Z.2.1 4), bPlan E dr (Z.2.1 5), bRumour E (G 6) (Z.2.1 6), bIm E G (Z.2.1 7), bNow E (G 8) (G 10) e1 (Z.2.1 8), bNow E (G 9) (G 11) e2 (Z.2.1 9), bScene E (G 10) (Z.2.1 10), bScene E (G 11) (Z.2.1 11), bPool E e0 (Z.2.2 0), bPool E e1 (Z.2.2 1), bPool E e2 (Z.2.2 2), bModel E a M]) (bc := [bModel E a M]) (br := [bGC G (pl 99) (dr 99) Z.1, bText E (G 1) (Z.2.1 1), bNow E (G 2) (G 3) e0 (Z.2.1 2), bScene E (G 3) (Z.2.1 3), bPlan E pl (Z.2.1 4), bPlan E dr (Z.2.1 5), bRumour E (G 6) (Z.2.1 6), bIm E G (Z.2.1 7), bNow E (G 8) (G 10) e1 (Z.2.1 8), bNow E (G 9) (G 11) e2 (Z.2.1 9), bScene E (G 10) (Z.2.1 10), bScene E (G 11) (Z.2.1 11), bPool E e0 (Z.2.2 0), bPool E e1 (Z.2.2 1), bPool E e2 (Z.2.2 2)]) [15, 0, 1, 2, 3, 4, 5, 6, 7, 8, 9, 10, 11, 12, 13, 14] rfl rfl (by decide)
          have hP := gP_perm p2.symm hP
          have hD := gD_perm p2.symm hD
          clear p2
          refine lv_icmp_eq (tgt := 821) hx hb dL_law_552 (by decide) (fun c_87 => ?_) (fun c_87 => ?_)
          · have h := h.1 c_87
            refine lv_iinc (v := (i + 4)) (lv' := [(3, .int (i + 4)), (0, .ref b), (1, .ref (G 0 99)), (2, .ref (a 99))]) hx hb dL_law_821 hl (k := 3) rfl rfl (by decide) rfl (fun ls hl => ?_)
            refine lv_goto (tgt := 18) hx hb dL_law_824 (by decide) ?_
            exact ih (i + 4) Z M pl dr e0 _ _ _ h hP hD hS (lv_sub hl [1, 2, 3, 0] rfl)
          · have h := h.2 c_87
            refine lv_iconst (v := 0) hx hb dL_law_555 (by decide) ?_
            exact h.elim
        · have h := h.2.2.2.2.2.2.2.2.2.2.2.2.2.2.2.1 c
          refine lv_asi c ?_
          refine lv_tableIn (off := 525) (tgt := 557) hx hb dL_law_32 (by decide) (by decide) rfl (by decide) ?_
          refine lv_aload_n hx hb dL_law_557 rfl (lv_at hl 1 rfl) ?_
          refine lv_aload_n hx hb dL_law_558 rfl (lv_at hl 0 rfl) ?_
          refine lv_iload_n hx hb dL_law_559 rfl (lv_at hl 3 rfl) ?_
          refine lv_iconst (v := 1) hx hb dL_law_560 (by decide) ?_
          refine lv_iadd hx hb dL_law_561 ?_
          refine va_sld hx hb hX hbl hbA hS h.1 dL_law_562 ?_
          have h := h.2
          refine lv_aload_n hx hb dL_law_563 rfl (lv_at hl 0 rfl) ?_
          refine lv_iload_n hx hb dL_law_564 rfl (lv_at hl 3 rfl) ?_
          refine lv_iconst (v := 2) hx hb dL_law_565 (by decide) ?_
          refine lv_iadd hx hb dL_law_566 ?_
          refine va_sld hx hb hX hbl hbA hS h.1 dL_law_567 ?_
          have h := h.2
          have p1 := gB (n := 16) (bs := [bGC G (pl 99) (dr 99) Z.1, bText E (G 1) (Z.2.1 1), bNow E (G 2) (G 3) e0 (Z.2.1 2), bScene E (G 3) (Z.2.1 3), bPlan E pl (Z.2.1 4), bPlan E dr (Z.2.1 5), bRumour E (G 6) (Z.2.1 6), bIm E G (Z.2.1 7), bNow E (G 8) (G 10) e1 (Z.2.1 8), bNow E (G 9) (G 11) e2 (Z.2.1 9), bScene E (G 10) (Z.2.1 10), bScene E (G 11) (Z.2.1 11), bPool E e0 (Z.2.2 0), bPool E e1 (Z.2.2 1), bPool E e2 (Z.2.2 2), bModel E a M]) (bc := [bGC G (pl 99) (dr 99) Z.1, bText E (G 1) (Z.2.1 1), bNow E (G 2) (G 3) e0 (Z.2.1 2), bScene E (G 3) (Z.2.1 3), bPlan E pl (Z.2.1 4), bPlan E dr (Z.2.1 5), bRumour E (G 6) (Z.2.1 6), bIm E G (Z.2.1 7), bNow E (G 8) (G 10) e1 (Z.2.1 8), bNow E (G 9) (G 11) e2 (Z.2.1 9), bScene E (G 10) (Z.2.1 10), bScene E (G 11) (Z.2.1 11), bPool E e0 (Z.2.2 0), bPool E e1 (Z.2.2 1), bPool E e2 (Z.2.2 2)]) (br := [bModel E a M]) [0, 1, 2, 3, 4, 5, 6, 7, 8, 9, 10, 11, 12, 13, 14, 15] rfl rfl (by decide)
          refine g_i (g_runVF (As := [.int (xs (i + 1).toNatClampNeg), .int (xs (i + 2).toNatClampNeg)]) (rest := []) ⟨hx, hb, hml, hown, ht⟩ hE hF hS (c_X5_near E l t G pl dr e0 e1 e2 Z (xs (i + 1).toNatClampNeg) (xs (i + 2).toNatClampNeg) _ h) ⟨rfl, rfl⟩ wk_L_77 wi_X5_near ws_X5_near wn_X5 wc_X5_near yd_X5_near ⟨Nat.le_of_ble_eq_true rfl, Nat.le_of_ble_eq_true rfl⟩ hP hD p1 (ci := 5) rfl rfl rfl rfl rfl hl.1 rfl (lv_room (Nat.le_of_ble_eq_true rfl)) dL_law_568 ⟨Nat.le_of_ble_eq_true rfl, Nat.le_of_ble_eq_true rfl⟩) hP hD hS p1 (fun r_88 _ w H locs h hw hP hD hS => ?_)
          subst hw
          clear p1
          have p2 := gB (n := 16) (bs := [bGC G (pl 99) (dr 99) Z.1, bText E (G 1) (Z.2.1 1), bNow E (G 2) (G 3) e0 (Z.2.1 2), bScene E (G 3) (Z.2.1 3), bPlan E pl (Z.2.1 4), bPlan E dr (Z.2.1 5), bRumour E (G 6) (Z.2.1 6), bIm E G (Z.2.1 7), bNow E (G 8) (G 10) e1 (Z.2.1 8), bNow E (G 9) (G 11) e2 (Z.2.1 9), bScene E (G 10) (Z.2.1 10), bScene E (G 11) (Z.2.1 11), bPool E e0 (Z.2.2 0), bPool E e1 (Z.2.2 1), bPool E e2 (Z.2.2 2), bModel E a M]) (bc := [bGC G (pl 99) (dr 99) Z.1, bText E (G 1) (Z.2.1 1), bNow E (G 2) (G 3) e0 (Z.2.1 2), bScene E (G 3) (Z.2.1 3), bPlan E pl (Z.2.1 4), bPlan E dr (Z.2.1 5), bRumour E (G 6) (Z.2.1 6), bIm E G (Z.2.1 7), bNow E (G 8) (G 10) e1 (Z.2.1 8), bNow E (G 9) (G 11) e2 (Z.2.1 9), bScene E (G 10) (Z.2.1 10), bScene E (G 11) (Z.2.1 11), bPool E e0 (Z.2.2 0), bPool E e1 (Z.2.2 1), bPool E e2 (Z.2.2 2)]) (br := [bModel E a M]) [0, 1, 2, 3, 4, 5, 6, 7, 8, 9, 10, 11, 12, 13, 14, 15] rfl rfl (by decide)
          have hP := gP_perm p2.symm hP
          have hD := gD_perm p2.symm hD
          clear p2
          refine lv_aload_n hx hb dL_law_571 rfl (lv_at hl 2 rfl) ?_
          refine lv_aload_n hx hb dL_law_572 rfl (lv_at hl 0 rfl) ?_
          refine lv_iload_n hx hb dL_law_573 rfl (lv_at hl 3 rfl) ?_
          refine lv_iconst (v := 1) hx hb dL_law_574 (by decide) ?_
          refine lv_iadd hx hb dL_law_575 ?_
          refine va_sld hx hb hX hbl hbA hS h.1 dL_law_576 ?_
          have h := h.2
          refine lv_aload_n hx hb dL_law_577 rfl (lv_at hl 0 rfl) ?_
          refine lv_iload_n hx hb dL_law_578 rfl (lv_at hl 3 rfl) ?_
          refine lv_iconst (v := 2) hx hb dL_law_579 (by decide) ?_
          refine lv_iadd hx hb dL_law_580 ?_
          refine va_sld hx hb hX hbl hbA hS h.1 dL_law_581 ?_
          have h := h.2
          have p1 := gB (n := 16) (bs := [bGC G (pl 99) (dr 99) Z.1, bText E (G 1) (Z.2.1 1), bNow E (G 2) (G 3) e0 (Z.2.1 2), bScene E (G 3) (Z.2.1 3), bPlan E pl (Z.2.1 4), bPlan E dr (Z.2.1 5), bRumour E (G 6) (Z.2.1 6), bIm E G (Z.2.1 7), bNow E (G 8) (G 10) e1 (Z.2.1 8), bNow E (G 9) (G 11) e2 (Z.2.1 9), bScene E (G 10) (Z.2.1 10), bScene E (G 11) (Z.2.1 11), bPool E e0 (Z.2.2 0), bPool E e1 (Z.2.2 1), bPool E e2 (Z.2.2 2), bModel E a M]) (bc := [bModel E a M]) (br := [bGC G (pl 99) (dr 99) Z.1, bText E (G 1) (Z.2.1 1), bNow E (G 2) (G 3) e0 (Z.2.1 2), bScene E (G 3) (Z.2.1 3), bPlan E pl (Z.2.1 4), bPlan E dr (Z.2.1 5), bRumour E (G 6) (Z.2.1 6), bIm E G (Z.2.1 7), bNow E (G 8) (G 10) e1 (Z.2.1 8), bNow E (G 9) (G 11) e2 (Z.2.1 9), bScene E (G 10) (Z.2.1 10), bScene E (G 11) (Z.2.1 11), bPool E e0 (Z.2.2 0), bPool E e1 (Z.2.2 1), bPool E e2 (Z.2.2 2)]) [15, 0, 1, 2, 3, 4, 5, 6, 7, 8, 9, 10, 11, 12, 13, 14] rfl rfl (by decide)
          refine g_i (g_runV (As := [.int (xs (i + 1).toNatClampNeg), .int (xs (i + 2).toNatClampNeg)]) (rest := [.int r_88]) ⟨hx, hb, hml, hown, ht⟩ hE (c_X6_near E l a M (xs (i + 1).toNatClampNeg) (xs (i + 2).toNatClampNeg) _ h) ⟨rfl, rfl⟩ wk_L_80 wi_X6_near ws_X6_near wn_X6 wc_X6_near yd_X6_near ⟨Nat.le_of_ble_eq_true rfl, Nat.le_of_ble_eq_true rfl⟩ hP hD p1 (ci := 6) rfl rfl rfl rfl rfl hl.1 rfl (lv_room (Nat.le_of_ble_eq_true rfl)) dL_law_582 ⟨Nat.le_of_ble_eq_true rfl, Nat.le_of_ble_eq_true rfl⟩) hP hD hS p1 (fun r_89 _ w H locs h hw hP hD hS => ?_)
          subst hw
          clear p1
          have p2 := gB (n := 16) (bs := [bGC G (pl 99) (dr 99) Z.1, bText E (G 1) (Z.2.1 1), bNow E (G 2) (G 3) e0 (Z.2.1 2), bScene E (G 3) (Z.2.1 3), bPlan E pl (Z.2.1 4), bPlan E dr (Z.2.1 5), bRumour E (G 6) (Z.2.1 6), bIm E G (Z.2.1 7), bNow E (G 8) (G 10) e1 (Z.2.1 8), bNow E (G 9) (G 11) e2 (Z.2.1 9), bScene E (G 10) (Z.2.1 10), bScene E (G 11) (Z.2.1 11), bPool E e0 (Z.2.2 0), bPool E e1 (Z.2.2 1), bPool E e2 (Z.2.2 2), bModel E a M]) (bc := [bModel E a M]) (br := [bGC G (pl 99) (dr 99) Z.1, bText E (G 1) (Z.2.1 1), bNow E (G 2) (G 3) e0 (Z.2.1 2), bScene E (G 3) (Z.2.1 3), bPlan E pl (Z.2.1 4), bPlan E dr (Z.2.1 5), bRumour E (G 6) (Z.2.1 6), bIm E G (Z.2.1 7), bNow E (G 8) (G 10) e1 (Z.2.1 8), bNow E (G 9) (G 11) e2 (Z.2.1 9), bScene E (G 10) (Z.2.1 10), bScene E (G 11) (Z.2.1 11), bPool E e0 (Z.2.2 0), bPool E e1 (Z.2.2 1), bPool E e2 (Z.2.2 2)]) [15, 0, 1, 2, 3, 4, 5, 6, 7, 8, 9, 10, 11, 12, 13, 14] rfl rfl (by decide)
          have hP := gP_perm p2.symm hP
          have hD := gD_perm p2.symm hD
          clear p2
          refine lv_icmp_eq (tgt := 821) hx hb dL_law_585 (by decide) (fun c_90 => ?_) (fun c_90 => ?_)
          · have h := h.1 c_90
            refine lv_iinc (v := (i + 4)) (lv' := [(3, .int (i + 4)), (0, .ref b), (1, .ref (G 0 99)), (2, .ref (a 99))]) hx hb dL_law_821 hl (k := 3) rfl rfl (by decide) rfl (fun ls hl => ?_)
            refine lv_goto (tgt := 18) hx hb dL_law_824 (by decide) ?_
            exact ih (i + 4) Z M pl dr e0 _ _ _ h hP hD hS (lv_sub hl [1, 2, 3, 0] rfl)
          · have h := h.2 c_90
            refine lv_iconst (v := 0) hx hb dL_law_588 (by decide) ?_
            exact h.elim
        · have h := h.2.2.2.2.2.2.2.2.2.2.2.2.2.2.2.2.1 c
          refine lv_asi c ?_
          refine lv_tableIn (off := 558) (tgt := 590) hx hb dL_law_32 (by decide) (by decide) rfl (by decide) ?_
          refine lv_aload_n hx hb dL_law_590 rfl (lv_at hl 1 rfl) ?_
          refine lv_aload_n hx hb dL_law_591 rfl (lv_at hl 0 rfl) ?_
          refine lv_iload_n hx hb dL_law_592 rfl (lv_at hl 3 rfl) ?_
          refine lv_iconst (v := 1) hx hb dL_law_593 (by decide) ?_
          refine lv_iadd hx hb dL_law_594 ?_
          refine va_sld hx hb hX hbl hbA hS h.1 dL_law_595 ?_
          have h := h.2
          refine lv_aload_n hx hb dL_law_596 rfl (lv_at hl 0 rfl) ?_
          refine lv_iload_n hx hb dL_law_597 rfl (lv_at hl 3 rfl) ?_
          refine lv_iconst (v := 2) hx hb dL_law_598 (by decide) ?_
          refine lv_iadd hx hb dL_law_599 ?_
          refine va_sld hx hb hX hbl hbA hS h.1 dL_law_600 ?_
          have h := h.2
          have p1 := gB (n := 16) (bs := [bGC G (pl 99) (dr 99) Z.1, bText E (G 1) (Z.2.1 1), bNow E (G 2) (G 3) e0 (Z.2.1 2), bScene E (G 3) (Z.2.1 3), bPlan E pl (Z.2.1 4), bPlan E dr (Z.2.1 5), bRumour E (G 6) (Z.2.1 6), bIm E G (Z.2.1 7), bNow E (G 8) (G 10) e1 (Z.2.1 8), bNow E (G 9) (G 11) e2 (Z.2.1 9), bScene E (G 10) (Z.2.1 10), bScene E (G 11) (Z.2.1 11), bPool E e0 (Z.2.2 0), bPool E e1 (Z.2.2 1), bPool E e2 (Z.2.2 2), bModel E a M]) (bc := [bGC G (pl 99) (dr 99) Z.1, bText E (G 1) (Z.2.1 1), bNow E (G 2) (G 3) e0 (Z.2.1 2), bScene E (G 3) (Z.2.1 3), bPlan E pl (Z.2.1 4), bPlan E dr (Z.2.1 5), bRumour E (G 6) (Z.2.1 6), bIm E G (Z.2.1 7), bNow E (G 8) (G 10) e1 (Z.2.1 8), bNow E (G 9) (G 11) e2 (Z.2.1 9), bScene E (G 10) (Z.2.1 10), bScene E (G 11) (Z.2.1 11), bPool E e0 (Z.2.2 0), bPool E e1 (Z.2.2 1), bPool E e2 (Z.2.2 2)]) (br := [bModel E a M]) [0, 1, 2, 3, 4, 5, 6, 7, 8, 9, 10, 11, 12, 13, 14, 15] rfl rfl (by decide)
          refine g_i (g_runV (As := [.int (xs (i + 1).toNatClampNeg), .int (xs (i + 2).toNatClampNeg)]) (rest := []) ⟨hx, hb, hml, hown, ht⟩ hE (c_X5_odds E l G pl dr e0 e1 e2 Z (xs (i + 1).toNatClampNeg) (xs (i + 2).toNatClampNeg) _ h) ⟨rfl, rfl⟩ wk_L_81 wi_X5_odds ws_X5_odds wn_X5 wc_X5_odds yd_X5_odds ⟨Nat.le_of_ble_eq_true rfl, Nat.le_of_ble_eq_true rfl⟩ hP hD p1 (ci := 5) rfl rfl rfl rfl rfl hl.1 rfl (lv_room (Nat.le_of_ble_eq_true rfl)) dL_law_601 ⟨Nat.le_of_ble_eq_true rfl, Nat.le_of_ble_eq_true rfl⟩) hP hD hS p1 (fun r_91 _ w H locs h hw hP hD hS => ?_)
          subst hw
          clear p1
          have p2 := gB (n := 16) (bs := [bGC G (pl 99) (dr 99) Z.1, bText E (G 1) (Z.2.1 1), bNow E (G 2) (G 3) e0 (Z.2.1 2), bScene E (G 3) (Z.2.1 3), bPlan E pl (Z.2.1 4), bPlan E dr (Z.2.1 5), bRumour E (G 6) (Z.2.1 6), bIm E G (Z.2.1 7), bNow E (G 8) (G 10) e1 (Z.2.1 8), bNow E (G 9) (G 11) e2 (Z.2.1 9), bScene E (G 10) (Z.2.1 10), bScene E (G 11) (Z.2.1 11), bPool E e0 (Z.2.2 0), bPool E e1 (Z.2.2 1), bPool E e2 (Z.2.2 2), bModel E a M]) (bc := [bGC G (pl 99) (dr 99) Z.1, bText E (G 1) (Z.2.1 1), bNow E (G 2) (G 3) e0 (Z.2.1 2), bScene E (G 3) (Z.2.1 3), bPlan E pl (Z.2.1 4), bPlan E dr (Z.2.1 5), bRumour E (G 6) (Z.2.1 6), bIm E G (Z.2.1 7), bNow E (G 8) (G 10) e1 (Z.2.1 8), bNow E (G 9) (G 11) e2 (Z.2.1 9), bScene E (G 10) (Z.2.1 10), bScene E (G 11) (Z.2.1 11), bPool E e0 (Z.2.2 0), bPool E e1 (Z.2.2 1), bPool E e2 (Z.2.2 2)]) (br := [bModel E a M]) [0, 1, 2, 3, 4, 5, 6, 7, 8, 9, 10, 11, 12, 13, 14, 15] rfl rfl (by decide)
          have hP := gP_perm p2.symm hP
          have hD := gD_perm p2.symm hD
          clear p2
          refine lv_aload_n hx hb dL_law_604 rfl (lv_at hl 2 rfl) ?_
          refine lv_aload_n hx hb dL_law_605 rfl (lv_at hl 0 rfl) ?_
          refine lv_iload_n hx hb dL_law_606 rfl (lv_at hl 3 rfl) ?_
          refine lv_iconst (v := 1) hx hb dL_law_607 (by decide) ?_
          refine lv_iadd hx hb dL_law_608 ?_
          refine va_sld hx hb hX hbl hbA hS h.1 dL_law_609 ?_
          have h := h.2
          refine lv_aload_n hx hb dL_law_610 rfl (lv_at hl 0 rfl) ?_
          refine lv_iload_n hx hb dL_law_611 rfl (lv_at hl 3 rfl) ?_
          refine lv_iconst (v := 2) hx hb dL_law_612 (by decide) ?_
          refine lv_iadd hx hb dL_law_613 ?_
          refine va_sld hx hb hX hbl hbA hS h.1 dL_law_614 ?_
          have h := h.2
          have p1 := gB (n := 16) (bs := [bGC G (pl 99) (dr 99) Z.1, bText E (G 1) (Z.2.1 1), bNow E (G 2) (G 3) e0 (Z.2.1 2), bScene E (G 3) (Z.2.1 3), bPlan E pl (Z.2.1 4), bPlan E dr (Z.2.1 5), bRumour E (G 6) (Z.2.1 6), bIm E G (Z.2.1 7), bNow E (G 8) (G 10) e1 (Z.2.1 8), bNow E (G 9) (G 11) e2 (Z.2.1 9), bScene E (G 10) (Z.2.1 10), bScene E (G 11) (Z.2.1 11), bPool E e0 (Z.2.2 0), bPool E e1 (Z.2.2 1), bPool E e2 (Z.2.2 2), bModel E a M]) (bc := [bModel E a M]) (br := [bGC G (pl 99) (dr 99) Z.1, bText E (G 1) (Z.2.1 1), bNow E (G 2) (G 3) e0 (Z.2.1 2), bScene E (G 3) (Z.2.1 3), bPlan E pl (Z.2.1 4), bPlan E dr (Z.2.1 5), bRumour E (G 6) (Z.2.1 6), bIm E G (Z.2.1 7), bNow E (G 8) (G 10) e1 (Z.2.1 8), bNow E (G 9) (G 11) e2 (Z.2.1 9), bScene E (G 10) (Z.2.1 10), bScene E (G 11) (Z.2.1 11), bPool E e0 (Z.2.2 0), bPool E e1 (Z.2.2 1), bPool E e2 (Z.2.2 2)]) [15, 0, 1, 2, 3, 4, 5, 6, 7, 8, 9, 10, 11, 12, 13, 14] rfl rfl (by decide)
          refine g_i (g_runV (As := [.int (xs (i + 1).toNatClampNeg), .int (xs (i + 2).toNatClampNeg)]) (rest := [.int r_91]) ⟨hx, hb, hml, hown, ht⟩ hE (c_X6_odds E l a M (xs (i + 1).toNatClampNeg) (xs (i + 2).toNatClampNeg) _ h) ⟨rfl, rfl⟩ wk_L_84 wi_X6_odds ws_X6_odds wn_X6 wc_X6_odds yd_X6_odds ⟨Nat.le_of_ble_eq_true rfl, Nat.le_of_ble_eq_true rfl⟩ hP hD p1 (ci := 6) rfl rfl rfl rfl rfl hl.1 rfl (lv_room (Nat.le_of_ble_eq_true rfl)) dL_law_615 ⟨Nat.le_of_ble_eq_true rfl, Nat.le_of_ble_eq_true rfl⟩) hP hD hS p1 (fun r_92 _ w H locs h hw hP hD hS => ?_)
          subst hw
          clear p1
          have p2 := gB (n := 16) (bs := [bGC G (pl 99) (dr 99) Z.1, bText E (G 1) (Z.2.1 1), bNow E (G 2) (G 3) e0 (Z.2.1 2), bScene E (G 3) (Z.2.1 3), bPlan E pl (Z.2.1 4), bPlan E dr (Z.2.1 5), bRumour E (G 6) (Z.2.1 6), bIm E G (Z.2.1 7), bNow E (G 8) (G 10) e1 (Z.2.1 8), bNow E (G 9) (G 11) e2 (Z.2.1 9), bScene E (G 10) (Z.2.1 10), bScene E (G 11) (Z.2.1 11), bPool E e0 (Z.2.2 0), bPool E e1 (Z.2.2 1), bPool E e2 (Z.2.2 2), bModel E a M]) (bc := [bModel E a M]) (br := [bGC G (pl 99) (dr 99) Z.1, bText E (G 1) (Z.2.1 1), bNow E (G 2) (G 3) e0 (Z.2.1 2), bScene E (G 3) (Z.2.1 3), bPlan E pl (Z.2.1 4), bPlan E dr (Z.2.1 5), bRumour E (G 6) (Z.2.1 6), bIm E G (Z.2.1 7), bNow E (G 8) (G 10) e1 (Z.2.1 8), bNow E (G 9) (G 11) e2 (Z.2.1 9), bScene E (G 10) (Z.2.1 10), bScene E (G 11) (Z.2.1 11), bPool E e0 (Z.2.2 0), bPool E e1 (Z.2.2 1), bPool E e2 (Z.2.2 2)]) [15, 0, 1, 2, 3, 4, 5, 6, 7, 8, 9, 10, 11, 12, 13, 14] rfl rfl (by decide)
          have hP := gP_perm p2.symm hP
          have hD := gD_perm p2.symm hD
          clear p2
          refine lv_icmp_eq (tgt := 821) hx hb dL_law_618 (by decide) (fun c_93 => ?_) (fun c_93 => ?_)
          · have h := h.1 c_93
            refine lv_iinc (v := (i + 4)) (lv' := [(3, .int (i + 4)), (0, .ref b), (1, .ref (G 0 99)), (2, .ref (a 99))]) hx hb dL_law_821 hl (k := 3) rfl rfl (by decide) rfl (fun ls hl => ?_)
            refine lv_goto (tgt := 18) hx hb dL_law_824 (by decide) ?_
            exact ih (i + 4) Z M pl dr e0 _ _ _ h hP hD hS (lv_sub hl [1, 2, 3, 0] rfl)
          · have h := h.2 c_93
            refine lv_iconst (v := 0) hx hb dL_law_621 (by decide) ?_
            exact h.elim
        · have h := h.2.2.2.2.2.2.2.2.2.2.2.2.2.2.2.2.2.1 c
          refine lv_asi c ?_
          refine lv_tableIn (off := 591) (tgt := 623) hx hb dL_law_32 (by decide) (by decide) rfl (by decide) ?_
          refine lv_aload_n hx hb dL_law_623 rfl (lv_at hl 1 rfl) ?_
          refine lv_aload_n hx hb dL_law_624 rfl (lv_at hl 0 rfl) ?_
          refine lv_iload_n hx hb dL_law_625 rfl (lv_at hl 3 rfl) ?_
          refine lv_iconst (v := 1) hx hb dL_law_626 (by decide) ?_
          refine lv_iadd hx hb dL_law_627 ?_
          refine va_sld hx hb hX hbl hbA hS h.1 dL_law_628 ?_
          have h := h.2
          refine lv_aload_n hx hb dL_law_629 rfl (lv_at hl 0 rfl) ?_
          refine lv_iload_n hx hb dL_law_630 rfl (lv_at hl 3 rfl) ?_
          refine lv_iconst (v := 2) hx hb dL_law_631 (by decide) ?_
          refine lv_iadd hx hb dL_law_632 ?_
          refine va_sld hx hb hX hbl hbA hS h.1 dL_law_633 ?_
          have h := h.2
          have p1 := gB (n := 16) (bs := [bGC G (pl 99) (dr 99) Z.1, bText E (G 1) (Z.2.1 1), bNow E (G 2) (G 3) e0 (Z.2.1 2), bScene E (G 3) (Z.2.1 3), bPlan E pl (Z.2.1 4), bPlan E dr (Z.2.1 5), bRumour E (G 6) (Z.2.1 6), bIm E G (Z.2.1 7), bNow E (G 8) (G 10) e1 (Z.2.1 8), bNow E (G 9) (G 11) e2 (Z.2.1 9), bScene E (G 10) (Z.2.1 10), bScene E (G 11) (Z.2.1 11), bPool E e0 (Z.2.2 0), bPool E e1 (Z.2.2 1), bPool E e2 (Z.2.2 2), bModel E a M]) (bc := [bGC G (pl 99) (dr 99) Z.1, bText E (G 1) (Z.2.1 1), bNow E (G 2) (G 3) e0 (Z.2.1 2), bScene E (G 3) (Z.2.1 3), bPlan E pl (Z.2.1 4), bPlan E dr (Z.2.1 5), bRumour E (G 6) (Z.2.1 6), bIm E G (Z.2.1 7), bNow E (G 8) (G 10) e1 (Z.2.1 8), bNow E (G 9) (G 11) e2 (Z.2.1 9), bScene E (G 10) (Z.2.1 10), bScene E (G 11) (Z.2.1 11), bPool E e0 (Z.2.2 0), bPool E e1 (Z.2.2 1), bPool E e2 (Z.2.2 2)]) (br := [bModel E a M]) [0, 1, 2, 3, 4, 5, 6, 7, 8, 9, 10, 11, 12, 13, 14, 15] rfl rfl (by decide)
          refine g_i (g_runV (As := [.int (xs (i + 1).toNatClampNeg), .int (xs (i + 2).toNatClampNeg)]) (rest := []) ⟨hx, hb, hml, hown, ht⟩ hE (c_X5_hears E l G pl dr e0 e1 e2 Z (xs (i + 1).toNatClampNeg) (xs (i + 2).toNatClampNeg) _ h) ⟨rfl, rfl⟩ wk_L_85 wi_X5_hears ws_X5_hears wn_X5 wc_X5_hears yd_X5_hears ⟨Nat.le_of_ble_eq_true rfl, Nat.le_of_ble_eq_true rfl⟩ hP hD p1 (ci := 5) rfl rfl rfl rfl rfl hl.1 rfl (lv_room (Nat.le_of_ble_eq_true rfl)) dL_law_634 ⟨Nat.le_of_ble_eq_true rfl, Nat.le_of_ble_eq_true rfl⟩) hP hD hS p1 (fun r_94 Z_95 w H locs h hw hP hD hS => ?_)
          subst hw
          clear p1
          have p2 := gB (n := 16) (bs := [bGC G (pl 99) (dr 99) Z_95.1, bText E (G 1) (Z_95.2.1 1), bNow E (G 2) (G 3) e0 (Z_95.2.1 2), bScene E (G 3) (Z_95.2.1 3), bPlan E pl (Z_95.2.1 4), bPlan E dr (Z_95.2.1 5), bRumour E (G 6) (Z_95.2.1 6), bIm E G (Z_95.2.1 7), bNow E (G 8) (G 10) e1 (Z_95.2.1 8), bNow E (G 9) (G 11) e2 (Z_95.2.1 9), bScene E (G 10) (Z_95.2.1 10), bScene E (G 11) (Z_95.2.1 11), bPool E e0 (Z_95.2.2 0), bPool E e1 (Z_95.2.2 1), bPool E e2 (Z_95.2.2 2), bModel E a M]) (bc := [bGC G (pl 99) (dr 99) Z_95.1, bText E (G 1) (Z_95.2.1 1), bNow E (G 2) (G 3) e0 (Z_95.2.1 2), bScene E (G 3) (Z_95.2.1 3), bPlan E pl (Z_95.2.1 4), bPlan E dr (Z_95.2.1 5), bRumour E (G 6) (Z_95.2.1 6), bIm E G (Z_95.2.1 7), bNow E (G 8) (G 10) e1 (Z_95.2.1 8), bNow E (G 9) (G 11) e2 (Z_95.2.1 9), bScene E (G 10) (Z_95.2.1 10), bScene E (G 11) (Z_95.2.1 11), bPool E e0 (Z_95.2.2 0), bPool E e1 (Z_95.2.2 1), bPool E e2 (Z_95.2.2 2)]) (br := [bModel E a M]) [0, 1, 2, 3, 4, 5, 6, 7, 8, 9, 10, 11, 12, 13, 14, 15] rfl rfl (by decide)
          have hP := gP_perm p2.symm hP
          have hD := gD_perm p2.symm hD
          clear p2
          refine lv_aload_n hx hb dL_law_637 rfl (lv_at hl 2 rfl) ?_
          refine lv_aload_n hx hb dL_law_638 rfl (lv_at hl 0 rfl) ?_
          refine lv_iload_n hx hb dL_law_639 rfl (lv_at hl 3 rfl) ?_
          refine lv_iconst (v := 1) hx hb dL_law_640 (by decide) ?_
          refine lv_iadd hx hb dL_law_641 ?_
          refine va_sld hx hb hX hbl hbA hS h.1 dL_law_642 ?_
          have h := h.2
          refine lv_aload_n hx hb dL_law_643 rfl (lv_at hl 0 rfl) ?_
          refine lv_iload_n hx hb dL_law_644 rfl (lv_at hl 3 rfl) ?_
          refine lv_iconst (v := 2) hx hb dL_law_645 (by decide) ?_
          refine lv_iadd hx hb dL_law_646 ?_
          refine va_sld hx hb hX hbl hbA hS h.1 dL_law_647 ?_
          have h := h.2
          have p1 := gB (n := 16) (bs := [bGC G (pl 99) (dr 99) Z_95.1, bText E (G 1) (Z_95.2.1 1), bNow E (G 2) (G 3) e0 (Z_95.2.1 2), bScene E (G 3) (Z_95.2.1 3), bPlan E pl (Z_95.2.1 4), bPlan E dr (Z_95.2.1 5), bRumour E (G 6) (Z_95.2.1 6), bIm E G (Z_95.2.1 7), bNow E (G 8) (G 10) e1 (Z_95.2.1 8), bNow E (G 9) (G 11) e2 (Z_95.2.1 9), bScene E (G 10) (Z_95.2.1 10), bScene E (G 11) (Z_95.2.1 11), bPool E e0 (Z_95.2.2 0), bPool E e1 (Z_95.2.2 1), bPool E e2 (Z_95.2.2 2), bModel E a M]) (bc := [bModel E a M]) (br := [bGC G (pl 99) (dr 99) Z_95.1, bText E (G 1) (Z_95.2.1 1), bNow E (G 2) (G 3) e0 (Z_95.2.1 2), bScene E (G 3) (Z_95.2.1 3), bPlan E pl (Z_95.2.1 4), bPlan E dr (Z_95.2.1 5), bRumour E (G 6) (Z_95.2.1 6), bIm E G (Z_95.2.1 7), bNow E (G 8) (G 10) e1 (Z_95.2.1 8), bNow E (G 9) (G 11) e2 (Z_95.2.1 9), bScene E (G 10) (Z_95.2.1 10), bScene E (G 11) (Z_95.2.1 11), bPool E e0 (Z_95.2.2 0), bPool E e1 (Z_95.2.2 1), bPool E e2 (Z_95.2.2 2)]) [15, 0, 1, 2, 3, 4, 5, 6, 7, 8, 9, 10, 11, 12, 13, 14] rfl rfl (by decide)
          refine g_i (g_runV (As := [.int (xs (i + 1).toNatClampNeg), .int (xs (i + 2).toNatClampNeg)]) (rest := [.int r_94]) ⟨hx, hb, hml, hown, ht⟩ hE (c_X6_hears E l a M (xs (i + 1).toNatClampNeg) (xs (i + 2).toNatClampNeg) _ h) ⟨rfl, rfl⟩ wk_L_88 wi_X6_hears ws_X6_hears wn_X6 wc_X6_hears yd_X6_hears ⟨Nat.le_of_ble_eq_true rfl, Nat.le_of_ble_eq_true rfl⟩ hP hD p1 (ci := 6) rfl rfl rfl rfl rfl hl.1 rfl (lv_room (Nat.le_of_ble_eq_true rfl)) dL_law_648 ⟨Nat.le_of_ble_eq_true rfl, Nat.le_of_ble_eq_true rfl⟩) hP hD hS p1 (fun r_96 M_97 w H locs h hw hP hD hS => ?_)
          subst hw
          clear p1
          have p2 := gB (n := 16) (bs := [bGC G (pl 99) (dr 99) Z_95.1, bText E (G 1) (Z_95.2.1 1), bNow E (G 2) (G 3) e0 (Z_95.2.1 2), bScene E (G 3) (Z_95.2.1 3), bPlan E pl (Z_95.2.1 4), bPlan E dr (Z_95.2.1 5), bRumour E (G 6) (Z_95.2.1 6), bIm E G (Z_95.2.1 7), bNow E (G 8) (G 10) e1 (Z_95.2.1 8), bNow E (G 9) (G 11) e2 (Z_95.2.1 9), bScene E (G 10) (Z_95.2.1 10), bScene E (G 11) (Z_95.2.1 11), bPool E e0 (Z_95.2.2 0), bPool E e1 (Z_95.2.2 1), bPool E e2 (Z_95.2.2 2), bModel E a M_97]) (bc := [bModel E a M_97]) (br := [bGC G (pl 99) (dr 99) Z_95.1, bText E (G 1) (Z_95.2.1 1), bNow E (G 2) (G 3) e0 (Z_95.2.1 2), bScene E (G 3) (Z_95.2.1 3), bPlan E pl (Z_95.2.1 4), bPlan E dr (Z_95.2.1 5), bRumour E (G 6) (Z_95.2.1 6), bIm E G (Z_95.2.1 7), bNow E (G 8) (G 10) e1 (Z_95.2.1 8), bNow E (G 9) (G 11) e2 (Z_95.2.1 9), bScene E (G 10) (Z_95.2.1 10), bScene E (G 11) (Z_95.2.1 11), bPool E e0 (Z_95.2.2 0), bPool E e1 (Z_95.2.2 1), bPool E e2 (Z_95.2.2 2)]) [15, 0, 1, 2, 3, 4, 5, 6, 7, 8, 9, 10, 11, 12, 13, 14] rfl rfl (by decide)
          have hP := gP_perm p2.symm hP
          have hD := gD_perm p2.symm hD
          clear p2
          refine lv_icmp_eq (tgt := 821) hx hb dL_law_651 (by decide) (fun c_98 => ?_) (fun c_98 => ?_)
          · have h := h.1 c_98
            refine lv_iinc (v := (i + 4)) (lv' := [(3, .int (i + 4)), (0, .ref b), (1, .ref (G 0 99)), (2, .ref (a 99))]) hx hb dL_law_821 hl (k := 3) rfl rfl (by decide) rfl (fun ls hl => ?_)
            refine lv_goto (tgt := 18) hx hb dL_law_824 (by decide) ?_
            exact ih (i + 4) Z_95 M_97 pl dr e0 _ _ _ h hP hD hS (lv_sub hl [1, 2, 3, 0] rfl)
          · have h := h.2 c_98
            refine lv_iconst (v := 0) hx hb dL_law_654 (by decide) ?_
            exact h.elim
        · have h := h.2.2.2.2.2.2.2.2.2.2.2.2.2.2.2.2.2.2.1 c
          refine lv_asi c ?_
          refine lv_tableIn (off := 624) (tgt := 656) hx hb dL_law_32 (by decide) (by decide) rfl (by decide) ?_
          refine lv_aload_n hx hb dL_law_656 rfl (lv_at hl 1 rfl) ?_
          have p1 := gB (n := 16) (bs := [bGC G (pl 99) (dr 99) Z.1, bText E (G 1) (Z.2.1 1), bNow E (G 2) (G 3) e0 (Z.2.1 2), bScene E (G 3) (Z.2.1 3), bPlan E pl (Z.2.1 4), bPlan E dr (Z.2.1 5), bRumour E (G 6) (Z.2.1 6), bIm E G (Z.2.1 7), bNow E (G 8) (G 10) e1 (Z.2.1 8), bNow E (G 9) (G 11) e2 (Z.2.1 9), bScene E (G 10) (Z.2.1 10), bScene E (G 11) (Z.2.1 11), bPool E e0 (Z.2.2 0), bPool E e1 (Z.2.2 1), bPool E e2 (Z.2.2 2), bModel E a M]) (bc := [bGC G (pl 99) (dr 99) Z.1, bText E (G 1) (Z.2.1 1), bNow E (G 2) (G 3) e0 (Z.2.1 2), bScene E (G 3) (Z.2.1 3), bPlan E pl (Z.2.1 4), bPlan E dr (Z.2.1 5), bRumour E (G 6) (Z.2.1 6), bIm E G (Z.2.1 7), bNow E (G 8) (G 10) e1 (Z.2.1 8), bNow E (G 9) (G 11) e2 (Z.2.1 9), bScene E (G 10) (Z.2.1 10), bScene E (G 11) (Z.2.1 11), bPool E e0 (Z.2.2 0), bPool E e1 (Z.2.2 1), bPool E e2 (Z.2.2 2)]) (br := [bModel E a M]) [0, 1, 2, 3, 4, 5, 6, 7, 8, 9, 10, 11, 12, 13, 14, 15] rfl rfl (by decide)
          refine g_i (g_runV (As := []) (rest := []) ⟨hx, hb, hml, hown, ht⟩ hE (c_X5_forget E l G pl dr e0 e1 e2 Z _ h) ⟨rfl, rfl⟩ wk_L_89 wi_X5_forget ws_X5_forget wn_X5 wc_X5_forget yd_X5_forget ⟨Nat.le_of_ble_eq_true rfl, Nat.le_of_ble_eq_true rfl⟩ hP hD p1 (ci := 5) rfl rfl rfl rfl rfl hl.1 rfl (lv_room (Nat.le_of_ble_eq_true rfl)) dL_law_657 ⟨Nat.le_of_ble_eq_true rfl, Nat.le_of_ble_eq_true rfl⟩) hP hD hS p1 (fun r_99 Z_100 w H locs h hw hP hD hS => ?_)
          subst hw
          clear p1
          have p2 := gB (n := 16) (bs := [bGC G (pl 99) (dr 99) Z_100.1, bText E (G 1) (Z_100.2.1 1), bNow E (G 2) (G 3) e0 (Z_100.2.1 2), bScene E (G 3) (Z_100.2.1 3), bPlan E pl (Z_100.2.1 4), bPlan E dr (Z_100.2.1 5), bRumour E (G 6) (Z_100.2.1 6), bIm E G (Z_100.2.1 7), bNow E (G 8) (G 10) e1 (Z_100.2.1 8), bNow E (G 9) (G 11) e2 (Z_100.2.1 9), bScene E (G 10) (Z_100.2.1 10), bScene E (G 11) (Z_100.2.1 11), bPool E e0 (Z_100.2.2 0), bPool E e1 (Z_100.2.2 1), bPool E e2 (Z_100.2.2 2), bModel E a M]) (bc := [bGC G (pl 99) (dr 99) Z_100.1, bText E (G 1) (Z_100.2.1 1), bNow E (G 2) (G 3) e0 (Z_100.2.1 2), bScene E (G 3) (Z_100.2.1 3), bPlan E pl (Z_100.2.1 4), bPlan E dr (Z_100.2.1 5), bRumour E (G 6) (Z_100.2.1 6), bIm E G (Z_100.2.1 7), bNow E (G 8) (G 10) e1 (Z_100.2.1 8), bNow E (G 9) (G 11) e2 (Z_100.2.1 9), bScene E (G 10) (Z_100.2.1 10), bScene E (G 11) (Z_100.2.1 11), bPool E e0 (Z_100.2.2 0), bPool E e1 (Z_100.2.2 1), bPool E e2 (Z_100.2.2 2)]) (br := [bModel E a M]) [0, 1, 2, 3, 4, 5, 6, 7, 8, 9, 10, 11, 12, 13, 14, 15] rfl rfl (by decide)
          have hP := gP_perm p2.symm hP
          have hD := gD_perm p2.symm hD
          clear p2
          refine lv_aload_n hx hb dL_law_660 rfl (lv_at hl 2 rfl) ?_
          have p1 := gB (n := 16) (bs := [bGC G (pl 99) (dr 99) Z_100.1, bText E (G 1) (Z_100.2.1 1), bNow E (G 2) (G 3) e0 (Z_100.2.1 2), bScene E (G 3) (Z_100.2.1 3), bPlan E pl (Z_100.2.1 4), bPlan E dr (Z_100.2.1 5), bRumour E (G 6) (Z_100.2.1 6), bIm E G (Z_100.2.1 7), bNow E (G 8) (G 10) e1 (Z_100.2.1 8), bNow E (G 9) (G 11) e2 (Z_100.2.1 9), bScene E (G 10) (Z_100.2.1 10), bScene E (G 11) (Z_100.2.1 11), bPool E e0 (Z_100.2.2 0), bPool E e1 (Z_100.2.2 1), bPool E e2 (Z_100.2.2 2), bModel E a M]) (bc := [bModel E a M]) (br := [bGC G (pl 99) (dr 99) Z_100.1, bText E (G 1) (Z_100.2.1 1), bNow E (G 2) (G 3) e0 (Z_100.2.1 2), bScene E (G 3) (Z_100.2.1 3), bPlan E pl (Z_100.2.1 4), bPlan E dr (Z_100.2.1 5), bRumour E (G 6) (Z_100.2.1 6), bIm E G (Z_100.2.1 7), bNow E (G 8) (G 10) e1 (Z_100.2.1 8), bNow E (G 9) (G 11) e2 (Z_100.2.1 9), bScene E (G 10) (Z_100.2.1 10), bScene E (G 11) (Z_100.2.1 11), bPool E e0 (Z_100.2.2 0), bPool E e1 (Z_100.2.2 1), bPool E e2 (Z_100.2.2 2)]) [15, 0, 1, 2, 3, 4, 5, 6, 7, 8, 9, 10, 11, 12, 13, 14] rfl rfl (by decide)
          refine g_i (g_runV (As := []) (rest := [.int r_99]) ⟨hx, hb, hml, hown, ht⟩ hE (c_X6_forget E l a M _ h) ⟨rfl, rfl⟩ wk_L_92 wi_X6_forget ws_X6_forget wn_X6 wc_X6_forget yd_X6_forget ⟨Nat.le_of_ble_eq_true rfl, Nat.le_of_ble_eq_true rfl⟩ hP hD p1 (ci := 6) rfl rfl rfl rfl rfl hl.1 rfl (lv_room (Nat.le_of_ble_eq_true rfl)) dL_law_661 ⟨Nat.le_of_ble_eq_true rfl, Nat.le_of_ble_eq_true rfl⟩) hP hD hS p1 (fun r_101 M_102 w H locs h hw hP hD hS => ?_)
          subst hw
          clear p1
          have p2 := gB (n := 16) (bs := [bGC G (pl 99) (dr 99) Z_100.1, bText E (G 1) (Z_100.2.1 1), bNow E (G 2) (G 3) e0 (Z_100.2.1 2), bScene E (G 3) (Z_100.2.1 3), bPlan E pl (Z_100.2.1 4), bPlan E dr (Z_100.2.1 5), bRumour E (G 6) (Z_100.2.1 6), bIm E G (Z_100.2.1 7), bNow E (G 8) (G 10) e1 (Z_100.2.1 8), bNow E (G 9) (G 11) e2 (Z_100.2.1 9), bScene E (G 10) (Z_100.2.1 10), bScene E (G 11) (Z_100.2.1 11), bPool E e0 (Z_100.2.2 0), bPool E e1 (Z_100.2.2 1), bPool E e2 (Z_100.2.2 2), bModel E a M_102]) (bc := [bModel E a M_102]) (br := [bGC G (pl 99) (dr 99) Z_100.1, bText E (G 1) (Z_100.2.1 1), bNow E (G 2) (G 3) e0 (Z_100.2.1 2), bScene E (G 3) (Z_100.2.1 3), bPlan E pl (Z_100.2.1 4), bPlan E dr (Z_100.2.1 5), bRumour E (G 6) (Z_100.2.1 6), bIm E G (Z_100.2.1 7), bNow E (G 8) (G 10) e1 (Z_100.2.1 8), bNow E (G 9) (G 11) e2 (Z_100.2.1 9), bScene E (G 10) (Z_100.2.1 10), bScene E (G 11) (Z_100.2.1 11), bPool E e0 (Z_100.2.2 0), bPool E e1 (Z_100.2.2 1), bPool E e2 (Z_100.2.2 2)]) [15, 0, 1, 2, 3, 4, 5, 6, 7, 8, 9, 10, 11, 12, 13, 14] rfl rfl (by decide)
          have hP := gP_perm p2.symm hP
          have hD := gD_perm p2.symm hD
          clear p2
          refine lv_icmp_eq (tgt := 821) hx hb dL_law_664 (by decide) (fun c_103 => ?_) (fun c_103 => ?_)
          · have h := h.1 c_103
            refine lv_iinc (v := (i + 4)) (lv' := [(3, .int (i + 4)), (0, .ref b), (1, .ref (G 0 99)), (2, .ref (a 99))]) hx hb dL_law_821 hl (k := 3) rfl rfl (by decide) rfl (fun ls hl => ?_)
            refine lv_goto (tgt := 18) hx hb dL_law_824 (by decide) ?_
            exact ih (i + 4) Z_100 M_102 pl dr e0 _ _ _ h hP hD hS (lv_sub hl [1, 2, 3, 0] rfl)
          · have h := h.2 c_103
            refine lv_iconst (v := 0) hx hb dL_law_667 (by decide) ?_
            exact h.elim
        · have h := h.2.2.2.2.2.2.2.2.2.2.2.2.2.2.2.2.2.2.2.1 c
          refine lv_asi c ?_
          refine lv_tableIn (off := 637) (tgt := 669) hx hb dL_law_32 (by decide) (by decide) rfl (by decide) ?_
          refine lv_aload_n hx hb dL_law_669 rfl (lv_at hl 1 rfl) ?_
          refine lv_aload_n hx hb dL_law_670 rfl (lv_at hl 0 rfl) ?_
          refine lv_iload_n hx hb dL_law_671 rfl (lv_at hl 3 rfl) ?_
          refine lv_iconst (v := 1) hx hb dL_law_672 (by decide) ?_
          refine lv_iadd hx hb dL_law_673 ?_
          refine va_sld hx hb hX hbl hbA hS h.1 dL_law_674 ?_
          have h := h.2
          have p1 := gB (n := 16) (bs := [bGC G (pl 99) (dr 99) Z.1, bText E (G 1) (Z.2.1 1), bNow E (G 2) (G 3) e0 (Z.2.1 2), bScene E (G 3) (Z.2.1 3), bPlan E pl (Z.2.1 4), bPlan E dr (Z.2.1 5), bRumour E (G 6) (Z.2.1 6), bIm E G (Z.2.1 7), bNow E (G 8) (G 10) e1 (Z.2.1 8), bNow E (G 9) (G 11) e2 (Z.2.1 9), bScene E (G 10) (Z.2.1 10), bScene E (G 11) (Z.2.1 11), bPool E e0 (Z.2.2 0), bPool E e1 (Z.2.2 1), bPool E e2 (Z.2.2 2), bModel E a M]) (bc := [bGC G (pl 99) (dr 99) Z.1, bText E (G 1) (Z.2.1 1), bNow E (G 2) (G 3) e0 (Z.2.1 2), bScene E (G 3) (Z.2.1 3), bPlan E pl (Z.2.1 4), bPlan E dr (Z.2.1 5), bRumour E (G 6) (Z.2.1 6), bIm E G (Z.2.1 7), bNow E (G 8) (G 10) e1 (Z.2.1 8), bNow E (G 9) (G 11) e2 (Z.2.1 9), bScene E (G 10) (Z.2.1 10), bScene E (G 11) (Z.2.1 11), bPool E e0 (Z.2.2 0), bPool E e1 (Z.2.2 1), bPool E e2 (Z.2.2 2)]) (br := [bModel E a M]) [0, 1, 2, 3, 4, 5, 6, 7, 8, 9, 10, 11, 12, 13, 14, 15] rfl rfl (by decide)
          refine g_i (g_runV (As := [.int (xs (i + 1).toNatClampNeg)]) (rest := []) ⟨hx, hb, hml, hown, ht⟩ hE (c_X5_codes E l G pl dr e0 e1 e2 Z (xs (i + 1).toNatClampNeg) _ h) ⟨rfl, rfl⟩ wk_L_93 wi_X5_codes ws_X5_codes wn_X5 wc_X5_codes yd_X5_codes ⟨Nat.le_of_ble_eq_true rfl, Nat.le_of_ble_eq_true rfl⟩ hP hD p1 (ci := 5) rfl rfl rfl rfl rfl hl.1 rfl (lv_room (Nat.le_of_ble_eq_true rfl)) dL_law_675 ⟨Nat.le_of_ble_eq_true rfl, Nat.le_of_ble_eq_true rfl⟩) hP hD hS p1 (fun r_104 _ w H locs h hw hP hD hS => ?_)
          subst hw
          clear p1
          have p2 := gB (n := 16) (bs := [bGC G (pl 99) (dr 99) Z.1, bText E (G 1) (Z.2.1 1), bNow E (G 2) (G 3) e0 (Z.2.1 2), bScene E (G 3) (Z.2.1 3), bPlan E pl (Z.2.1 4), bPlan E dr (Z.2.1 5), bRumour E (G 6) (Z.2.1 6), bIm E G (Z.2.1 7), bNow E (G 8) (G 10) e1 (Z.2.1 8), bNow E (G 9) (G 11) e2 (Z.2.1 9), bScene E (G 10) (Z.2.1 10), bScene E (G 11) (Z.2.1 11), bPool E e0 (Z.2.2 0), bPool E e1 (Z.2.2 1), bPool E e2 (Z.2.2 2), bModel E a M]) (bc := [bGC G (pl 99) (dr 99) Z.1, bText E (G 1) (Z.2.1 1), bNow E (G 2) (G 3) e0 (Z.2.1 2), bScene E (G 3) (Z.2.1 3), bPlan E pl (Z.2.1 4), bPlan E dr (Z.2.1 5), bRumour E (G 6) (Z.2.1 6), bIm E G (Z.2.1 7), bNow E (G 8) (G 10) e1 (Z.2.1 8), bNow E (G 9) (G 11) e2 (Z.2.1 9), bScene E (G 10) (Z.2.1 10), bScene E (G 11) (Z.2.1 11), bPool E e0 (Z.2.2 0), bPool E e1 (Z.2.2 1), bPool E e2 (Z.2.2 2)]) (br := [bModel E a M]) [0, 1, 2, 3, 4, 5, 6, 7, 8, 9, 10, 11, 12, 13, 14, 15] rfl rfl (by decide)
          have hP := gP_perm p2.symm hP
          have hD := gD_perm p2.symm hD
          clear p2
          refine lv_aload_n hx hb dL_law_678 rfl (lv_at hl 2 rfl) ?_
          refine lv_aload_n hx hb dL_law_679 rfl (lv_at hl 0 rfl) ?_
          refine lv_iload_n hx hb dL_law_680 rfl (lv_at hl 3 rfl) ?_
          refine lv_iconst (v := 1) hx hb dL_law_681 (by decide) ?_
          refine lv_iadd hx hb dL_law_682 ?_
          refine va_sld hx hb hX hbl hbA hS h.1 dL_law_683 ?_
          have h := h.2
          have p1 := gB (n := 16) (bs := [bGC G (pl 99) (dr 99) Z.1, bText E (G 1) (Z.2.1 1), bNow E (G 2) (G 3) e0 (Z.2.1 2), bScene E (G 3) (Z.2.1 3), bPlan E pl (Z.2.1 4), bPlan E dr (Z.2.1 5), bRumour E (G 6) (Z.2.1 6), bIm E G (Z.2.1 7), bNow E (G 8) (G 10) e1 (Z.2.1 8), bNow E (G 9) (G 11) e2 (Z.2.1 9), bScene E (G 10) (Z.2.1 10), bScene E (G 11) (Z.2.1 11), bPool E e0 (Z.2.2 0), bPool E e1 (Z.2.2 1), bPool E e2 (Z.2.2 2), bModel E a M]) (bc := [bModel E a M]) (br := [bGC G (pl 99) (dr 99) Z.1, bText E (G 1) (Z.2.1 1), bNow E (G 2) (G 3) e0 (Z.2.1 2), bScene E (G 3) (Z.2.1 3), bPlan E pl (Z.2.1 4), bPlan E dr (Z.2.1 5), bRumour E (G 6) (Z.2.1 6), bIm E G (Z.2.1 7), bNow E (G 8) (G 10) e1 (Z.2.1 8), bNow E (G 9) (G 11) e2 (Z.2.1 9), bScene E (G 10) (Z.2.1 10), bScene E (G 11) (Z.2.1 11), bPool E e0 (Z.2.2 0), bPool E e1 (Z.2.2 1), bPool E e2 (Z.2.2 2)]) [15, 0, 1, 2, 3, 4, 5, 6, 7, 8, 9, 10, 11, 12, 13, 14] rfl rfl (by decide)
          refine g_i (g_runV (As := [.int (xs (i + 1).toNatClampNeg)]) (rest := [.int r_104]) ⟨hx, hb, hml, hown, ht⟩ hE (c_X6_codes E l a M (xs (i + 1).toNatClampNeg) _ h) ⟨rfl, rfl⟩ wk_L_96 wi_X6_codes ws_X6_codes wn_X6 wc_X6_codes yd_X6_codes ⟨Nat.le_of_ble_eq_true rfl, Nat.le_of_ble_eq_true rfl⟩ hP hD p1 (ci := 6) rfl rfl rfl rfl rfl hl.1 rfl (lv_room (Nat.le_of_ble_eq_true rfl)) dL_law_684 ⟨Nat.le_of_ble_eq_true rfl, Nat.le_of_ble_eq_true rfl⟩) hP hD hS p1 (fun r_105 _ w H locs h hw hP hD hS => ?_)
          subst hw
          clear p1
          have p2 := gB (n := 16) (bs := [bGC G (pl 99) (dr 99) Z.1, bText E (G 1) (Z.2.1 1), bNow E (G 2) (G 3) e0 (Z.2.1 2), bScene E (G 3) (Z.2.1 3), bPlan E pl (Z.2.1 4), bPlan E dr (Z.2.1 5), bRumour E (G 6) (Z.2.1 6), bIm E G (Z.2.1 7), bNow E (G 8) (G 10) e1 (Z.2.1 8), bNow E (G 9) (G 11) e2 (Z.2.1 9), bScene E (G 10) (Z.2.1 10), bScene E (G 11) (Z.2.1 11), bPool E e0 (Z.2.2 0), bPool E e1 (Z.2.2 1), bPool E e2 (Z.2.2 2), bModel E a M]) (bc := [bModel E a M]) (br := [bGC G (pl 99) (dr 99) Z.1, bText E (G 1) (Z.2.1 1), bNow E (G 2) (G 3) e0 (Z.2.1 2), bScene E (G 3) (Z.2.1 3), bPlan E pl (Z.2.1 4), bPlan E dr (Z.2.1 5), bRumour E (G 6) (Z.2.1 6), bIm E G (Z.2.1 7), bNow E (G 8) (G 10) e1 (Z.2.1 8), bNow E (G 9) (G 11) e2 (Z.2.1 9), bScene E (G 10) (Z.2.1 10), bScene E (G 11) (Z.2.1 11), bPool E e0 (Z.2.2 0), bPool E e1 (Z.2.2 1), bPool E e2 (Z.2.2 2)]) [15, 0, 1, 2, 3, 4, 5, 6, 7, 8, 9, 10, 11, 12, 13, 14] rfl rfl (by decide)
          have hP := gP_perm p2.symm hP
          have hD := gD_perm p2.symm hD
          clear p2
          refine lv_icmp_eq (tgt := 821) hx hb dL_law_687 (by decide) (fun c_106 => ?_) (fun c_106 => ?_)
          · have h := h.1 c_106
            refine lv_iinc (v := (i + 4)) (lv' := [(3, .int (i + 4)), (0, .ref b), (1, .ref (G 0 99)), (2, .ref (a 99))]) hx hb dL_law_821 hl (k := 3) rfl rfl (by decide) rfl (fun ls hl => ?_)
            refine lv_goto (tgt := 18) hx hb dL_law_824 (by decide) ?_
            exact ih (i + 4) Z M pl dr e0 _ _ _ h hP hD hS (lv_sub hl [1, 2, 3, 0] rfl)
          · have h := h.2 c_106
            refine lv_iconst (v := 0) hx hb dL_law_690 (by decide) ?_
            exact h.elim
        · have h := h.2.2.2.2.2.2.2.2.2.2.2.2.2.2.2.2.2.2.2.2.1 c
          refine lv_asi c ?_
          refine lv_tableIn (off := 660) (tgt := 692) hx hb dL_law_32 (by decide) (by decide) rfl (by decide) ?_
          refine lv_aload_n hx hb dL_law_692 rfl (lv_at hl 1 rfl) ?_
          have p1 := gB (n := 16) (bs := [bGC G (pl 99) (dr 99) Z.1, bText E (G 1) (Z.2.1 1), bNow E (G 2) (G 3) e0 (Z.2.1 2), bScene E (G 3) (Z.2.1 3), bPlan E pl (Z.2.1 4), bPlan E dr (Z.2.1 5), bRumour E (G 6) (Z.2.1 6), bIm E G (Z.2.1 7), bNow E (G 8) (G 10) e1 (Z.2.1 8), bNow E (G 9) (G 11) e2 (Z.2.1 9), bScene E (G 10) (Z.2.1 10), bScene E (G 11) (Z.2.1 11), bPool E e0 (Z.2.2 0), bPool E e1 (Z.2.2 1), bPool E e2 (Z.2.2 2), bModel E a M]) (bc := [bGC G (pl 99) (dr 99) Z.1, bText E (G 1) (Z.2.1 1), bNow E (G 2) (G 3) e0 (Z.2.1 2), bScene E (G 3) (Z.2.1 3), bPlan E pl (Z.2.1 4), bPlan E dr (Z.2.1 5), bRumour E (G 6) (Z.2.1 6), bIm E G (Z.2.1 7), bNow E (G 8) (G 10) e1 (Z.2.1 8), bNow E (G 9) (G 11) e2 (Z.2.1 9), bScene E (G 10) (Z.2.1 10), bScene E (G 11) (Z.2.1 11), bPool E e0 (Z.2.2 0), bPool E e1 (Z.2.2 1), bPool E e2 (Z.2.2 2)]) (br := [bModel E a M]) [0, 1, 2, 3, 4, 5, 6, 7, 8, 9, 10, 11, 12, 13, 14, 15] rfl rfl (by decide)
          refine g_i (g_runV (As := []) (rest := []) ⟨hx, hb, hml, hown, ht⟩ hE (c_X5_ask E l G pl dr e0 e1 e2 Z _ h) ⟨rfl, rfl⟩ wk_L_97 wi_X5_ask ws_X5_ask wn_X5 wc_X5_ask yd_X5_ask ⟨Nat.le_of_ble_eq_true rfl, Nat.le_of_ble_eq_true rfl⟩ hP hD p1 (ci := 5) rfl rfl rfl rfl rfl hl.1 rfl (lv_room (Nat.le_of_ble_eq_true rfl)) dL_law_693 ⟨Nat.le_of_ble_eq_true rfl, Nat.le_of_ble_eq_true rfl⟩) hP hD hS p1 (fun r_107 Z_108 w H locs h hw hP hD hS => ?_)
          subst hw
          clear p1
          have p2 := gB (n := 16) (bs := [bGC G (pl 99) (dr 99) Z_108.1, bText E (G 1) (Z_108.2.1 1), bNow E (G 2) (G 3) e0 (Z_108.2.1 2), bScene E (G 3) (Z_108.2.1 3), bPlan E pl (Z_108.2.1 4), bPlan E dr (Z_108.2.1 5), bRumour E (G 6) (Z_108.2.1 6), bIm E G (Z_108.2.1 7), bNow E (G 8) (G 10) e1 (Z_108.2.1 8), bNow E (G 9) (G 11) e2 (Z_108.2.1 9), bScene E (G 10) (Z_108.2.1 10), bScene E (G 11) (Z_108.2.1 11), bPool E e0 (Z_108.2.2 0), bPool E e1 (Z_108.2.2 1), bPool E e2 (Z_108.2.2 2), bModel E a M]) (bc := [bGC G (pl 99) (dr 99) Z_108.1, bText E (G 1) (Z_108.2.1 1), bNow E (G 2) (G 3) e0 (Z_108.2.1 2), bScene E (G 3) (Z_108.2.1 3), bPlan E pl (Z_108.2.1 4), bPlan E dr (Z_108.2.1 5), bRumour E (G 6) (Z_108.2.1 6), bIm E G (Z_108.2.1 7), bNow E (G 8) (G 10) e1 (Z_108.2.1 8), bNow E (G 9) (G 11) e2 (Z_108.2.1 9), bScene E (G 10) (Z_108.2.1 10), bScene E (G 11) (Z_108.2.1 11), bPool E e0 (Z_108.2.2 0), bPool E e1 (Z_108.2.2 1), bPool E e2 (Z_108.2.2 2)]) (br := [bModel E a M]) [0, 1, 2, 3, 4, 5, 6, 7, 8, 9, 10, 11, 12, 13, 14, 15] rfl rfl (by decide)
          have hP := gP_perm p2.symm hP
          have hD := gD_perm p2.symm hD
          clear p2
          refine lv_aload_n hx hb dL_law_696 rfl (lv_at hl 2 rfl) ?_
          have p1 := gB (n := 16) (bs := [bGC G (pl 99) (dr 99) Z_108.1, bText E (G 1) (Z_108.2.1 1), bNow E (G 2) (G 3) e0 (Z_108.2.1 2), bScene E (G 3) (Z_108.2.1 3), bPlan E pl (Z_108.2.1 4), bPlan E dr (Z_108.2.1 5), bRumour E (G 6) (Z_108.2.1 6), bIm E G (Z_108.2.1 7), bNow E (G 8) (G 10) e1 (Z_108.2.1 8), bNow E (G 9) (G 11) e2 (Z_108.2.1 9), bScene E (G 10) (Z_108.2.1 10), bScene E (G 11) (Z_108.2.1 11), bPool E e0 (Z_108.2.2 0), bPool E e1 (Z_108.2.2 1), bPool E e2 (Z_108.2.2 2), bModel E a M]) (bc := [bModel E a M]) (br := [bGC G (pl 99) (dr 99) Z_108.1, bText E (G 1) (Z_108.2.1 1), bNow E (G 2) (G 3) e0 (Z_108.2.1 2), bScene E (G 3) (Z_108.2.1 3), bPlan E pl (Z_108.2.1 4), bPlan E dr (Z_108.2.1 5), bRumour E (G 6) (Z_108.2.1 6), bIm E G (Z_108.2.1 7), bNow E (G 8) (G 10) e1 (Z_108.2.1 8), bNow E (G 9) (G 11) e2 (Z_108.2.1 9), bScene E (G 10) (Z_108.2.1 10), bScene E (G 11) (Z_108.2.1 11), bPool E e0 (Z_108.2.2 0), bPool E e1 (Z_108.2.2 1), bPool E e2 (Z_108.2.2 2)]) [15, 0, 1, 2, 3, 4, 5, 6, 7, 8, 9, 10, 11, 12, 13, 14] rfl rfl (by decide)
          refine g_i (g_runV (As := []) (rest := [.int r_107]) ⟨hx, hb, hml, hown, ht⟩ hE (c_X6_ask E l a M _ h) ⟨rfl, rfl⟩ wk_L_100 wi_X6_ask ws_X6_ask wn_X6 wc_X6_ask yd_X6_ask ⟨Nat.le_of_ble_eq_true rfl, Nat.le_of_ble_eq_true rfl⟩ hP hD p1 (ci := 6) rfl rfl rfl rfl rfl hl.1 rfl (lv_room (Nat.le_of_ble_eq_true rfl)) dL_law_697 ⟨Nat.le_of_ble_eq_true rfl, Nat.le_of_ble_eq_true rfl⟩) hP hD hS p1 (fun r_109 M_110 w H locs h hw hP hD hS => ?_)
          subst hw
          clear p1
          have p2 := gB (n := 16) (bs := [bGC G (pl 99) (dr 99) Z_108.1, bText E (G 1) (Z_108.2.1 1), bNow E (G 2) (G 3) e0 (Z_108.2.1 2), bScene E (G 3) (Z_108.2.1 3), bPlan E pl (Z_108.2.1 4), bPlan E dr (Z_108.2.1 5), bRumour E (G 6) (Z_108.2.1 6), bIm E G (Z_108.2.1 7), bNow E (G 8) (G 10) e1 (Z_108.2.1 8), bNow E (G 9) (G 11) e2 (Z_108.2.1 9), bScene E (G 10) (Z_108.2.1 10), bScene E (G 11) (Z_108.2.1 11), bPool E e0 (Z_108.2.2 0), bPool E e1 (Z_108.2.2 1), bPool E e2 (Z_108.2.2 2), bModel E a M_110]) (bc := [bModel E a M_110]) (br := [bGC G (pl 99) (dr 99) Z_108.1, bText E (G 1) (Z_108.2.1 1), bNow E (G 2) (G 3) e0 (Z_108.2.1 2), bScene E (G 3) (Z_108.2.1 3), bPlan E pl (Z_108.2.1 4), bPlan E dr (Z_108.2.1 5), bRumour E (G 6) (Z_108.2.1 6), bIm E G (Z_108.2.1 7), bNow E (G 8) (G 10) e1 (Z_108.2.1 8), bNow E (G 9) (G 11) e2 (Z_108.2.1 9), bScene E (G 10) (Z_108.2.1 10), bScene E (G 11) (Z_108.2.1 11), bPool E e0 (Z_108.2.2 0), bPool E e1 (Z_108.2.2 1), bPool E e2 (Z_108.2.2 2)]) [15, 0, 1, 2, 3, 4, 5, 6, 7, 8, 9, 10, 11, 12, 13, 14] rfl rfl (by decide)
          have hP := gP_perm p2.symm hP
          have hD := gD_perm p2.symm hD
          clear p2
          refine lv_icmp_eq (tgt := 821) hx hb dL_law_700 (by decide) (fun c_111 => ?_) (fun c_111 => ?_)
          · have h := h.1 c_111
            refine lv_iinc (v := (i + 4)) (lv' := [(3, .int (i + 4)), (0, .ref b), (1, .ref (G 0 99)), (2, .ref (a 99))]) hx hb dL_law_821 hl (k := 3) rfl rfl (by decide) rfl (fun ls hl => ?_)
            refine lv_goto (tgt := 18) hx hb dL_law_824 (by decide) ?_
            exact ih (i + 4) Z_108 M_110 pl dr e0 _ _ _ h hP hD hS (lv_sub hl [1, 2, 3, 0] rfl)
          · have h := h.2 c_111
            refine lv_iconst (v := 0) hx hb dL_law_703 (by decide) ?_
            exact h.elim
        · have h := h.2.2.2.2.2.2.2.2.2.2.2.2.2.2.2.2.2.2.2.2.2.1 c
          refine lv_asi c ?_
          refine lv_tableIn (off := 673) (tgt := 705) hx hb dL_law_32 (by decide) (by decide) rfl (by decide) ?_
          refine lv_aload_n hx hb dL_law_705 rfl (lv_at hl 1 rfl) ?_
          refine lv_aload_n hx hb dL_law_706 rfl (lv_at hl 0 rfl) ?_
          refine lv_iload_n hx hb dL_law_707 rfl (lv_at hl 3 rfl) ?_
          refine lv_iconst (v := 1) hx hb dL_law_708 (by decide) ?_
          refine lv_iadd hx hb dL_law_709 ?_
          refine va_sld hx hb hX hbl hbA hS h.1 dL_law_710 ?_
          have h := h.2
          refine lv_aload_n hx hb dL_law_711 rfl (lv_at hl 0 rfl) ?_
          refine lv_iload_n hx hb dL_law_712 rfl (lv_at hl 3 rfl) ?_
          refine lv_iconst (v := 2) hx hb dL_law_713 (by decide) ?_
          refine lv_iadd hx hb dL_law_714 ?_
          refine va_sld hx hb hX hbl hbA hS h.1 dL_law_715 ?_
          have h := h.2
          have p1 := gB (n := 16) (bs := [bGC G (pl 99) (dr 99) Z.1, bText E (G 1) (Z.2.1 1), bNow E (G 2) (G 3) e0 (Z.2.1 2), bScene E (G 3) (Z.2.1 3), bPlan E pl (Z.2.1 4), bPlan E dr (Z.2.1 5), bRumour E (G 6) (Z.2.1 6), bIm E G (Z.2.1 7), bNow E (G 8) (G 10) e1 (Z.2.1 8), bNow E (G 9) (G 11) e2 (Z.2.1 9), bScene E (G 10) (Z.2.1 10), bScene E (G 11) (Z.2.1 11), bPool E e0 (Z.2.2 0), bPool E e1 (Z.2.2 1), bPool E e2 (Z.2.2 2), bModel E a M]) (bc := [bGC G (pl 99) (dr 99) Z.1, bText E (G 1) (Z.2.1 1), bNow E (G 2) (G 3) e0 (Z.2.1 2), bScene E (G 3) (Z.2.1 3), bPlan E pl (Z.2.1 4), bPlan E dr (Z.2.1 5), bRumour E (G 6) (Z.2.1 6), bIm E G (Z.2.1 7), bNow E (G 8) (G 10) e1 (Z.2.1 8), bNow E (G 9) (G 11) e2 (Z.2.1 9), bScene E (G 10) (Z.2.1 10), bScene E (G 11) (Z.2.1 11), bPool E e0 (Z.2.2 0), bPool E e1 (Z.2.2 1), bPool E e2 (Z.2.2 2)]) (br := [bModel E a M]) [0, 1, 2, 3, 4, 5, 6, 7, 8, 9, 10, 11, 12, 13, 14, 15] rfl rfl (by decide)
          refine g_i (g_runV (As := [.int (xs (i + 1).toNatClampNeg), .int (xs (i + 2).toNatClampNeg)]) (rest := []) ⟨hx, hb, hml, hown, ht⟩ hE (c_X5_mark E l G pl dr e0 e1 e2 Z (xs (i + 1).toNatClampNeg) (xs (i + 2).toNatClampNeg) _ h) ⟨rfl, rfl⟩ wk_L_101 wi_X5_mark ws_X5_mark wn_X5 wc_X5_mark yd_X5_mark ⟨Nat.le_of_ble_eq_true rfl, Nat.le_of_ble_eq_true rfl⟩ hP hD p1 (ci := 5) rfl rfl rfl rfl rfl hl.1 rfl (lv_room (Nat.le_of_ble_eq_true rfl)) dL_law_716 ⟨Nat.le_of_ble_eq_true rfl, Nat.le_of_ble_eq_true rfl⟩) hP hD hS p1 (fun r_112 Z_113 w H locs h hw hP hD hS => ?_)
          subst hw
          clear p1
          have p2 := gB (n := 16) (bs := [bGC G (pl 99) (dr 99) Z_113.1, bText E (G 1) (Z_113.2.1 1), bNow E (G 2) (G 3) e0 (Z_113.2.1 2), bScene E (G 3) (Z_113.2.1 3), bPlan E pl (Z_113.2.1 4), bPlan E dr (Z_113.2.1 5), bRumour E (G 6) (Z_113.2.1 6), bIm E G (Z_113.2.1 7), bNow E (G 8) (G 10) e1 (Z_113.2.1 8), bNow E (G 9) (G 11) e2 (Z_113.2.1 9), bScene E (G 10) (Z_113.2.1 10), bScene E (G 11) (Z_113.2.1 11), bPool E e0 (Z_113.2.2 0), bPool E e1 (Z_113.2.2 1), bPool E e2 (Z_113.2.2 2), bModel E a M]) (bc := [bGC G (pl 99) (dr 99) Z_113.1, bText E (G 1) (Z_113.2.1 1), bNow E (G 2) (G 3) e0 (Z_113.2.1 2), bScene E (G 3) (Z_113.2.1 3), bPlan E pl (Z_113.2.1 4), bPlan E dr (Z_113.2.1 5), bRumour E (G 6) (Z_113.2.1 6), bIm E G (Z_113.2.1 7), bNow E (G 8) (G 10) e1 (Z_113.2.1 8), bNow E (G 9) (G 11) e2 (Z_113.2.1 9), bScene E (G 10) (Z_113.2.1 10), bScene E (G 11) (Z_113.2.1 11), bPool E e0 (Z_113.2.2 0), bPool E e1 (Z_113.2.2 1), bPool E e2 (Z_113.2.2 2)]) (br := [bModel E a M]) [0, 1, 2, 3, 4, 5, 6, 7, 8, 9, 10, 11, 12, 13, 14, 15] rfl rfl (by decide)
          have hP := gP_perm p2.symm hP
          have hD := gD_perm p2.symm hD
          clear p2
          refine lv_aload_n hx hb dL_law_719 rfl (lv_at hl 2 rfl) ?_
          refine lv_aload_n hx hb dL_law_720 rfl (lv_at hl 0 rfl) ?_
          refine lv_iload_n hx hb dL_law_721 rfl (lv_at hl 3 rfl) ?_
          refine lv_iconst (v := 1) hx hb dL_law_722 (by decide) ?_
          refine lv_iadd hx hb dL_law_723 ?_
          refine va_sld hx hb hX hbl hbA hS h.1 dL_law_724 ?_
          have h := h.2
          refine lv_aload_n hx hb dL_law_725 rfl (lv_at hl 0 rfl) ?_
          refine lv_iload_n hx hb dL_law_726 rfl (lv_at hl 3 rfl) ?_
          refine lv_iconst (v := 2) hx hb dL_law_727 (by decide) ?_
          refine lv_iadd hx hb dL_law_728 ?_
          refine va_sld hx hb hX hbl hbA hS h.1 dL_law_729 ?_
          have h := h.2
          have p1 := gB (n := 16) (bs := [bGC G (pl 99) (dr 99) Z_113.1, bText E (G 1) (Z_113.2.1 1), bNow E (G 2) (G 3) e0 (Z_113.2.1 2), bScene E (G 3) (Z_113.2.1 3), bPlan E pl (Z_113.2.1 4), bPlan E dr (Z_113.2.1 5), bRumour E (G 6) (Z_113.2.1 6), bIm E G (Z_113.2.1 7), bNow E (G 8) (G 10) e1 (Z_113.2.1 8), bNow E (G 9) (G 11) e2 (Z_113.2.1 9), bScene E (G 10) (Z_113.2.1 10), bScene E (G 11) (Z_113.2.1 11), bPool E e0 (Z_113.2.2 0), bPool E e1 (Z_113.2.2 1), bPool E e2 (Z_113.2.2 2), bModel E a M]) (bc := [bModel E a M]) (br := [bGC G (pl 99) (dr 99) Z_113.1, bText E (G 1) (Z_113.2.1 1), bNow E (G 2) (G 3) e0 (Z_113.2.1 2), bScene E (G 3) (Z_113.2.1 3), bPlan E pl (Z_113.2.1 4), bPlan E dr (Z_113.2.1 5), bRumour E (G 6) (Z_113.2.1 6), bIm E G (Z_113.2.1 7), bNow E (G 8) (G 10) e1 (Z_113.2.1 8), bNow E (G 9) (G 11) e2 (Z_113.2.1 9), bScene E (G 10) (Z_113.2.1 10), bScene E (G 11) (Z_113.2.1 11), bPool E e0 (Z_113.2.2 0), bPool E e1 (Z_113.2.2 1), bPool E e2 (Z_113.2.2 2)]) [15, 0, 1, 2, 3, 4, 5, 6, 7, 8, 9, 10, 11, 12, 13, 14] rfl rfl (by decide)
          refine g_i (g_runV (As := [.int (xs (i + 1).toNatClampNeg), .int (xs (i + 2).toNatClampNeg)]) (rest := [.int r_112]) ⟨hx, hb, hml, hown, ht⟩ hE (c_X6_mark E l a M (xs (i + 1).toNatClampNeg) (xs (i + 2).toNatClampNeg) _ h) ⟨rfl, rfl⟩ wk_L_104 wi_X6_mark ws_X6_mark wn_X6 wc_X6_mark yd_X6_mark ⟨Nat.le_of_ble_eq_true rfl, Nat.le_of_ble_eq_true rfl⟩ hP hD p1 (ci := 6) rfl rfl rfl rfl rfl hl.1 rfl (lv_room (Nat.le_of_ble_eq_true rfl)) dL_law_730 ⟨Nat.le_of_ble_eq_true rfl, Nat.le_of_ble_eq_true rfl⟩) hP hD hS p1 (fun r_114 M_115 w H locs h hw hP hD hS => ?_)
          subst hw
          clear p1
          have p2 := gB (n := 16) (bs := [bGC G (pl 99) (dr 99) Z_113.1, bText E (G 1) (Z_113.2.1 1), bNow E (G 2) (G 3) e0 (Z_113.2.1 2), bScene E (G 3) (Z_113.2.1 3), bPlan E pl (Z_113.2.1 4), bPlan E dr (Z_113.2.1 5), bRumour E (G 6) (Z_113.2.1 6), bIm E G (Z_113.2.1 7), bNow E (G 8) (G 10) e1 (Z_113.2.1 8), bNow E (G 9) (G 11) e2 (Z_113.2.1 9), bScene E (G 10) (Z_113.2.1 10), bScene E (G 11) (Z_113.2.1 11), bPool E e0 (Z_113.2.2 0), bPool E e1 (Z_113.2.2 1), bPool E e2 (Z_113.2.2 2), bModel E a M_115]) (bc := [bModel E a M_115]) (br := [bGC G (pl 99) (dr 99) Z_113.1, bText E (G 1) (Z_113.2.1 1), bNow E (G 2) (G 3) e0 (Z_113.2.1 2), bScene E (G 3) (Z_113.2.1 3), bPlan E pl (Z_113.2.1 4), bPlan E dr (Z_113.2.1 5), bRumour E (G 6) (Z_113.2.1 6), bIm E G (Z_113.2.1 7), bNow E (G 8) (G 10) e1 (Z_113.2.1 8), bNow E (G 9) (G 11) e2 (Z_113.2.1 9), bScene E (G 10) (Z_113.2.1 10), bScene E (G 11) (Z_113.2.1 11), bPool E e0 (Z_113.2.2 0), bPool E e1 (Z_113.2.2 1), bPool E e2 (Z_113.2.2 2)]) [15, 0, 1, 2, 3, 4, 5, 6, 7, 8, 9, 10, 11, 12, 13, 14] rfl rfl (by decide)
          have hP := gP_perm p2.symm hP
          have hD := gD_perm p2.symm hD
          clear p2
          refine lv_icmp_eq (tgt := 821) hx hb dL_law_733 (by decide) (fun c_116 => ?_) (fun c_116 => ?_)
          · have h := h.1 c_116
            refine lv_iinc (v := (i + 4)) (lv' := [(3, .int (i + 4)), (0, .ref b), (1, .ref (G 0 99)), (2, .ref (a 99))]) hx hb dL_law_821 hl (k := 3) rfl rfl (by decide) rfl (fun ls hl => ?_)
            refine lv_goto (tgt := 18) hx hb dL_law_824 (by decide) ?_
            exact ih (i + 4) Z_113 M_115 pl dr e0 _ _ _ h hP hD hS (lv_sub hl [1, 2, 3, 0] rfl)
          · have h := h.2 c_116
            refine lv_iconst (v := 0) hx hb dL_law_736 (by decide) ?_
            exact h.elim
        · have h := h.2.2.2.2.2.2.2.2.2.2.2.2.2.2.2.2.2.2.2.2.2.2.1 c
          refine lv_asi c ?_
          refine lv_tableIn (off := 706) (tgt := 738) hx hb dL_law_32 (by decide) (by decide) rfl (by decide) ?_
          refine lv_aload_n hx hb dL_law_738 rfl (lv_at hl 1 rfl) ?_
          refine lv_aload_n hx hb dL_law_739 rfl (lv_at hl 0 rfl) ?_
          refine lv_iload_n hx hb dL_law_740 rfl (lv_at hl 3 rfl) ?_
          refine lv_iconst (v := 1) hx hb dL_law_741 (by decide) ?_
          refine lv_iadd hx hb dL_law_742 ?_
          refine va_sld hx hb hX hbl hbA hS h.1 dL_law_743 ?_
          have h := h.2
          have p1 := gB (n := 16) (bs := [bGC G (pl 99) (dr 99) Z.1, bText E (G 1) (Z.2.1 1), bNow E (G 2) (G 3) e0 (Z.2.1 2), bScene E (G 3) (Z.2.1 3), bPlan E pl (Z.2.1 4), bPlan E dr (Z.2.1 5), bRumour E (G 6) (Z.2.1 6), bIm E G (Z.2.1 7), bNow E (G 8) (G 10) e1 (Z.2.1 8), bNow E (G 9) (G 11) e2 (Z.2.1 9), bScene E (G 10) (Z.2.1 10), bScene E (G 11) (Z.2.1 11), bPool E e0 (Z.2.2 0), bPool E e1 (Z.2.2 1), bPool E e2 (Z.2.2 2), bModel E a M]) (bc := [bGC G (pl 99) (dr 99) Z.1, bText E (G 1) (Z.2.1 1), bNow E (G 2) (G 3) e0 (Z.2.1 2), bScene E (G 3) (Z.2.1 3), bPlan E pl (Z.2.1 4), bPlan E dr (Z.2.1 5), bRumour E (G 6) (Z.2.1 6), bIm E G (Z.2.1 7), bNow E (G 8) (G 10) e1 (Z.2.1 8), bNow E (G 9) (G 11) e2 (Z.2.1 9), bScene E (G 10) (Z.2.1 10), bScene E (G 11) (Z.2.1 11), bPool E e0 (Z.2.2 0), bPool E e1 (Z.2.2 1), bPool E e2 (Z.2.2 2)]) (br := [bModel E a M]) [0, 1, 2, 3, 4, 5, 6, 7, 8, 9, 10, 11, 12, 13, 14, 15] rfl rfl (by decide)
          refine g_i (g_runV (As := [.int (xs (i + 1).toNatClampNeg)]) (rest := []) ⟨hx, hb, hml, hown, ht⟩ hE (c_X5_keep E l G pl dr e0 e1 e2 Z (xs (i + 1).toNatClampNeg) _ h) ⟨rfl, rfl⟩ wk_L_105 wi_X5_keep ws_X5_keep wn_X5 wc_X5_keep yd_X5_keep ⟨Nat.le_of_ble_eq_true rfl, Nat.le_of_ble_eq_true rfl⟩ hP hD p1 (ci := 5) rfl rfl rfl rfl rfl hl.1 rfl (lv_room (Nat.le_of_ble_eq_true rfl)) dL_law_744 ⟨Nat.le_of_ble_eq_true rfl, Nat.le_of_ble_eq_true rfl⟩) hP hD hS p1 (fun r_117 Z_118 w H locs h hw hP hD hS => ?_)
          subst hw
          clear p1
          have p2 := gB (n := 16) (bs := [bGC G (pl 99) (dr 99) Z_118.1, bText E (G 1) (Z_118.2.1 1), bNow E (G 2) (G 3) e0 (Z_118.2.1 2), bScene E (G 3) (Z_118.2.1 3), bPlan E pl (Z_118.2.1 4), bPlan E dr (Z_118.2.1 5), bRumour E (G 6) (Z_118.2.1 6), bIm E G (Z_118.2.1 7), bNow E (G 8) (G 10) e1 (Z_118.2.1 8), bNow E (G 9) (G 11) e2 (Z_118.2.1 9), bScene E (G 10) (Z_118.2.1 10), bScene E (G 11) (Z_118.2.1 11), bPool E e0 (Z_118.2.2 0), bPool E e1 (Z_118.2.2 1), bPool E e2 (Z_118.2.2 2), bModel E a M]) (bc := [bGC G (pl 99) (dr 99) Z_118.1, bText E (G 1) (Z_118.2.1 1), bNow E (G 2) (G 3) e0 (Z_118.2.1 2), bScene E (G 3) (Z_118.2.1 3), bPlan E pl (Z_118.2.1 4), bPlan E dr (Z_118.2.1 5), bRumour E (G 6) (Z_118.2.1 6), bIm E G (Z_118.2.1 7), bNow E (G 8) (G 10) e1 (Z_118.2.1 8), bNow E (G 9) (G 11) e2 (Z_118.2.1 9), bScene E (G 10) (Z_118.2.1 10), bScene E (G 11) (Z_118.2.1 11), bPool E e0 (Z_118.2.2 0), bPool E e1 (Z_118.2.2 1), bPool E e2 (Z_118.2.2 2)]) (br := [bModel E a M]) [0, 1, 2, 3, 4, 5, 6, 7, 8, 9, 10, 11, 12, 13, 14, 15] rfl rfl (by decide)
          have hP := gP_perm p2.symm hP
          have hD := gD_perm p2.symm hD
          clear p2
          refine lv_aload_n hx hb dL_law_747 rfl (lv_at hl 2 rfl) ?_
          refine lv_aload_n hx hb dL_law_748 rfl (lv_at hl 0 rfl) ?_
          refine lv_iload_n hx hb dL_law_749 rfl (lv_at hl 3 rfl) ?_
          refine lv_iconst (v := 1) hx hb dL_law_750 (by decide) ?_
          refine lv_iadd hx hb dL_law_751 ?_
          refine va_sld hx hb hX hbl hbA hS h.1 dL_law_752 ?_
          have h := h.2
          have p1 := gB (n := 16) (bs := [bGC G (pl 99) (dr 99) Z_118.1, bText E (G 1) (Z_118.2.1 1), bNow E (G 2) (G 3) e0 (Z_118.2.1 2), bScene E (G 3) (Z_118.2.1 3), bPlan E pl (Z_118.2.1 4), bPlan E dr (Z_118.2.1 5), bRumour E (G 6) (Z_118.2.1 6), bIm E G (Z_118.2.1 7), bNow E (G 8) (G 10) e1 (Z_118.2.1 8), bNow E (G 9) (G 11) e2 (Z_118.2.1 9), bScene E (G 10) (Z_118.2.1 10), bScene E (G 11) (Z_118.2.1 11), bPool E e0 (Z_118.2.2 0), bPool E e1 (Z_118.2.2 1), bPool E e2 (Z_118.2.2 2), bModel E a M]) (bc := [bModel E a M]) (br := [bGC G (pl 99) (dr 99) Z_118.1, bText E (G 1) (Z_118.2.1 1), bNow E (G 2) (G 3) e0 (Z_118.2.1 2), bScene E (G 3) (Z_118.2.1 3), bPlan E pl (Z_118.2.1 4), bPlan E dr (Z_118.2.1 5), bRumour E (G 6) (Z_118.2.1 6), bIm E G (Z_118.2.1 7), bNow E (G 8) (G 10) e1 (Z_118.2.1 8), bNow E (G 9) (G 11) e2 (Z_118.2.1 9), bScene E (G 10) (Z_118.2.1 10), bScene E (G 11) (Z_118.2.1 11), bPool E e0 (Z_118.2.2 0), bPool E e1 (Z_118.2.2 1), bPool E e2 (Z_118.2.2 2)]) [15, 0, 1, 2, 3, 4, 5, 6, 7, 8, 9, 10, 11, 12, 13, 14] rfl rfl (by decide)
          refine g_i (g_runV (As := [.int (xs (i + 1).toNatClampNeg)]) (rest := [.int r_117]) ⟨hx, hb, hml, hown, ht⟩ hE (c_X6_keep E l a M (xs (i + 1).toNatClampNeg) _ h) ⟨rfl, rfl⟩ wk_L_108 wi_X6_keep ws_X6_keep wn_X6 wc_X6_keep yd_X6_keep ⟨Nat.le_of_ble_eq_true rfl, Nat.le_of_ble_eq_true rfl⟩ hP hD p1 (ci := 6) rfl rfl rfl rfl rfl hl.1 rfl (lv_room (Nat.le_of_ble_eq_true rfl)) dL_law_753 ⟨Nat.le_of_ble_eq_true rfl, Nat.le_of_ble_eq_true rfl⟩) hP hD hS p1 (fun r_119 M_120 w H locs h hw hP hD hS => ?_)
          subst hw
          clear p1
          have p2 := gB (n := 16) (bs := [bGC G (pl 99) (dr 99) Z_118.1, bText E (G 1) (Z_118.2.1 1), bNow E (G 2) (G 3) e0 (Z_118.2.1 2), bScene E (G 3) (Z_118.2.1 3), bPlan E pl (Z_118.2.1 4), bPlan E dr (Z_118.2.1 5), bRumour E (G 6) (Z_118.2.1 6), bIm E G (Z_118.2.1 7), bNow E (G 8) (G 10) e1 (Z_118.2.1 8), bNow E (G 9) (G 11) e2 (Z_118.2.1 9), bScene E (G 10) (Z_118.2.1 10), bScene E (G 11) (Z_118.2.1 11), bPool E e0 (Z_118.2.2 0), bPool E e1 (Z_118.2.2 1), bPool E e2 (Z_118.2.2 2), bModel E a M_120]) (bc := [bModel E a M_120]) (br := [bGC G (pl 99) (dr 99) Z_118.1, bText E (G 1) (Z_118.2.1 1), bNow E (G 2) (G 3) e0 (Z_118.2.1 2), bScene E (G 3) (Z_118.2.1 3), bPlan E pl (Z_118.2.1 4), bPlan E dr (Z_118.2.1 5), bRumour E (G 6) (Z_118.2.1 6), bIm E G (Z_118.2.1 7), bNow E (G 8) (G 10) e1 (Z_118.2.1 8), bNow E (G 9) (G 11) e2 (Z_118.2.1 9), bScene E (G 10) (Z_118.2.1 10), bScene E (G 11) (Z_118.2.1 11), bPool E e0 (Z_118.2.2 0), bPool E e1 (Z_118.2.2 1), bPool E e2 (Z_118.2.2 2)]) [15, 0, 1, 2, 3, 4, 5, 6, 7, 8, 9, 10, 11, 12, 13, 14] rfl rfl (by decide)
          have hP := gP_perm p2.symm hP
          have hD := gD_perm p2.symm hD
          clear p2
          refine lv_icmp_eq (tgt := 821) hx hb dL_law_756 (by decide) (fun c_121 => ?_) (fun c_121 => ?_)
          · have h := h.1 c_121
            refine lv_iinc (v := (i + 4)) (lv' := [(3, .int (i + 4)), (0, .ref b), (1, .ref (G 0 99)), (2, .ref (a 99))]) hx hb dL_law_821 hl (k := 3) rfl rfl (by decide) rfl (fun ls hl => ?_)
            refine lv_goto (tgt := 18) hx hb dL_law_824 (by decide) ?_
            exact ih (i + 4) Z_118 M_120 pl dr e0 _ _ _ h hP hD hS (lv_sub hl [1, 2, 3, 0] rfl)
          · have h := h.2 c_121
            refine lv_iconst (v := 0) hx hb dL_law_759 (by decide) ?_
            exact h.elim
        · have h := h.2.2.2.2.2.2.2.2.2.2.2.2.2.2.2.2.2.2.2.2.2.2.2.1 c
          refine lv_asi c ?_
          refine lv_tableIn (off := 729) (tgt := 761) hx hb dL_law_32 (by decide) (by decide) rfl (by decide) ?_
          refine lv_aload_n hx hb dL_law_761 rfl (lv_at hl 1 rfl) ?_
          refine lv_aload_n hx hb dL_law_762 rfl (lv_at hl 0 rfl) ?_
          refine lv_iload_n hx hb dL_law_763 rfl (lv_at hl 3 rfl) ?_
          refine lv_iconst (v := 1) hx hb dL_law_764 (by decide) ?_
          refine lv_iadd hx hb dL_law_765 ?_
          refine va_sld hx hb hX hbl hbA hS h.1 dL_law_766 ?_
          have h := h.2
          have p1 := gB (n := 16) (bs := [bGC G (pl 99) (dr 99) Z.1, bText E (G 1) (Z.2.1 1), bNow E (G 2) (G 3) e0 (Z.2.1 2), bScene E (G 3) (Z.2.1 3), bPlan E pl (Z.2.1 4), bPlan E dr (Z.2.1 5), bRumour E (G 6) (Z.2.1 6), bIm E G (Z.2.1 7), bNow E (G 8) (G 10) e1 (Z.2.1 8), bNow E (G 9) (G 11) e2 (Z.2.1 9), bScene E (G 10) (Z.2.1 10), bScene E (G 11) (Z.2.1 11), bPool E e0 (Z.2.2 0), bPool E e1 (Z.2.2 1), bPool E e2 (Z.2.2 2), bModel E a M]) (bc := [bGC G (pl 99) (dr 99) Z.1, bText E (G 1) (Z.2.1 1), bNow E (G 2) (G 3) e0 (Z.2.1 2), bScene E (G 3) (Z.2.1 3), bPlan E pl (Z.2.1 4), bPlan E dr (Z.2.1 5), bRumour E (G 6) (Z.2.1 6), bIm E G (Z.2.1 7), bNow E (G 8) (G 10) e1 (Z.2.1 8), bNow E (G 9) (G 11) e2 (Z.2.1 9), bScene E (G 10) (Z.2.1 10), bScene E (G 11) (Z.2.1 11), bPool E e0 (Z.2.2 0), bPool E e1 (Z.2.2 1), bPool E e2 (Z.2.2 2)]) (br := [bModel E a M]) [0, 1, 2, 3, 4, 5, 6, 7, 8, 9, 10, 11, 12, 13, 14, 15] rfl rfl (by decide)
          refine g_i (g_runV (As := [.int (xs (i + 1).toNatClampNeg)]) (rest := []) ⟨hx, hb, hml, hown, ht⟩ hE (c_X5_back E l G pl dr e0 e1 e2 Z (xs (i + 1).toNatClampNeg) _ h) ⟨rfl, rfl⟩ wk_L_109 wi_X5_back ws_X5_back wn_X5 wc_X5_back yd_X5_back ⟨Nat.le_of_ble_eq_true rfl, Nat.le_of_ble_eq_true rfl⟩ hP hD p1 (ci := 5) rfl rfl rfl rfl rfl hl.1 rfl (lv_room (Nat.le_of_ble_eq_true rfl)) dL_law_767 ⟨Nat.le_of_ble_eq_true rfl, Nat.le_of_ble_eq_true rfl⟩) hP hD hS p1 (fun r_122 Z_123 w H locs h hw hP hD hS => ?_)
          subst hw
          clear p1
          have p2 := gB (n := 16) (bs := [bGC G (pl 99) (dr 99) Z_123.1, bText E (G 1) (Z_123.2.1 1), bNow E (G 2) (G 3) e0 (Z_123.2.1 2), bScene E (G 3) (Z_123.2.1 3), bPlan E pl (Z_123.2.1 4), bPlan E dr (Z_123.2.1 5), bRumour E (G 6) (Z_123.2.1 6), bIm E G (Z_123.2.1 7), bNow E (G 8) (G 10) e1 (Z_123.2.1 8), bNow E (G 9) (G 11) e2 (Z_123.2.1 9), bScene E (G 10) (Z_123.2.1 10), bScene E (G 11) (Z_123.2.1 11), bPool E e0 (Z_123.2.2 0), bPool E e1 (Z_123.2.2 1), bPool E e2 (Z_123.2.2 2), bModel E a M]) (bc := [bGC G (pl 99) (dr 99) Z_123.1, bText E (G 1) (Z_123.2.1 1), bNow E (G 2) (G 3) e0 (Z_123.2.1 2), bScene E (G 3) (Z_123.2.1 3), bPlan E pl (Z_123.2.1 4), bPlan E dr (Z_123.2.1 5), bRumour E (G 6) (Z_123.2.1 6), bIm E G (Z_123.2.1 7), bNow E (G 8) (G 10) e1 (Z_123.2.1 8), bNow E (G 9) (G 11) e2 (Z_123.2.1 9), bScene E (G 10) (Z_123.2.1 10), bScene E (G 11) (Z_123.2.1 11), bPool E e0 (Z_123.2.2 0), bPool E e1 (Z_123.2.2 1), bPool E e2 (Z_123.2.2 2)]) (br := [bModel E a M]) [0, 1, 2, 3, 4, 5, 6, 7, 8, 9, 10, 11, 12, 13, 14, 15] rfl rfl (by decide)
          have hP := gP_perm p2.symm hP
          have hD := gD_perm p2.symm hD
          clear p2
          refine lv_aload_n hx hb dL_law_770 rfl (lv_at hl 2 rfl) ?_
          refine lv_aload_n hx hb dL_law_771 rfl (lv_at hl 0 rfl) ?_
          refine lv_iload_n hx hb dL_law_772 rfl (lv_at hl 3 rfl) ?_
          refine lv_iconst (v := 1) hx hb dL_law_773 (by decide) ?_
          refine lv_iadd hx hb dL_law_774 ?_
          refine va_sld hx hb hX hbl hbA hS h.1 dL_law_775 ?_
          have h := h.2
          have p1 := gB (n := 16) (bs := [bGC G (pl 99) (dr 99) Z_123.1, bText E (G 1) (Z_123.2.1 1), bNow E (G 2) (G 3) e0 (Z_123.2.1 2), bScene E (G 3) (Z_123.2.1 3), bPlan E pl (Z_123.2.1 4), bPlan E dr (Z_123.2.1 5), bRumour E (G 6) (Z_123.2.1 6), bIm E G (Z_123.2.1 7), bNow E (G 8) (G 10) e1 (Z_123.2.1 8), bNow E (G 9) (G 11) e2 (Z_123.2.1 9), bScene E (G 10) (Z_123.2.1 10), bScene E (G 11) (Z_123.2.1 11), bPool E e0 (Z_123.2.2 0), bPool E e1 (Z_123.2.2 1), bPool E e2 (Z_123.2.2 2), bModel E a M]) (bc := [bModel E a M]) (br := [bGC G (pl 99) (dr 99) Z_123.1, bText E (G 1) (Z_123.2.1 1), bNow E (G 2) (G 3) e0 (Z_123.2.1 2), bScene E (G 3) (Z_123.2.1 3), bPlan E pl (Z_123.2.1 4), bPlan E dr (Z_123.2.1 5), bRumour E (G 6) (Z_123.2.1 6), bIm E G (Z_123.2.1 7), bNow E (G 8) (G 10) e1 (Z_123.2.1 8), bNow E (G 9) (G 11) e2 (Z_123.2.1 9), bScene E (G 10) (Z_123.2.1 10), bScene E (G 11) (Z_123.2.1 11), bPool E e0 (Z_123.2.2 0), bPool E e1 (Z_123.2.2 1), bPool E e2 (Z_123.2.2 2)]) [15, 0, 1, 2, 3, 4, 5, 6, 7, 8, 9, 10, 11, 12, 13, 14] rfl rfl (by decide)
          refine g_i (g_runV (As := [.int (xs (i + 1).toNatClampNeg)]) (rest := [.int r_122]) ⟨hx, hb, hml, hown, ht⟩ hE (c_X6_back E l a M (xs (i + 1).toNatClampNeg) _ h) ⟨rfl, rfl⟩ wk_L_112 wi_X6_back ws_X6_back wn_X6 wc_X6_back yd_X6_back ⟨Nat.le_of_ble_eq_true rfl, Nat.le_of_ble_eq_true rfl⟩ hP hD p1 (ci := 6) rfl rfl rfl rfl rfl hl.1 rfl (lv_room (Nat.le_of_ble_eq_true rfl)) dL_law_776 ⟨Nat.le_of_ble_eq_true rfl, Nat.le_of_ble_eq_true rfl⟩) hP hD hS p1 (fun r_124 M_125 w H locs h hw hP hD hS => ?_)
          subst hw
          clear p1
          have p2 := gB (n := 16) (bs := [bGC G (pl 99) (dr 99) Z_123.1, bText E (G 1) (Z_123.2.1 1), bNow E (G 2) (G 3) e0 (Z_123.2.1 2), bScene E (G 3) (Z_123.2.1 3), bPlan E pl (Z_123.2.1 4), bPlan E dr (Z_123.2.1 5), bRumour E (G 6) (Z_123.2.1 6), bIm E G (Z_123.2.1 7), bNow E (G 8) (G 10) e1 (Z_123.2.1 8), bNow E (G 9) (G 11) e2 (Z_123.2.1 9), bScene E (G 10) (Z_123.2.1 10), bScene E (G 11) (Z_123.2.1 11), bPool E e0 (Z_123.2.2 0), bPool E e1 (Z_123.2.2 1), bPool E e2 (Z_123.2.2 2), bModel E a M_125]) (bc := [bModel E a M_125]) (br := [bGC G (pl 99) (dr 99) Z_123.1, bText E (G 1) (Z_123.2.1 1), bNow E (G 2) (G 3) e0 (Z_123.2.1 2), bScene E (G 3) (Z_123.2.1 3), bPlan E pl (Z_123.2.1 4), bPlan E dr (Z_123.2.1 5), bRumour E (G 6) (Z_123.2.1 6), bIm E G (Z_123.2.1 7), bNow E (G 8) (G 10) e1 (Z_123.2.1 8), bNow E (G 9) (G 11) e2 (Z_123.2.1 9), bScene E (G 10) (Z_123.2.1 10), bScene E (G 11) (Z_123.2.1 11), bPool E e0 (Z_123.2.2 0), bPool E e1 (Z_123.2.2 1), bPool E e2 (Z_123.2.2 2)]) [15, 0, 1, 2, 3, 4, 5, 6, 7, 8, 9, 10, 11, 12, 13, 14] rfl rfl (by decide)
          have hP := gP_perm p2.symm hP
          have hD := gD_perm p2.symm hD
          clear p2
          refine lv_icmp_eq (tgt := 821) hx hb dL_law_779 (by decide) (fun c_126 => ?_) (fun c_126 => ?_)
          · have h := h.1 c_126
            refine lv_iinc (v := (i + 4)) (lv' := [(3, .int (i + 4)), (0, .ref b), (1, .ref (G 0 99)), (2, .ref (a 99))]) hx hb dL_law_821 hl (k := 3) rfl rfl (by decide) rfl (fun ls hl => ?_)
            refine lv_goto (tgt := 18) hx hb dL_law_824 (by decide) ?_
            exact ih (i + 4) Z_123 M_125 pl dr e0 _ _ _ h hP hD hS (lv_sub hl [1, 2, 3, 0] rfl)
          · have h := h.2 c_126
            refine lv_iconst (v := 0) hx hb dL_law_782 (by decide) ?_
            exact h.elim
        · have h := h.2.2.2.2.2.2.2.2.2.2.2.2.2.2.2.2.2.2.2.2.2.2.2.2.1 c
          refine lv_asi c ?_
          refine lv_tableIn (off := 752) (tgt := 784) hx hb dL_law_32 (by decide) (by decide) rfl (by decide) ?_
          refine lv_aload_n hx hb dL_law_784 rfl (lv_at hl 1 rfl) ?_
          refine lv_aload_n hx hb dL_law_785 rfl (lv_at hl 0 rfl) ?_
          refine lv_iload_n hx hb dL_law_786 rfl (lv_at hl 3 rfl) ?_
          refine lv_iconst (v := 1) hx hb dL_law_787 (by decide) ?_
          refine lv_iadd hx hb dL_law_788 ?_
          refine va_sld hx hb hX hbl hbA hS h.1 dL_law_789 ?_
          have h := h.2
          have p1 := gB (n := 16) (bs := [bGC G (pl 99) (dr 99) Z.1, bText E (G 1) (Z.2.1 1), bNow E (G 2) (G 3) e0 (Z.2.1 2), bScene E (G 3) (Z.2.1 3), bPlan E pl (Z.2.1 4), bPlan E dr (Z.2.1 5), bRumour E (G 6) (Z.2.1 6), bIm E G (Z.2.1 7), bNow E (G 8) (G 10) e1 (Z.2.1 8), bNow E (G 9) (G 11) e2 (Z.2.1 9), bScene E (G 10) (Z.2.1 10), bScene E (G 11) (Z.2.1 11), bPool E e0 (Z.2.2 0), bPool E e1 (Z.2.2 1), bPool E e2 (Z.2.2 2), bModel E a M]) (bc := [bGC G (pl 99) (dr 99) Z.1, bText E (G 1) (Z.2.1 1), bNow E (G 2) (G 3) e0 (Z.2.1 2), bScene E (G 3) (Z.2.1 3), bPlan E pl (Z.2.1 4), bPlan E dr (Z.2.1 5), bRumour E (G 6) (Z.2.1 6), bIm E G (Z.2.1 7), bNow E (G 8) (G 10) e1 (Z.2.1 8), bNow E (G 9) (G 11) e2 (Z.2.1 9), bScene E (G 10) (Z.2.1 10), bScene E (G 11) (Z.2.1 11), bPool E e0 (Z.2.2 0), bPool E e1 (Z.2.2 1), bPool E e2 (Z.2.2 2)]) (br := [bModel E a M]) [0, 1, 2, 3, 4, 5, 6, 7, 8, 9, 10, 11, 12, 13, 14, 15] rfl rfl (by decide)
          refine g_i (g_runV (As := [.int (xs (i + 1).toNatClampNeg)]) (rest := []) ⟨hx, hb, hml, hown, ht⟩ hE (c_X5_count E l G pl dr e0 e1 e2 Z (xs (i + 1).toNatClampNeg) _ h) ⟨rfl, rfl⟩ wk_L_113 wi_X5_count ws_X5_count wn_X5 wc_X5_count yd_X5_count ⟨Nat.le_of_ble_eq_true rfl, Nat.le_of_ble_eq_true rfl⟩ hP hD p1 (ci := 5) rfl rfl rfl rfl rfl hl.1 rfl (lv_room (Nat.le_of_ble_eq_true rfl)) dL_law_790 ⟨Nat.le_of_ble_eq_true rfl, Nat.le_of_ble_eq_true rfl⟩) hP hD hS p1 (fun r_127 _ w H locs h hw hP hD hS => ?_)
          subst hw
          clear p1
          have p2 := gB (n := 16) (bs := [bGC G (pl 99) (dr 99) Z.1, bText E (G 1) (Z.2.1 1), bNow E (G 2) (G 3) e0 (Z.2.1 2), bScene E (G 3) (Z.2.1 3), bPlan E pl (Z.2.1 4), bPlan E dr (Z.2.1 5), bRumour E (G 6) (Z.2.1 6), bIm E G (Z.2.1 7), bNow E (G 8) (G 10) e1 (Z.2.1 8), bNow E (G 9) (G 11) e2 (Z.2.1 9), bScene E (G 10) (Z.2.1 10), bScene E (G 11) (Z.2.1 11), bPool E e0 (Z.2.2 0), bPool E e1 (Z.2.2 1), bPool E e2 (Z.2.2 2), bModel E a M]) (bc := [bGC G (pl 99) (dr 99) Z.1, bText E (G 1) (Z.2.1 1), bNow E (G 2) (G 3) e0 (Z.2.1 2), bScene E (G 3) (Z.2.1 3), bPlan E pl (Z.2.1 4), bPlan E dr (Z.2.1 5), bRumour E (G 6) (Z.2.1 6), bIm E G (Z.2.1 7), bNow E (G 8) (G 10) e1 (Z.2.1 8), bNow E (G 9) (G 11) e2 (Z.2.1 9), bScene E (G 10) (Z.2.1 10), bScene E (G 11) (Z.2.1 11), bPool E e0 (Z.2.2 0), bPool E e1 (Z.2.2 1), bPool E e2 (Z.2.2 2)]) (br := [bModel E a M]) [0, 1, 2, 3, 4, 5, 6, 7, 8, 9, 10, 11, 12, 13, 14, 15] rfl rfl (by decide)
          have hP := gP_perm p2.symm hP
          have hD := gD_perm p2.symm hD
          clear p2
          refine lv_aload_n hx hb dL_law_793 rfl (lv_at hl 2 rfl) ?_
          refine lv_aload_n hx hb dL_law_794 rfl (lv_at hl 0 rfl) ?_
          refine lv_iload_n hx hb dL_law_795 rfl (lv_at hl 3 rfl) ?_
          refine lv_iconst (v := 1) hx hb dL_law_796 (by decide) ?_
          refine lv_iadd hx hb dL_law_797 ?_
          refine va_sld hx hb hX hbl hbA hS h.1 dL_law_798 ?_
          have h := h.2
          have p1 := gB (n := 16) (bs := [bGC G (pl 99) (dr 99) Z.1, bText E (G 1) (Z.2.1 1), bNow E (G 2) (G 3) e0 (Z.2.1 2), bScene E (G 3) (Z.2.1 3), bPlan E pl (Z.2.1 4), bPlan E dr (Z.2.1 5), bRumour E (G 6) (Z.2.1 6), bIm E G (Z.2.1 7), bNow E (G 8) (G 10) e1 (Z.2.1 8), bNow E (G 9) (G 11) e2 (Z.2.1 9), bScene E (G 10) (Z.2.1 10), bScene E (G 11) (Z.2.1 11), bPool E e0 (Z.2.2 0), bPool E e1 (Z.2.2 1), bPool E e2 (Z.2.2 2), bModel E a M]) (bc := [bModel E a M]) (br := [bGC G (pl 99) (dr 99) Z.1, bText E (G 1) (Z.2.1 1), bNow E (G 2) (G 3) e0 (Z.2.1 2), bScene E (G 3) (Z.2.1 3), bPlan E pl (Z.2.1 4), bPlan E dr (Z.2.1 5), bRumour E (G 6) (Z.2.1 6), bIm E G (Z.2.1 7), bNow E (G 8) (G 10) e1 (Z.2.1 8), bNow E (G 9) (G 11) e2 (Z.2.1 9), bScene E (G 10) (Z.2.1 10), bScene E (G 11) (Z.2.1 11), bPool E e0 (Z.2.2 0), bPool E e1 (Z.2.2 1), bPool E e2 (Z.2.2 2)]) [15, 0, 1, 2, 3, 4, 5, 6, 7, 8, 9, 10, 11, 12, 13, 14] rfl rfl (by decide)
          refine g_i (g_runV (As := [.int (xs (i + 1).toNatClampNeg)]) (rest := [.int r_127]) ⟨hx, hb, hml, hown, ht⟩ hE (c_X6_count E l a M (xs (i + 1).toNatClampNeg) _ h) ⟨rfl, rfl⟩ wk_L_116 wi_X6_count ws_X6_count wn_X6 wc_X6_count yd_X6_count ⟨Nat.le_of_ble_eq_true rfl, Nat.le_of_ble_eq_true rfl⟩ hP hD p1 (ci := 6) rfl rfl rfl rfl rfl hl.1 rfl (lv_room (Nat.le_of_ble_eq_true rfl)) dL_law_799 ⟨Nat.le_of_ble_eq_true rfl, Nat.le_of_ble_eq_true rfl⟩) hP hD hS p1 (fun r_128 _ w H locs h hw hP hD hS => ?_)
          subst hw
          clear p1
          have p2 := gB (n := 16) (bs := [bGC G (pl 99) (dr 99) Z.1, bText E (G 1) (Z.2.1 1), bNow E (G 2) (G 3) e0 (Z.2.1 2), bScene E (G 3) (Z.2.1 3), bPlan E pl (Z.2.1 4), bPlan E dr (Z.2.1 5), bRumour E (G 6) (Z.2.1 6), bIm E G (Z.2.1 7), bNow E (G 8) (G 10) e1 (Z.2.1 8), bNow E (G 9) (G 11) e2 (Z.2.1 9), bScene E (G 10) (Z.2.1 10), bScene E (G 11) (Z.2.1 11), bPool E e0 (Z.2.2 0), bPool E e1 (Z.2.2 1), bPool E e2 (Z.2.2 2), bModel E a M]) (bc := [bModel E a M]) (br := [bGC G (pl 99) (dr 99) Z.1, bText E (G 1) (Z.2.1 1), bNow E (G 2) (G 3) e0 (Z.2.1 2), bScene E (G 3) (Z.2.1 3), bPlan E pl (Z.2.1 4), bPlan E dr (Z.2.1 5), bRumour E (G 6) (Z.2.1 6), bIm E G (Z.2.1 7), bNow E (G 8) (G 10) e1 (Z.2.1 8), bNow E (G 9) (G 11) e2 (Z.2.1 9), bScene E (G 10) (Z.2.1 10), bScene E (G 11) (Z.2.1 11), bPool E e0 (Z.2.2 0), bPool E e1 (Z.2.2 1), bPool E e2 (Z.2.2 2)]) [15, 0, 1, 2, 3, 4, 5, 6, 7, 8, 9, 10, 11, 12, 13, 14] rfl rfl (by decide)
          have hP := gP_perm p2.symm hP
          have hD := gD_perm p2.symm hD
          clear p2
          refine lv_icmp_eq (tgt := 821) hx hb dL_law_802 (by decide) (fun c_129 => ?_) (fun c_129 => ?_)
          · have h := h.1 c_129
            refine lv_iinc (v := (i + 4)) (lv' := [(3, .int (i + 4)), (0, .ref b), (1, .ref (G 0 99)), (2, .ref (a 99))]) hx hb dL_law_821 hl (k := 3) rfl rfl (by decide) rfl (fun ls hl => ?_)
            refine lv_goto (tgt := 18) hx hb dL_law_824 (by decide) ?_
            exact ih (i + 4) Z M pl dr e0 _ _ _ h hP hD hS (lv_sub hl [1, 2, 3, 0] rfl)
          · have h := h.2 c_129
            refine lv_iconst (v := 0) hx hb dL_law_805 (by decide) ?_
            exact h.elim
        · have h := h.2.2.2.2.2.2.2.2.2.2.2.2.2.2.2.2.2.2.2.2.2.2.2.2.2.1 c
          refine lv_asi c ?_
          refine lv_tableIn (off := 775) (tgt := 807) hx hb dL_law_32 (by decide) (by decide) rfl (by decide) ?_
          refine lv_aload_n hx hb dL_law_807 rfl (lv_at hl 1 rfl) ?_
          have p1 := gB (n := 16) (bs := [bGC G (pl 99) (dr 99) Z.1, bText E (G 1) (Z.2.1 1), bNow E (G 2) (G 3) e0 (Z.2.1 2), bScene E (G 3) (Z.2.1 3), bPlan E pl (Z.2.1 4), bPlan E dr (Z.2.1 5), bRumour E (G 6) (Z.2.1 6), bIm E G (Z.2.1 7), bNow E (G 8) (G 10) e1 (Z.2.1 8), bNow E (G 9) (G 11) e2 (Z.2.1 9), bScene E (G 10) (Z.2.1 10), bScene E (G 11) (Z.2.1 11), bPool E e0 (Z.2.2 0), bPool E e1 (Z.2.2 1), bPool E e2 (Z.2.2 2), bModel E a M]) (bc := [bGC G (pl 99) (dr 99) Z.1, bText E (G 1) (Z.2.1 1), bNow E (G 2) (G 3) e0 (Z.2.1 2), bScene E (G 3) (Z.2.1 3), bPlan E pl (Z.2.1 4), bPlan E dr (Z.2.1 5), bRumour E (G 6) (Z.2.1 6), bIm E G (Z.2.1 7), bNow E (G 8) (G 10) e1 (Z.2.1 8), bNow E (G 9) (G 11) e2 (Z.2.1 9), bScene E (G 10) (Z.2.1 10), bScene E (G 11) (Z.2.1 11), bPool E e0 (Z.2.2 0), bPool E e1 (Z.2.2 1), bPool E e2 (Z.2.2 2)]) (br := [bModel E a M]) [0, 1, 2, 3, 4, 5, 6, 7, 8, 9, 10, 11, 12, 13, 14, 15] rfl rfl (by decide)
          refine g_l (g_runV (As := []) (rest := []) ⟨hx, hb, hml, hown, ht⟩ hE (c_X5_trace E l G pl dr e0 e1 e2 Z _ h) ⟨rfl, rfl⟩ wk_L_117 wi_X5_trace ws_X5_trace wn_X5 wc_X5_trace yd_X5_trace ⟨Nat.le_of_ble_eq_true rfl, Nat.le_of_ble_eq_true rfl⟩ hP hD p1 (ci := 5) rfl rfl rfl rfl rfl hl.1 rfl (lv_room (Nat.le_of_ble_eq_true rfl)) dL_law_808 ⟨Nat.le_of_ble_eq_true rfl, Nat.le_of_ble_eq_true rfl⟩) hP hD hS p1 (fun r_130 _ w H locs h hw hP hD hS => ?_)
          subst hw
          clear p1
          have p2 := gB (n := 16) (bs := [bGC G (pl 99) (dr 99) Z.1, bText E (G 1) (Z.2.1 1), bNow E (G 2) (G 3) e0 (Z.2.1 2), bScene E (G 3) (Z.2.1 3), bPlan E pl (Z.2.1 4), bPlan E dr (Z.2.1 5), bRumour E (G 6) (Z.2.1 6), bIm E G (Z.2.1 7), bNow E (G 8) (G 10) e1 (Z.2.1 8), bNow E (G 9) (G 11) e2 (Z.2.1 9), bScene E (G 10) (Z.2.1 10), bScene E (G 11) (Z.2.1 11), bPool E e0 (Z.2.2 0), bPool E e1 (Z.2.2 1), bPool E e2 (Z.2.2 2), bModel E a M]) (bc := [bGC G (pl 99) (dr 99) Z.1, bText E (G 1) (Z.2.1 1), bNow E (G 2) (G 3) e0 (Z.2.1 2), bScene E (G 3) (Z.2.1 3), bPlan E pl (Z.2.1 4), bPlan E dr (Z.2.1 5), bRumour E (G 6) (Z.2.1 6), bIm E G (Z.2.1 7), bNow E (G 8) (G 10) e1 (Z.2.1 8), bNow E (G 9) (G 11) e2 (Z.2.1 9), bScene E (G 10) (Z.2.1 10), bScene E (G 11) (Z.2.1 11), bPool E e0 (Z.2.2 0), bPool E e1 (Z.2.2 1), bPool E e2 (Z.2.2 2)]) (br := [bModel E a M]) [0, 1, 2, 3, 4, 5, 6, 7, 8, 9, 10, 11, 12, 13, 14, 15] rfl rfl (by decide)
          have hP := gP_perm p2.symm hP
          have hD := gD_perm p2.symm hD
          clear p2
          refine lv_aload_n hx hb dL_law_811 rfl (lv_at hl 2 rfl) ?_
          have p1 := gB (n := 16) (bs := [bGC G (pl 99) (dr 99) Z.1, bText E (G 1) (Z.2.1 1), bNow E (G 2) (G 3) e0 (Z.2.1 2), bScene E (G 3) (Z.2.1 3), bPlan E pl (Z.2.1 4), bPlan E dr (Z.2.1 5), bRumour E (G 6) (Z.2.1 6), bIm E G (Z.2.1 7), bNow E (G 8) (G 10) e1 (Z.2.1 8), bNow E (G 9) (G 11) e2 (Z.2.1 9), bScene E (G 10) (Z.2.1 10), bScene E (G 11) (Z.2.1 11), bPool E e0 (Z.2.2 0), bPool E e1 (Z.2.2 1), bPool E e2 (Z.2.2 2), bModel E a M]) (bc := [bModel E a M]) (br := [bGC G (pl 99) (dr 99) Z.1, bText E (G 1) (Z.2.1 1), bNow E (G 2) (G 3) e0 (Z.2.1 2), bScene E (G 3) (Z.2.1 3), bPlan E pl (Z.2.1 4), bPlan E dr (Z.2.1 5), bRumour E (G 6) (Z.2.1 6), bIm E G (Z.2.1 7), bNow E (G 8) (G 10) e1 (Z.2.1 8), bNow E (G 9) (G 11) e2 (Z.2.1 9), bScene E (G 10) (Z.2.1 10), bScene E (G 11) (Z.2.1 11), bPool E e0 (Z.2.2 0), bPool E e1 (Z.2.2 1), bPool E e2 (Z.2.2 2)]) [15, 0, 1, 2, 3, 4, 5, 6, 7, 8, 9, 10, 11, 12, 13, 14] rfl rfl (by decide)
          refine g_l (g_runV (As := []) (rest := [.long r_130]) ⟨hx, hb, hml, hown, ht⟩ hE (c_X6_trace E l a M _ h) ⟨rfl, rfl⟩ wk_L_121 wi_X6_trace ws_X6_trace wn_X6 wc_X6_trace yd_X6_trace ⟨Nat.le_of_ble_eq_true rfl, Nat.le_of_ble_eq_true rfl⟩ hP hD p1 (ci := 6) rfl rfl rfl rfl rfl hl.1 rfl (lv_room (Nat.le_of_ble_eq_true rfl)) dL_law_812 ⟨Nat.le_of_ble_eq_true rfl, Nat.le_of_ble_eq_true rfl⟩) hP hD hS p1 (fun r_131 _ w H locs h hw hP hD hS => ?_)
          subst hw
          clear p1
          have p2 := gB (n := 16) (bs := [bGC G (pl 99) (dr 99) Z.1, bText E (G 1) (Z.2.1 1), bNow E (G 2) (G 3) e0 (Z.2.1 2), bScene E (G 3) (Z.2.1 3), bPlan E pl (Z.2.1 4), bPlan E dr (Z.2.1 5), bRumour E (G 6) (Z.2.1 6), bIm E G (Z.2.1 7), bNow E (G 8) (G 10) e1 (Z.2.1 8), bNow E (G 9) (G 11) e2 (Z.2.1 9), bScene E (G 10) (Z.2.1 10), bScene E (G 11) (Z.2.1 11), bPool E e0 (Z.2.2 0), bPool E e1 (Z.2.2 1), bPool E e2 (Z.2.2 2), bModel E a M]) (bc := [bModel E a M]) (br := [bGC G (pl 99) (dr 99) Z.1, bText E (G 1) (Z.2.1 1), bNow E (G 2) (G 3) e0 (Z.2.1 2), bScene E (G 3) (Z.2.1 3), bPlan E pl (Z.2.1 4), bPlan E dr (Z.2.1 5), bRumour E (G 6) (Z.2.1 6), bIm E G (Z.2.1 7), bNow E (G 8) (G 10) e1 (Z.2.1 8), bNow E (G 9) (G 11) e2 (Z.2.1 9), bScene E (G 10) (Z.2.1 10), bScene E (G 11) (Z.2.1 11), bPool E e0 (Z.2.2 0), bPool E e1 (Z.2.2 1), bPool E e2 (Z.2.2 2)]) [15, 0, 1, 2, 3, 4, 5, 6, 7, 8, 9, 10, 11, 12, 13, 14] rfl rfl (by decide)
          have hP := gP_perm p2.symm hP
          have hD := gD_perm p2.symm hD
          clear p2
          refine W.lcmp hx hb dL_law_815 ?_
          refine lv_if_eq (tgt := 821) hx hb dL_law_816 (by decide) (fun c_132 => ?_) (fun c_132 => ?_)
          · have h := h.1 c_132
            refine lv_iinc (v := (i + 4)) (lv' := [(3, .int (i + 4)), (0, .ref b), (1, .ref (G 0 99)), (2, .ref (a 99))]) hx hb dL_law_821 hl (k := 3) rfl rfl (by decide) rfl (fun ls hl => ?_)
            refine lv_goto (tgt := 18) hx hb dL_law_824 (by decide) ?_
            exact ih (i + 4) Z M pl dr e0 _ _ _ h hP hD hS (lv_sub hl [1, 2, 3, 0] rfl)
          · have h := h.2 c_132
            refine lv_iconst (v := 0) hx hb dL_law_819 (by decide) ?_
            exact h.elim
        · have h := h.2.2.2.2.2.2.2.2.2.2.2.2.2.2.2.2.2.2.2.2.2.2.2.2.2.2 c
          refine lv_tableOut (tgt := 821) hx hb dL_law_32 c (by decide) ?_
          refine lv_iinc (v := (i + 4)) (lv' := [(3, .int (i + 4)), (0, .ref b), (1, .ref (G 0 99)), (2, .ref (a 99))]) hx hb dL_law_821 hl (k := 3) rfl rfl (by decide) rfl (fun ls hl => ?_)
          refine lv_goto (tgt := 18) hx hb dL_law_824 (by decide) ?_
          exact ih (i + 4) Z M pl dr e0 _ _ _ h hP hD hS (lv_sub hl [1, 2, 3, 0] rfl)
