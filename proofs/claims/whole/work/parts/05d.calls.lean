/-! a method's contract over the world; its entry, its ends, its calls -/
def kQc (G : kG) (A : Nat → Prop) (o : Option Value) (st' : kM) : Array Value → State → Outcome → State → Prop := fun _ u oc t => (oc = .returned o ∧ va_P G.1 vwCl (kW G st') t.heap) ∧ va_F A u t
def kPc (G : kG) (av : List Value) (st : kM) (sz : Nat) : Array Value → State → Prop := va_Pc av (fun U => U.heap.size = sz ∧ va_P G.1 vwCl (kW G st) U.heap ∧ kFx G (va_A (kW G st) sz) U)
def kCt (G : kG) (y : MethodName) (cc : ByteArray) (nL : Nat) (ret : Option FieldType) (rm : Room) (av : List Value) (st : kM) (o : Option Value) (st' : kM) : Prop :=
  ∀ (l : Launch) (sz : Nat), Met l y (.code y cc nL ret :: kw) rm (kPc G av st sz) (kQc G (va_A (kW G st) sz) o st') 0 0 (va_A (kW G st) sz)
def kEnd (Z : kZ) (ret : Option FieldType) (o : Option Value) (st' : kM) : Prop :=
  (kzH Z).sig.returnType = ret ∧ (kzH Z).locks = false ∧ kzQ Z = MQ (kzB Z) (kQc (kzG Z) (kzA Z) o st') (kzV Z) (kzS Z) (kzc Z) (kzs Z) (kzA Z)
theorem kFx.same {G : kG} {A : Nat → Prop} {u U : State} (hv : U.vm = u.vm) (hh : U.heap = u.heap) (h : kFx G A u) : kFx G A U := by
  obtain ⟨h1, h2, h3, h4, h5, h6, h7, h8⟩ := h
  have ha : u.vm.Alike U.vm := by rw [hv]; exact Vm.Alike.refl u.vm
  refine ⟨h1.moved ha, h2, h3, fun q hq => h4 q (by rw [← hh]; exact hq), ?_, fun i hi => (h6 i hi).same hv, ?_, ?_⟩
  · rw [hh]; exact h5.moved ha
  · rw [hh]; exact h7.moved ha
  · rw [hh]; exact h8.moved ha
theorem kFx.call {G : kG} {A : Nat → Prop} {s U : State} {st : kM} {H : Heap} {locs : List Loc} (h : kFx G A s) (hP : va_P G.1 vwCl (kW G st) H) (hS : va_S A s.heap H locs) (hU : U.heap = H) (hW : s.WarmedH U.vm) : kFx G (va_A (kW G st) H.size) U := by
  obtain ⟨h1, h2, h3, h4, h5, h6, h7, h8⟩ := h
  have hAB : ∀ q, va_A (kW G st) H.size q → A q := by
    intro q hq
    rcases hq with ⟨k, e, hk⟩ | hq
    · obtain ⟨g1, g2⟩ := kW_out hk
      cases g2
      exact h3 k g1
    · exact h4 q (Nat.le_trans hS.1 hq)
  refine ⟨h1.moved hW.alike, h2, fun i hi => Or.inl ⟨i, _, kW_at hi⟩, fun q hq => Or.inr (by rw [← hU]; exact hq), ?_, fun i hi => (h6 i hi).warm hW, ?_, ?_⟩
  · rw [hU]; exact ((h5.kept hS.2.1).moved hW.alike).narrow hAB
  · rw [hU]; exact ((h7.kept hS.2.1).moved hW.alike).narrow hAB
  · rw [hU]; exact ((h8.kept hS.2.1).moved hW.alike).narrow hAB
theorem kPc.blind {G : kG} {av : List Value} {st : kM} {sz : Nat} : FrameBlind (kPc G av st sz) := by
  intro a U g mk h
  obtain ⟨h1, h2, h3, h4⟩ := h
  exact ⟨h1, h2, h3, h4.same rfl rfl⟩
/-- a method, from its entry -/
theorem kMet {G : kG} {y : MethodName} {cc : ByteArray} {nL : Nat} {ret : Option FieldType} {rm : Room} {av : List Value} {st st' : kM} {o : Option Value} (hy : plainName y.cls = true) (hn : (lg_sl av).length ≤ nL) (hcs : rm.cells = 0 ∧ rm.slots = 0)
    (body : ∀ (X : kX) (A : Nat → Prop) (Q : State → Prop), kC (X, G, A, Q, 0, 0) cc y.cls nL rm → kEnd (X, G, A, Q, 0, 0) ret o st' → kV (X, G, A, Q, 0, 0) nL 0 (lv_args 0 av) [] st) : kCt G y cc nL ret rm av st o st' := by
  intro l sz
  refine Met.ofW (cc := cc) (maxL := nL) (ret := ret) hy rfl ?_
  intro p e s m args below meth c s₁ B hml hv
  obtain ⟨rfl, hsz, hP, hF⟩ := hv
  have hts := atoms_spec (ws := .code y cc nL ret :: kw) B.pre
  have hl := lv_entry av (n := nL) hn
  rw [lg_entry_eq]
  generalize (lg_sl av ++ List.replicate (nL - (lg_sl av).length) Slot.unset).toArray = ls at hl ⊢
  subst hsz
  refine body (p, l, e, _, s, m, av.toArray, below, meth, c) (va_A (kW G st) s.heap.size) _ ?_ ?_ s.heap [] ls hP va_S.rf hl
  · exact ⟨B.exec, B.bytes, hml, findClass_of_methodNamed B.named, fun w hw => hts w (List.mem_cons_of_mem _ hw), rfl, ⟨Nat.zero_le _, Nat.zero_le _⟩, hF⟩
  · exact ⟨B.returns, B.notSynchronized, rfl⟩
section
variable {Z : kZ} {cc : ByteArray} {own : String} {nL pc pc' : Nat} {rm : Room} {lv lv' : List (Nat × Value)} {stk : List Value} {st st' : kM}
theorem k_iret (C : kC Z cc own nL rm) {x : Int32} {res : Int32 × kM} (K : kEnd Z (some .int) (some (.int res.1)) res.2) (hf : some (x, st) = some res) (hdg : decode cc pc = .ok (.ireturn, 1)) : kV Z nL pc lv [.int x] st := by
  cases hf
  intro H locs ls hP hS hl
  unfold kWW
  rw [K.2.2]
  exact W.iret C.exec C.bytes K.1 (fun t ht hW => ⟨⟨rfl, by rw [ht]; exact hP⟩, hS.F ht⟩) hS.2.2 hdg K.2.1
theorem k_zret (C : kC Z cc own nL rm) {x : Int32} {ty : FieldType} {res : Int32 × kM} (K : kEnd Z (some ty) (some (.int res.1)) res.2) (hf : some (x, st) = some res) (hn : narrow ty (.int x) = .int x) (hdg : decode cc pc = .ok (.ireturn, 1)) : kV Z nL pc lv [.int x] st := by
  cases hf
  intro H locs ls hP hS hl
  unfold kWW
  rw [K.2.2]
  exact W.zret C.exec C.bytes K.1 hn (fun t ht hW => ⟨⟨rfl, by rw [ht]; exact hP⟩, hS.F ht⟩) hS.2.2 hdg K.2.1
theorem k_lret (C : kC Z cc own nL rm) {x : Int64} {res : Int64 × kM} (K : kEnd Z (some .long) (some (.long res.1)) res.2) (hf : some (x, st) = some res) (hdg : decode cc pc = .ok (.lreturn, 1)) : kV Z nL pc lv [.long x] st := by
  cases hf
  intro H locs ls hP hS hl
  unfold kWW
  rw [K.2.2]
  exact W.lret C.exec C.bytes K.1 (fun t ht hW => ⟨⟨rfl, by rw [ht]; exact hP⟩, hS.F ht⟩) hS.2.2 hdg K.2.1
theorem k_vret (C : kC Z cc own nL rm) {res : kM} (K : kEnd Z none none res) (hf : some st = some res) (hdg : decode cc pc = .ok (.return_, 1)) : kV Z nL pc lv [] st := by
  cases hf
  intro H locs ls hP hS hl
  unfold kWW
  rw [K.2.2]
  exact W.vret C.exec C.bytes K.1 (fun t ht hW => ⟨⟨rfl, by rw [ht]; exact hP⟩, hS.F ht⟩) hS.2.2 hdg K.2.1
/-- the answer is a string of TextReader -/
theorem k_sret (C : kC Z cc own nL rm) {x : Nat} {CN : String} {res : Nat × kM} (K : kEnd Z (some (.object CN)) (some (ks Z res.1)) res.2) (hf : some (x, st) = some res) (hdg : decode cc pc = .ok (.areturn, 1)) : kV Z nL pc lv [ks Z x] st := by
  cases hf
  intro H locs ls hP hS hl
  unfold kWW
  rw [K.2.2]
  exact W.aret C.exec C.bytes K.1 (Or.inl ⟨_, rfl⟩) (Or.inr ⟨_, rfl⟩) (fun t ht hW => ⟨⟨rfl, by rw [ht]; exact hP⟩, hS.F ht⟩) hS.2.2 hdg K.2.1
theorem goodIn_appk {big a b : List Cond} (ha : GoodIn big a) (hb : GoodIn big b) : GoodIn big (a ++ b) := fun w h => (List.mem_append.mp h).elim (ha w) (hb w)
/-- behind a call -/
theorem k_back {y : MethodName} {o : Option Value} {H : Heap} {locs : List Loc} {ls : Array Slot} {stk0 : List Value} {a : Array Value} (hx : kFx (kzG Z) (kzA Z) (kzS Z)) (hr : va_Run (kzP Z) Z.1.2.1 Z.1.2.2.1 (kzR Z) (kzS Z) (kzM Z) (kzV Z) (kzB Z) (kzH Z) (kzC Z) H locs (kzc Z) (kzs Z) 0 0 (F0 (kzM Z) pc ls stk0) stk (kQc (kzG Z) (va_A (kW (kzG Z) st) H.size) o st' a) (va_A (kW (kzG Z) st) H.size)) (hS : va_S (kzA Z) (kzS Z).heap H locs) (hl : lv_has ls nL lv) (k : kV Z nL (pc + 3) lv (o.toList ++ stk) st') : kWW Z H locs (F0 (kzM Z) pc ls stk0) := by
  have hAB : ∀ q, va_A (kW (kzG Z) st) H.size q → kzA Z q := by
    intro q hq
    rcases hq with ⟨j, e, hk⟩ | hq
    · obtain ⟨g1, g2⟩ := kW_out hk
      cases g2
      exact hx.2.2.1 j g1
    · exact hx.2.2.2.1 q (Nat.le_trans hS.1 hq)
  intro T hT X
  obtain ⟨v, st₀, t, T', L, h0, X', hL, e1, e2, ⟨⟨hv, hb⟩, hz, hk⟩, sts⟩ := hr T hT X
  cases hv
  rw [h0] at hz hk
  obtain ⟨t2, a1, b1⟩ := k T'.heap (locs ++ L) ls (by rw [e1]; exact hb) ⟨Nat.le_trans hS.1 (by rw [e1]; exact hz), fun q h1 h2 => by rw [e1, hk q (Nat.lt_of_lt_of_le h1 hS.1) (fun z => h2 (hAB q z))]; exact hS.2.1 q h1 h2, fun q hq => by
      rcases List.mem_append.mp hq with h | h
      · exact hS.2.2 q h
      · exact hAB _ (hL q h)⟩ hl T' rfl X'
  exact ⟨t2, sts t2 a1, b1⟩
theorem k_good {y : MethodName} {cc' : ByteArray} {nL' : Nat} {ret : Option FieldType} (h : Cond.code y cc' nL' ret ∈ kw) : GoodIn kw (.code y cc' nL' ret :: kw) := by
  intro w hw
  have : w ∈ kw := by
    rcases List.mem_cons.mp hw with rfl | q
    · exact h
    · exact q
  exact ⟨this, good_of_word (kw_good this)⟩
theorem k_callV (C : kC Z cc own nL rm) {y : MethodName} {cc' : ByteArray} {nL' index n c kk : Nat} {CN : String} {T : u_T} {N : Nat} {ret : Option FieldType} {rm' : Room} {o : Option Value} (As : List Value) (hct : kCt (kzG Z) y cc' nL' ret rm' (kr Z c :: As) st o st') (hk : kd c = kk) (h7 : kk < 7) (hc : vwCl[kk]? = some (CN, T, N))
    (w1 : Cond.methodLink own index y ∈ kw) (w2 : Cond.instanceMethod y ∈ kw) (w3 : Cond.selects CN y y ∈ kw) (w4 : Cond.initialized CN ∈ kw) (w5 : Cond.code y cc' nL' ret ∈ kw)
    (hd : y.cls = CN ∧ y.cls ≠ "java/lang/invoke/MethodHandle" ∧ y.cls ≠ "java/lang/invoke/VarHandle" ∧ (parseMethodDescriptor y.desc).map (fun d => d.parameters.length) = some n) (hn : As.length = n) (hR : rm'.frames + 1 ≤ rm.frames ∧ 8 + (nL' + 11) + rm'.locals ≤ rm.locals) (hz : rm'.cells = 0 ∧ rm'.slots = 0) (hcat : (stk.map fun v => v.category).sum ≤ 8)
    (hdg : decode cc pc = .ok (.invokevirtual index, 3)) (hp : pc + 3 = pc') (k : kV Z nL pc' lv (o.toList ++ stk) st') {stk0 : List Value} (hstk : stk0 = As.reverse ++ kr Z c :: stk) : kV Z nL pc lv stk0 st := by
  subst hp
  intro H locs ls hP hS hl
  have hG : GoodIn kw (wsV own index CN y (.code y cc' nL' ret :: kw)) := goodIn_appk (fun w hw => by
      simp only [List.mem_cons, List.not_mem_nil, or_false] at hw
      rcases hw with rfl | rfl | rfl | rfl <;> first | exact ⟨w1, good_of_word (kw_good w1)⟩ | exact ⟨w2, good_of_word (kw_good w2)⟩ | exact ⟨w3, good_of_word (kw_good w3)⟩ | exact ⟨w4, good_of_word (kw_good w4)⟩) (k_good w5)
  have hrec : ∃ cell : Cell, H[(kzG Z).2.1 c]? = some cell ∧ cell.vm.isStatics = false ∧ (kzS Z).vm.findClass CN = some cell.cls := va_recv C.K hP hc (q0 := c) (by rw [kW_at (kd_lt (by omega)), kE_obj hk h7])
  refine k_back (y := y) C.fx (va_runV (As := As) (rest := stk) ⟨C.exec, C.bytes, C.maxL, C.hown, C.hts⟩ (hct Z.1.2.1 H.size) (cwV n C.hts hG rfl hz.1 hz.2 hd (by rw [C.room]; exact hR)) ⟨kPc.blind, hrec, fun U hU hW => ⟨rfl, by rw [hU], by rw [hU]; exact hP, C.fx.call hP hS hU hW⟩⟩ rfl hn hl.1 hstk (lv_room hcat) hdg ⟨?_, ?_⟩) hS hl k
  · rw [C.room]; exact C.cs.1
  · rw [C.room]; exact C.cs.2
theorem k_callS (C : kC Z cc own nL rm) {y : MethodName} {cc' : ByteArray} {nL' index n : Nat} {ret : Option FieldType} {rm' : Room} {o : Option Value} (As : List Value) (hct : kCt (kzG Z) y cc' nL' ret rm' As st o st')
    (w1 : Cond.methodLink own index y ∈ kw) (w2 : Cond.static y ∈ kw) (w4 : Cond.initialized y.cls ∈ kw) (w5 : Cond.code y cc' nL' ret ∈ kw)
    (hd : y.cls ≠ "java/lang/invoke/MethodHandle" ∧ y.cls ≠ "java/lang/invoke/VarHandle" ∧ (parseMethodDescriptor y.desc).map (fun d => d.parameters.length) = some n) (hn : As.length = n) (hR : rm'.frames + 1 ≤ rm.frames ∧ 8 + (nL' + 11) + rm'.locals ≤ rm.locals) (hz : rm'.cells = 0 ∧ rm'.slots = 0) (hcat : (stk.map fun v => v.category).sum ≤ 8)
    (hdg : decode cc pc = .ok (.invokestatic index, 3)) (hp : pc + 3 = pc') (k : kV Z nL pc' lv (o.toList ++ stk) st') {stk0 : List Value} (hstk : stk0 = As.reverse ++ stk) : kV Z nL pc lv stk0 st := by
  subst hp
  intro H locs ls hP hS hl
  have hG : GoodIn kw (va_wsS own index y (.code y cc' nL' ret :: kw)) := goodIn_appk (fun w hw => by
      simp only [List.mem_cons, List.not_mem_nil, or_false] at hw
      rcases hw with rfl | rfl | rfl <;> first | exact ⟨w1, good_of_word (kw_good w1)⟩ | exact ⟨w2, good_of_word (kw_good w2)⟩ | exact ⟨w4, good_of_word (kw_good w4)⟩) (k_good w5)
  refine k_back (y := y) C.fx (va_runS (As := As) (rest := stk) ⟨C.exec, C.bytes, C.maxL, C.hown, C.hts⟩ (hct Z.1.2.1 H.size) (va_cwS n C.hts hG rfl hz.1 hz.2 hd (by rw [C.room]; exact hR)) ⟨kPc.blind, fun U hU hW => ⟨rfl, by rw [hU], by rw [hU]; exact hP, C.fx.call hP hS hU hW⟩⟩ rfl hn hl.1 hstk (lv_room hcat) hdg ⟨?_, ?_⟩) hS hl k
  · rw [C.room]; exact C.cs.1
  · rw [C.room]; exact C.cs.2
-- Math, System
theorem k_mmax (C : kC Z cc own nL rm) {x y : Int32} {index : Nat} (w1 : Cond.methodLink own index Lib.Math.max.name ∈ kw) (w2 : Cond.static Lib.Math.max.name ∈ kw) (w3 : Cond.initialized "java/lang/Math" ∈ kw) (w4 : Cond.code Lib.Math.max.name Lib.Math.max.code 2 (some .int) ∈ kw) (hR : 1 ≤ rm.frames ∧ 21 ≤ rm.locals) (hcat : (stk.map fun v => v.category).sum ≤ 8) (hdg : decode cc pc = .ok (.invokestatic index, 3)) (hp : pc + 3 = pc') (k : kV Z nL pc' lv (.int (if x < y then y else x) :: stk) st) : kV Z nL pc lv (.int y :: .int x :: stk) st := by
  intro H locs ls hP hS hl
  exact va_mmax C.exec C.bytes (by rw [C.maxL]; exact hl.1.symm) C.hown (C.hts _ w1) (C.hts _ w2) (C.hts _ w3) (C.hts _ w4) (by rw [C.room]; exact hR.1) (by rw [C.room]; omega) (by rw [C.room]; exact C.cs.1) (by rw [C.room]; exact C.cs.2) hdg (hp ▸ k H locs ls hP hS hl)
theorem k_mmin (C : kC Z cc own nL rm) {x y : Int32} {index : Nat} (w1 : Cond.methodLink own index Lib.Math.min.name ∈ kw) (w2 : Cond.static Lib.Math.min.name ∈ kw) (w3 : Cond.initialized "java/lang/Math" ∈ kw) (w4 : Cond.code Lib.Math.min.name Lib.Math.min.code 2 (some .int) ∈ kw) (hR : 1 ≤ rm.frames ∧ 21 ≤ rm.locals) (hcat : (stk.map fun v => v.category).sum ≤ 8) (hdg : decode cc pc = .ok (.invokestatic index, 3)) (hp : pc + 3 = pc') (k : kV Z nL pc' lv (.int (if y < x then y else x) :: stk) st) : kV Z nL pc lv (.int y :: .int x :: stk) st := by
  intro H locs ls hP hS hl
  exact va_mmin C.exec C.bytes (by rw [C.maxL]; exact hl.1.symm) C.hown (C.hts _ w1) (C.hts _ w2) (C.hts _ w3) (C.hts _ w4) (by rw [C.room]; exact hR.1) (by rw [C.room]; omega) (by rw [C.room]; exact C.cs.1) (by rw [C.room]; exact C.cs.2) hdg (hp ▸ k H locs ls hP hS hl)
/-- a String constant of TextReader -/
theorem k_ldcS (C : kC Z cc RX3 nL rm) {index : Nat} (i : Nat) (hi : i < kSn) (hx : kSi i = index) (hdg : decode cc pc = .ok (.ldc index, 2)) (hp : pc + 2 = pc') (k : kV Z nL pc' lv (ks Z i :: stk) st) : kV Z nL pc lv stk st := fun H locs ls hP hS hl => va_ldcS C.exec C.bytes C.hown (C.fx.2.2.2.2.2.1 i hi) (by rw [hx]; exact hdg) (hp ▸ k H locs ls hP hS hl)
/-- System.arraycopy of ints, of longs -/
theorem k_copyi (C : kC Z cc own nL rm) {c0 c1 n0 n1 index : Nat} {sp dp n : Int32} (w1 : Cond.methodLink own index arraycopyName ∈ kw) (w2 : Cond.native arraycopyName ∈ kw) (w3 : Cond.static arraycopyName ∈ kw) (w4 : Cond.initialized "java/lang/System" ∈ kw) (h0 : kd c0 = 7 ∧ kl c0 = n0) (h1 : kd c1 = 7 ∧ kl c1 = n1) (g1 : ¬ sp < 0) (g2 : ¬ dp < 0) (g3 : ¬ n < 0) (g4 : sp.toNatClampNeg + n.toNatClampNeg ≤ n0) (g5 : dp.toNatClampNeg + n.toNatClampNeg ≤ n1) (hR : 1 ≤ rm.frames ∧ 40 ≤ rm.locals) (hcat : (stk.map fun v => v.category).sum ≤ 8) (hdg : decode cc pc = .ok (.invokestatic index, 3)) (hp : pc + 3 = pc')
    (k : kV Z nL pc' lv stk (kset st c1 (va_cpy (st.1 c0) (st.1 c1) sp.toNatClampNeg dp.toNatClampNeg n.toNatClampNeg))) : kV Z nL pc lv (.int n :: .int dp :: kr Z c1 :: .int sp :: kr Z c0 :: stk) st := by
  intro H locs ls hP hS hl
  refine va_copyi (D := (kzG Z).1) C.exec C.bytes (by rw [C.maxL]; exact hl.1.symm) C.hown (C.hts _ w1) (C.hts _ w2) (C.hts _ w3) (C.hts _ w4) C.K hP (C.D st) hS c0 c1 0 0 (c0 := (kzG Z).2.2.1 0) (c1 := (kzG Z).2.2.1 0) (n0 := n0) (n1 := n1) (f := st.1 c0) (g := st.1 c1) (ty := .int) (by rw [kW_at (kd_lt (by omega)), kE_arr h0.1 (by omega)]; simp only [kA, h0.2]) (by rw [kW_at (kd_lt (by omega)), kE_arr h1.1 (by omega)]; simp only [kA, h1.2]) rfl rfl rfl g1 g2 g3 g4 g5 (fun _ _ => rfl) (by rw [C.room]; exact hR.1) ?_ hdg (fun H1 locs1 hP1 _ hS1 => ?_)
  · rw [C.room]
    have : nativeFrameWords "java/lang/System" "arraycopy" 5 + 11 ≤ 32 := by decide
    omega
  · rw [kW_set (st' := kset st c1 (va_cpy (st.1 c0) (st.1 c1) sp.toNatClampNeg dp.toNatClampNeg n.toNatClampNeg)) (kd_lt (by omega)) (by rw [kE_arr h1.1 (by omega)]; simp only [kA, h1.2, kset, va_up_self]) (fun b hb => kE_set b hb)] at hP1
    exact hp ▸ k H1 locs1 ls hP1 hS1 hl
theorem k_copyl (C : kC Z cc own nL rm) {c0 c1 n0 n1 index : Nat} {sp dp n : Int32} (w1 : Cond.methodLink own index arraycopyName ∈ kw) (w2 : Cond.native arraycopyName ∈ kw) (w3 : Cond.static arraycopyName ∈ kw) (w4 : Cond.initialized "java/lang/System" ∈ kw) (h0 : kd c0 = 8 ∧ kl c0 = n0) (h1 : kd c1 = 8 ∧ kl c1 = n1) (g1 : ¬ sp < 0) (g2 : ¬ dp < 0) (g3 : ¬ n < 0) (g4 : sp.toNatClampNeg + n.toNatClampNeg ≤ n0) (g5 : dp.toNatClampNeg + n.toNatClampNeg ≤ n1) (hR : 1 ≤ rm.frames ∧ 40 ≤ rm.locals) (hcat : (stk.map fun v => v.category).sum ≤ 8) (hdg : decode cc pc = .ok (.invokestatic index, 3)) (hp : pc + 3 = pc')
    (k : kV Z nL pc' lv stk (ksetL st c1 (va_cpy (st.2 c0) (st.2 c1) sp.toNatClampNeg dp.toNatClampNeg n.toNatClampNeg))) : kV Z nL pc lv (.int n :: .int dp :: kr Z c1 :: .int sp :: kr Z c0 :: stk) st := by
  intro H locs ls hP hS hl
  refine va_copyl (D := (kzG Z).1) C.exec C.bytes (by rw [C.maxL]; exact hl.1.symm) C.hown (C.hts _ w1) (C.hts _ w2) (C.hts _ w3) (C.hts _ w4) C.K hP (C.D st) hS c0 c1 1 1 (c0 := (kzG Z).2.2.1 1) (c1 := (kzG Z).2.2.1 1) (n0 := n0) (n1 := n1) (f := st.2 c0) (g := st.2 c1) (ty := .long) (by rw [kW_at (kd_lt (by omega)), kE_arr h0.1 (by omega)]; simp only [kA, h0.2]) (by rw [kW_at (kd_lt (by omega)), kE_arr h1.1 (by omega)]; simp only [kA, h1.2]) rfl rfl rfl g1 g2 g3 g4 g5 (fun _ _ => rfl) (by rw [C.room]; exact hR.1) ?_ hdg (fun H1 locs1 hP1 _ hS1 => ?_)
  · rw [C.room]
    have : nativeFrameWords "java/lang/System" "arraycopy" 5 + 11 ≤ 32 := by decide
    omega
  · rw [kW_set (st' := ksetL st c1 (va_cpy (st.2 c0) (st.2 c1) sp.toNatClampNeg dp.toNatClampNeg n.toNatClampNeg)) (kd_lt (by omega)) (by rw [kE_arr h1.1 (by omega)]; simp only [kA, h1.2, ksetL, va_up_self]) (fun b hb => kE_setL b hb)] at hP1
    exact hp ▸ k H1 locs1 ls hP1 hS1 hl
end
