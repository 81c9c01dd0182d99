def kQu (G : kG) (ws : va_W) (sz : Nat) (B : va_W → Prop) : Array Value → State → Outcome → State → Prop := fun _ u oc t => (oc = .returned none ∧ ∃ w1, B w1 ∧ va_P G.1 vwCl w1 t.heap ∧ va_D (va_A ws sz) w1) ∧ va_F (va_A ws sz) u t
/-- a constructor's contract (or that of a method of a world that is being made): from the cells ws it comes to cells as B says -/
def kCu (G : kG) (y : MethodName) (cc : ByteArray) (nL : Nat) (rm : Room) (av : List Value) (ws : va_W) (B : va_W → Prop) (mc ms : Nat) : Prop :=
  ∀ (l : Launch) (sz : Nat), Met l y (.code y cc nL none :: kw) rm (va_Pc av (fun U => U.heap.size = sz ∧ va_P G.1 vwCl ws U.heap ∧ kFu G U ∧ va_D (fun _ => True) ws)) (kQu G ws sz B) mc ms (va_A ws sz)
def kEu (Z : kZ) (nL : Nat) (cc : ByteArray) (B : va_W → Prop) (mc ms : Nat) : Prop := ∀ (pc : Nat) (lv : List (Nat × Value)) (w1 : va_W), B w1 → decode cc pc = .ok (.return_, 1) → kI Z nL pc lv [] w1 mc ms
theorem kFu.moved {G : kG} {u U : State} (hvm : u.vm.Alike U.vm) (h : kFu G u) : kFu G U := ⟨h.1.moved hvm, va_AO.moved hvm h.2.1, va_AO.moved hvm h.2.2⟩
theorem kMetU {G : kG} {y : MethodName} {cc : ByteArray} {nL : Nat} {rm : Room} {av : List Value} {ws : va_W} {B : va_W → Prop} {mc ms : Nat} (hy : plainName y.cls = true) (hn : (lg_sl av).length ≤ nL)
    (body : ∀ (X : kX) (A : Nat → Prop) (Q : State → Prop), kD (X, G, A, Q, 0, 0) cc y.cls nL rm → (y.name = "<init>" → (kzH (X, G, A, Q, 0, 0)).name = "<init>") → kEu (X, G, A, Q, 0, 0) nL cc B mc ms → kI (X, G, A, Q, 0, 0) nL 0 (lv_args 0 av) [] ws 0 0) : kCu G y cc nL rm av ws B mc ms := by
  intro l sz
  refine Met.ofW (cc := cc) (maxL := nL) (ret := none) hy rfl ?_
  intro p e s m args below meth c s₁ Bd hml hv
  obtain ⟨rfl, hsz, hP, hF, hD0⟩ := hv
  have hts := atoms_spec (ws := .code y cc nL none :: kw) Bd.pre
  have hl := lv_entry av (n := nL) hn
  rw [lg_entry_eq]
  generalize (lg_sl av ++ List.replicate (nL - (lg_sl av).length) Slot.unset).toArray = ls at hl ⊢
  subst hsz
  have hD := hD0.self (sz := s.heap.size)
  refine body (p, l, e, _, s, m, av.toArray, below, meth, c) (va_A ws s.heap.size) (MQ below (kQu G ws s.heap.size B) av.toArray s mc ms (va_A ws s.heap.size)) ?_ (fun h => (name_of_methodNamed Bd.named Bd.method).1.trans h) ?_ s.heap [] ls hP hD va_S.rf hl
  · exact ⟨Bd.exec, Bd.bytes, hml, findClass_of_methodNamed Bd.named, fun w hw => hts w (List.mem_cons_of_mem _ hw), rfl, fun q hq => Or.inr hq, hF⟩
  · intro pc lv w1 hB hdg H locs ls2 hP1 hD1 hS1 hl1
    exact W.vret (Qc := kQu G ws s.heap.size B) (free := va_A ws s.heap.size) Bd.exec Bd.bytes Bd.returns (fun t ht hW => ⟨⟨rfl, w1, hB, by rw [ht]; exact hP1, hD1⟩, hS1.F ht⟩) hS1.2.2 hdg Bd.notSynchronized
theorem fm_of_map {ws wc : va_W} : ∀ {is : List Nat}, is.map (fun i => ws[i]?) = wc.map some → is.filterMap (fun i => ws[i]?) = wc := by
  intro is
  induction is generalizing wc with
  | nil => intro h; cases wc with
    | nil => rfl
    | cons a w => cases h
  | cons i is ih => intro h; cases wc with
    | nil => cases h
    | cons a w =>
      simp only [List.map_cons, List.cons.injEq] at h
      rw [List.filterMap_cons, h.1, ih h.2]
section
variable {Z : kZ} {cc : ByteArray} {own : String} {nL pc : Nat} {rm : Room} {lv lv' : List (Nat × Value)} {stk : List Value} {ws ws' wc wr : va_W} {cells slots : Nat}
theorem i_back {B : va_W → Prop} {mc ms : Nat} {H : Heap} {locs : List Loc} {ls : Array Slot} {stk0 : List Value} {a : Array Value} (C : kD Z cc own nL rm) (isC isR : List Nat) (hC : isC.map (fun i => ws[i]?) = wc.map some) (hR : isR.map (fun i => ws[i]?) = wr.map some) (hn : va_nd isR = true) (hdis : ∀ i ∈ isR, i ∉ isC) (hP : va_P (kzG Z).1 vwCl ws H) (hD : va_D (kzA Z) ws)
    (hr : va_Run (kzP Z) Z.1.2.1 Z.1.2.2.1 (kzR Z) (kzS Z) (kzM Z) (kzV Z) (kzB Z) (kzH Z) (kzC Z) H locs cells slots mc ms (F0 (kzM Z) pc ls stk0) stk (kQu (kzG Z) wc H.size B a) (va_A wc H.size)) (hS : va_S (kzA Z) (kzS Z).heap H locs) (hl : lv_has ls nL lv) (k : ∀ w1, B w1 → kI Z nL (pc + 3) lv stk (wr ++ w1) (cells + mc) (slots + ms)) : W (kzP Z) Z.1.2.1 Z.1.2.2.1 (kzR Z) (kzS Z) (kzM Z) (kzV Z) (kzB Z) (kzH Z) (kzC Z) H locs cells slots (kzQ Z) (F0 (kzM Z) pc ls stk0) := by
  have hAB := va_free (wc := wc) hD hS C.hA isC hC
  intro T hT X
  obtain ⟨v, st₀, t, T', L, h0, X', hL, e1, e2, ⟨⟨hv, w1, hB, hP1, hD1⟩, hz, hk⟩, sts⟩ := hr T hT X
  cases hv
  rw [h0] at hz hk
  obtain ⟨hP2, hD2⟩ := va_join (wr := wr) (w1 := w1) (H1 := T'.heap) hP hD isC isR hC hR hn hdis (fun q h1 h2 => by rw [e1]; exact hk q h1 h2) hAB (by rw [e1]; exact hP1) hD1
  obtain ⟨t2, a1, b1⟩ := k w1 hB T'.heap (locs ++ L) ls hP2 hD2 ⟨Nat.le_trans hS.1 (by rw [e1]; exact hz), fun q h1 h2 => by rw [e1, hk q (Nat.lt_of_lt_of_le h1 hS.1) (fun z => h2 (hAB q z))]; exact hS.2.1 q h1 h2, fun q hq => by
      rcases List.mem_append.mp hq with h | h
      · exact hS.2.2 q h
      · exact hAB _ (hL q h)⟩ hl T' rfl X'
  exact ⟨t2, sts t2 a1, b1⟩
theorem kFu.blind {G : kG} {av : List Value} {ws : va_W} {sz : Nat} : FrameBlind (va_Pc av (fun U => U.heap.size = sz ∧ va_P G.1 vwCl ws U.heap ∧ kFu G U ∧ va_D (fun _ => True) ws)) := by
  intro a U g mk h
  obtain ⟨h1, h2, h3, h4, h5⟩ := h
  exact ⟨h1, h2, h3, h4.moved (Vm.Alike.refl U.vm), h5⟩
theorem i_callI (C : kD Z cc own nL rm) {y : MethodName} {cc' : ByteArray} {nL' index n b : Nat} {rm' : Room} {B : va_W → Prop} {mc ms : Nat} (As : List Value) (hct : kCu (kzG Z) y cc' nL' rm' (.ref b :: As) wc B mc ms) (isC isR : List Nat) (hC : isC.map (fun i => ws[i]?) = wc.map some) (hR : isR.map (fun i => ws[i]?) = wr.map some) (hn : va_nd isR = true) (hnC : va_nd isC = true) (hdis : ∀ i ∈ isR, i ∉ isC)
    (w1 : Cond.methodLink own index y ∈ kw) (w2 : Cond.instanceMethod y ∈ kw) (w4 : Cond.initialized y.cls ∈ kw) (w5 : Cond.code y cc' nL' none ∈ kw) (hy1 : y.name = "<init>")
    (hd : y.cls ≠ "java/lang/invoke/MethodHandle" ∧ y.cls ≠ "java/lang/invoke/VarHandle" ∧ (parseMethodDescriptor y.desc).map (fun d => d.parameters.length) = some n) (hln : As.length = n) (hRm : rm'.frames + 1 ≤ rm.frames ∧ 8 + (nL' + 11) + rm'.locals ≤ rm.locals) (hz : rm'.cells = mc ∧ rm'.slots = ms) (hcs : cells + mc ≤ rm.cells ∧ slots + ms ≤ rm.slots) (hcat : (stk.map fun v => v.category).sum ≤ 8)
    (hdg : decode cc pc = .ok (.invokespecial index, 3)) {stk0 : List Value} (hstk : stk0 = As.reverse ++ .ref b :: stk) (k : ∀ w1, B w1 → kI Z nL (pc + 3) lv stk (wr ++ w1) (cells + mc) (slots + ms)) : kI Z nL pc lv stk0 ws cells slots := by
  intro H locs ls hP hD hS hl
  have hPc := hP.sub (ws' := wc) isC (fm_of_map hC)
  have hDc := hD.sub (ws' := wc) isC hnC hC
  refine i_back C isC isR hC hR hn hdis hP hD (va_runI (As := As) (rest := stk) ⟨C.exec, C.bytes, C.maxL, C.hown, C.hts⟩ (hct Z.1.2.1 H.size) (cwI n C.hts (k_good w5) rfl hz.1 hz.2 (C.hts _ w4) (C.hts _ w1) (C.hts _ w2) hy1 hd (by rw [C.room]; exact hRm)) ⟨kFu.blind, fun U hU hW => ⟨rfl, by rw [hU], by rw [hU]; exact hPc, C.2.2.2.2.2.2.2.moved hW.alike, hDc.weaken (fun _ _ _ _ => trivial)⟩⟩ rfl hln hl.1 hstk (lv_room hcat) hdg ⟨?_, ?_⟩) hS hl k
  · rw [C.room]; exact hcs.1
  · rw [C.room]; exact hcs.2
theorem i_callV (C : kD Z cc own nL rm) {y : MethodName} {cc' : ByteArray} {nL' index n b kk : Nat} {rm' : Room} {B : va_W → Prop} {mc ms : Nat} {CN : String} {T : u_T} {N : Nat} {fs : List Value} (As : List Value) (hct : kCu (kzG Z) y cc' nL' rm' (.ref b :: As) wc B mc ms) (isC isR : List Nat) (hC : isC.map (fun i => ws[i]?) = wc.map some) (hR : isR.map (fun i => ws[i]?) = wr.map some) (hn : va_nd isR = true) (hnC : va_nd isC = true) (hdis : ∀ i ∈ isR, i ∉ isC) (q0 : Nat) (he : ws[q0]? = some (b, .inr (kk, fs))) (hc : vwCl[kk]? = some (CN, T, N))
    (w1 : Cond.methodLink own index y ∈ kw) (w2 : Cond.instanceMethod y ∈ kw) (w3 : Cond.selects CN y y ∈ kw) (w4 : Cond.initialized CN ∈ kw) (w5 : Cond.code y cc' nL' none ∈ kw)
    (hd : y.cls = CN ∧ y.cls ≠ "java/lang/invoke/MethodHandle" ∧ y.cls ≠ "java/lang/invoke/VarHandle" ∧ (parseMethodDescriptor y.desc).map (fun d => d.parameters.length) = some n) (hln : As.length = n) (hRm : rm'.frames + 1 ≤ rm.frames ∧ 8 + (nL' + 11) + rm'.locals ≤ rm.locals) (hz : rm'.cells = mc ∧ rm'.slots = ms) (hcs : cells + mc ≤ rm.cells ∧ slots + ms ≤ rm.slots) (hcat : (stk.map fun v => v.category).sum ≤ 8)
    (hdg : decode cc pc = .ok (.invokevirtual index, 3)) {stk0 : List Value} (hstk : stk0 = As.reverse ++ .ref b :: stk) (k : ∀ w1, B w1 → kI Z nL (pc + 3) lv stk (wr ++ w1) (cells + mc) (slots + ms)) : kI Z nL pc lv stk0 ws cells slots := by
  intro H locs ls hP hD hS hl
  have hPc := hP.sub (ws' := wc) isC (fm_of_map hC)
  have hDc := hD.sub (ws' := wc) isC hnC hC
  have hG : GoodIn kw (wsV own index CN y (.code y cc' nL' none :: kw)) := goodIn_appk (fun w hw => by
      simp only [List.mem_cons, List.not_mem_nil, or_false] at hw
      rcases hw with rfl | rfl | rfl | rfl <;> first | exact ⟨w1, good_of_word (kw_good w1)⟩ | exact ⟨w2, good_of_word (kw_good w2)⟩ | exact ⟨w3, good_of_word (kw_good w3)⟩ | exact ⟨w4, good_of_word (kw_good w4)⟩) (k_good w5)
  refine i_back C isC isR hC hR hn hdis hP hD (va_runV (As := As) (rest := stk) ⟨C.exec, C.bytes, C.maxL, C.hown, C.hts⟩ (hct Z.1.2.1 H.size) (cwV n C.hts hG rfl hz.1 hz.2 hd (by rw [C.room]; exact hRm)) ⟨kFu.blind, va_recv C.K hP hc (q0 := q0) he, fun U hU hW => ⟨rfl, by rw [hU], by rw [hU]; exact hPc, C.2.2.2.2.2.2.2.moved hW.alike, hDc.weaken (fun _ _ _ _ => trivial)⟩⟩ rfl hln hl.1 hstk (lv_room hcat) hdg ⟨?_, ?_⟩) hS hl k
  · rw [C.room]; exact hcs.1
  · rw [C.room]; exact hcs.2
theorem arrV_congr {cA : ClassId} {n : Nat} {f g : Nat → Value} (h : ∀ j, j < n → f j = g j) : arrV cA n f = arrV cA n g := by
  unfold arrV
  have : (fun j : Fin n => f j.val) = fun j : Fin n => g j.val := funext fun j => h j.val j.isLt
  rw [this]
/-- an array of references told by another function that agrees where it counts -/
theorem i_sameQ {a n : Nat} {cA : ClassId} {f : Nat → Option Nat} (g : Nat → Option Nat) (q0 : Nat) (he : ws[q0]? = some (a, .inl (cA, n, .inr (.inr (.inr (.inr f)))))) (hfg : ∀ j, j < n → f j = g j) (hws : ws.set q0 (a, .inl (cA, n, .inr (.inr (.inr (.inr g))))) = ws') (k : kI Z nL pc lv stk ws' cells slots) : kI Z nL pc lv stk ws cells slots := by
  intro H locs ls hP hD hS hl
  subst hws
  refine k H locs ls (hP.set hD he ?_ (fun _ _ => rfl)) (hD.set he) hS hl
  show H[a]? = some (vp_cell cA (n, .inr (.inr (.inr (.inr g)))))
  rw [show H[a]? = some (vp_cell cA (n, .inr (.inr (.inr (.inr f))))) from hP q0 _ he, vp_cell_q, vp_cell_q, arrV_congr (fun j hj => by rw [hfg j hj])]
end
/-! what the numbers are at first -/
def u_wi : Nat → Int32 := (upd (upd (upd (upd (upd (upd (upd (upd (upd (upd (upd (upd (fun _ => 0) 0 0) 1 7) 2 14) 3 21) 4 28) 5 5) 6 12) 7 19) 8 26) 9 3) 10 10) 11 17)
def u_we : Nat → Int32 := (upd (upd (upd (upd (fun _ => 0) 0 100) 1 100) 2 100) 3 100)
def u_ro : Nat → Int32 := (upd (upd (upd (upd (upd (upd (upd (upd (upd (upd (upd (upd (upd (upd (upd (upd (upd (upd (upd (upd (fun _ => 0) 2 0) 3 7) 4 14) 5 21) 6 28) 7 5) 8 12) 9 19) 10 26) 11 3) 12 10) 13 17) 14 100) 15 1) 16 100) 17 1) 18 100) 19 1) 20 100) 21 1)
def st0 : kM := (fun c => if kd c = 4 then (fun j => if j = 2 then 15 else 0) else if kd c = 0 then (fun j => if j = 2 then 50 else if j = 4 then 1 else 0) else if c = 60 then u_ro else if c < 46 ∧ (c - 1) % 15 = 1 then u_wi else if c < 46 ∧ (c - 1) % 15 = 2 then u_we else (fun _ => 0), fun _ _ => 0)
def u_yd (G : kG) (a : Nat → Nat) : va_W := (List.range 15).map fun i => (a i, kE (G.1, (fun c => a (c - 1)), G.2.2) st0 (1 + i))
def u_tk (G : kG) (a : Nat → Nat) : va_W := (List.range 59).map fun i => (a i, kE (G.1, a, G.2.2) st0 i)
def u_md (G : kG) (a : Nat → Nat) : va_W := (List.range 12).map fun i => (a i, kE (G.1, (fun c => a (c - 59)), G.2.2) st0 (59 + i))
