/-! the judgement kV: at pc, with these locals and this stack, over this memory, the machine comes to its end; its rows, one an instruction -/
abbrev kzP (Z : kZ) : Program := Z.1.1
abbrev kzR (Z : kZ) : Room := Z.1.2.2.2.1
abbrev kzS (Z : kZ) : State := Z.1.2.2.2.2.1
abbrev kzM (Z : kZ) : MethodId := Z.1.2.2.2.2.2.1
abbrev kzV (Z : kZ) : Array Value := Z.1.2.2.2.2.2.2.1
abbrev kzB (Z : kZ) : List Frame := Z.1.2.2.2.2.2.2.2.1
abbrev kzH (Z : kZ) : Method := Z.1.2.2.2.2.2.2.2.2.1
abbrev kzC (Z : kZ) : Code := Z.1.2.2.2.2.2.2.2.2.2
abbrev kzG (Z : kZ) : kG := Z.2.1
abbrev kzA (Z : kZ) : Nat → Prop := Z.2.2.1
abbrev kzQ (Z : kZ) : State → Prop := Z.2.2.2.1
abbrev kzc (Z : kZ) : Nat := Z.2.2.2.2.1
abbrev kzs (Z : kZ) : Nat := Z.2.2.2.2.2
abbrev kr (Z : kZ) (c : Nat) : Value := .ref (Z.2.1.2.1 c)
/-- a string of TextReader -/
abbrev ks (Z : kZ) (i : Nat) : Value := .ref (Z.2.1.2.2.2.1 i)
abbrev kWW (Z : kZ) (H : Heap) (locs : List Loc) (g : JFrame) : Prop := W (kzP Z) Z.1.2.1 Z.1.2.2.1 (kzR Z) (kzS Z) (kzM Z) (kzV Z) (kzB Z) (kzH Z) (kzC Z) H locs (kzc Z) (kzs Z) (kzQ Z) g
def kV (Z : kZ) (nL pc : Nat) (lv : List (Nat × Value)) (stk : List Value) (st : kM) : Prop :=
  ∀ (H : Heap) (locs : List Loc) (ls : Array Slot), va_P (kzG Z).1 vwCl (kW (kzG Z) st) H → va_S (kzA Z) (kzS Z).heap H locs → lv_has ls nL lv → kWW Z H locs (F0 (kzM Z) pc ls stk)
/-- what a method finds of the tables and of what it never changes -/
def kFx (G : kG) (A : Nat → Prop) (s : State) : Prop :=
  va_K G.1 vwCl (kT G) s ∧ (∀ i j : Nat, i < 71 → j < 71 → G.2.1 i = G.2.1 j → i = j) ∧ (∀ i : Nat, i < 71 → A (G.2.1 i)) ∧ (∀ q : Nat, s.heap.size ≤ q → A q) ∧
  vk_S kSn kLen kByt G.2.2.2.1 G.2.2.2.2 A s s.heap ∧ (∀ i : Nat, i < kSn → vk_R RX3 (kSi i) (kSt i) (G.2.2.2.1 i) s) ∧
  va_Z "java/lang/String" "COMPACT_STRINGS" "Z" (.int 1) A s s.heap ∧ va_Zq "jdk/internal/util/Preconditions" "SIOOBE_FORMATTER" "Ljava/util/function/BiFunction;" A s s.heap
def kC (Z : kZ) (cc : ByteArray) (own : String) (nL : Nat) (rm : Room) : Prop :=
  (kzP Z).tables.exec = Jvm.exec ∧ (kzC Z).code = cc ∧ (kzC Z).maxLocals = nL ∧ (kzS Z).vm.findClass own = some (kzM Z).cls ∧ (∀ w ∈ kw, w.before (kzV Z) (kzS Z) = true) ∧ kzR Z = rm ∧ (kzc Z ≤ rm.cells ∧ kzs Z ≤ rm.slots) ∧ kFx (kzG Z) (kzA Z) (kzS Z)
section
variable {Z : kZ} {cc : ByteArray} {own : String} {nL pc pc' : Nat} {rm : Room} {lv lv' : List (Nat × Value)} {stk : List Value} {st st' : kM}
theorem kC.exec (C : kC Z cc own nL rm) : (kzP Z).tables.exec = Jvm.exec := C.1
theorem kC.bytes (C : kC Z cc own nL rm) : (kzC Z).code = cc := C.2.1
theorem kC.maxL (C : kC Z cc own nL rm) : (kzC Z).maxLocals = nL := C.2.2.1
theorem kC.hown (C : kC Z cc own nL rm) : (kzS Z).vm.findClass own = some (kzM Z).cls := C.2.2.2.1
theorem kC.hts (C : kC Z cc own nL rm) : ∀ w ∈ kw, w.before (kzV Z) (kzS Z) = true := C.2.2.2.2.1
theorem kC.room (C : kC Z cc own nL rm) : kzR Z = rm := C.2.2.2.2.2.1
theorem kC.cs (C : kC Z cc own nL rm) : kzc Z ≤ rm.cells ∧ kzs Z ≤ rm.slots := C.2.2.2.2.2.2.1
theorem kC.fx (C : kC Z cc own nL rm) : kFx (kzG Z) (kzA Z) (kzS Z) := C.2.2.2.2.2.2.2
theorem kC.K (C : kC Z cc own nL rm) : va_K (kzG Z).1 vwCl (kT (kzG Z)) (kzS Z) := C.fx.1
theorem kC.D (C : kC Z cc own nL rm) (st : kM) : va_D (kzA Z) (kW (kzG Z) st) :=
  ⟨fun i j p q hi hj e => by
    obtain ⟨h1, rfl⟩ := kW_out hi
    obtain ⟨h2, rfl⟩ := kW_out hj
    exact C.fx.2.1 i j h1 h2 e, fun k q hk => by
    obtain ⟨h1, rfl⟩ := kW_out hk
    exact C.fx.2.2.1 k h1⟩
-- constants
theorem k_iconst (C : kC Z cc own nL rm) {n : Int} (v : Int32) (hdg : decode cc pc = .ok (.iconst n, 1)) (hv : Int32.ofInt n = v) (hp : pc + 1 = pc') (k : kV Z nL pc' lv (.int v :: stk) st) : kV Z nL pc lv stk st := fun H locs ls hP hS hl => lv_iconst C.exec C.bytes hdg hv (hp ▸ k H locs ls hP hS hl)
theorem k_bipush (C : kC Z cc own nL rm) {n : Int} (v : Int32) (hdg : decode cc pc = .ok (.bipush n, 2)) (hv : (Int8.ofInt n).toInt32 = v) (hp : pc + 2 = pc') (k : kV Z nL pc' lv (.int v :: stk) st) : kV Z nL pc lv stk st := fun H locs ls hP hS hl => lv_bipush C.exec C.bytes hdg hv (hp ▸ k H locs ls hP hS hl)
theorem k_sipush (C : kC Z cc own nL rm) {n : Int} (v : Int32) (hdg : decode cc pc = .ok (.sipush n, 3)) (hv : (Int16.ofInt n).toInt32 = v) (hp : pc + 3 = pc') (k : kV Z nL pc' lv (.int v :: stk) st) : kV Z nL pc lv stk st := fun H locs ls hP hS hl => lv_sipush C.exec C.bytes hdg hv (hp ▸ k H locs ls hP hS hl)
theorem k_lconst (C : kC Z cc own nL rm) {n : Fin 2} (v : Int64) (hdg : decode cc pc = .ok (.lconst n, 1)) (hv : Int64.ofNat (n : Nat) = v) (hp : pc + 1 = pc') (k : kV Z nL pc' lv (.long v :: stk) st) : kV Z nL pc lv stk st := fun H locs ls hP hS hl => lv_lconst C.exec C.bytes hdg hv (hp ▸ k H locs ls hP hS hl)
theorem k_ldc (C : kC Z cc own nL rm) {index : Nat} (v : Int32) (hw : Cond.constant own index v ∈ kw) (hdg : decode cc pc = .ok (.ldc index, 2)) (hp : pc + 2 = pc') (k : kV Z nL pc' lv (.int v :: stk) st) : kV Z nL pc lv stk st := fun H locs ls hP hS hl => lv_ldc C.exec C.bytes C.hown (C.hts _ hw) hdg (hp ▸ k H locs ls hP hS hl)
theorem k_ldc2 (C : kC Z cc own nL rm) {index : Nat} (v : Int64) (hw : Cond.constantLong own index v ∈ kw) (hdg : decode cc pc = .ok (.ldc2_w index, 3)) (hp : pc + 3 = pc') (k : kV Z nL pc' lv (.long v :: stk) st) : kV Z nL pc lv stk st := fun H locs ls hP hS hl => lv_ldc2 C.exec C.bytes C.hown (C.hts _ hw) hdg (hp ▸ k H locs ls hP hS hl)
-- locals
theorem k_iload_n (C : kC Z cc own nL rm) {q : Fin 4} {i : Nat} {x : Int32} (j : Nat) (hdg : decode cc pc = .ok (.iload_n q, 1)) (hi : (q : Nat) = i) (hj : lv[j]? = some (i, .int x)) (hp : pc + 1 = pc') (k : kV Z nL pc' lv (.int x :: stk) st) : kV Z nL pc lv stk st := fun H locs ls hP hS hl => lv_iload_n C.exec C.bytes hdg hi (lv_at hl j hj) (hp ▸ k H locs ls hP hS hl)
theorem k_iload (C : kC Z cc own nL rm) {i : Nat} {x : Int32} (j : Nat) (hdg : decode cc pc = .ok (.iload i, 2)) (hj : lv[j]? = some (i, .int x)) (hp : pc + 2 = pc') (k : kV Z nL pc' lv (.int x :: stk) st) : kV Z nL pc lv stk st := fun H locs ls hP hS hl => lv_iload C.exec C.bytes hdg (lv_at hl j hj) (hp ▸ k H locs ls hP hS hl)
theorem k_lload_n (C : kC Z cc own nL rm) {q : Fin 4} {i : Nat} {x : Int64} (j : Nat) (hdg : decode cc pc = .ok (.lload_n q, 1)) (hi : (q : Nat) = i) (hj : lv[j]? = some (i, .long x)) (hp : pc + 1 = pc') (k : kV Z nL pc' lv (.long x :: stk) st) : kV Z nL pc lv stk st := fun H locs ls hP hS hl => lv_lload_n C.exec C.bytes hdg hi (lv_at hl j hj) (hp ▸ k H locs ls hP hS hl)
theorem k_lload (C : kC Z cc own nL rm) {i : Nat} {x : Int64} (j : Nat) (hdg : decode cc pc = .ok (.lload i, 2)) (hj : lv[j]? = some (i, .long x)) (hp : pc + 2 = pc') (k : kV Z nL pc' lv (.long x :: stk) st) : kV Z nL pc lv stk st := fun H locs ls hP hS hl => lv_lload C.exec C.bytes hdg (lv_at hl j hj) (hp ▸ k H locs ls hP hS hl)
theorem k_aload_n (C : kC Z cc own nL rm) {q : Fin 4} {i : Nat} {a : Nat} (j : Nat) (hdg : decode cc pc = .ok (.aload_n q, 1)) (hi : (q : Nat) = i) (hj : lv[j]? = some (i, .ref a)) (hp : pc + 1 = pc') (k : kV Z nL pc' lv (.ref a :: stk) st) : kV Z nL pc lv stk st := fun H locs ls hP hS hl => lv_aload_n C.exec C.bytes hdg hi (lv_at hl j hj) (hp ▸ k H locs ls hP hS hl)
theorem k_aload (C : kC Z cc own nL rm) {i : Nat} {a : Nat} (j : Nat) (hdg : decode cc pc = .ok (.aload i, 2)) (hj : lv[j]? = some (i, .ref a)) (hp : pc + 2 = pc') (k : kV Z nL pc' lv (.ref a :: stk) st) : kV Z nL pc lv stk st := fun H locs ls hP hS hl => lv_aload C.exec C.bytes hdg (lv_at hl j hj) (hp ▸ k H locs ls hP hS hl)
theorem k_istore_n (C : kC Z cc own nL rm) {q : Fin 4} {i : Nat} {x : Int32} (hdg : decode cc pc = .ok (.istore_n q, 1)) (hi : (q : Nat) = i) (hn : i < nL) (hl' : (i, Value.int x) :: lv.filter (fun q => !(q.1 == i) && !(q.1 + 1 == i && q.2.category == 2)) = lv') (hp : pc + 1 = pc') (k : kV Z nL pc' lv' stk st) : kV Z nL pc lv (.int x :: stk) st := fun H locs ls hP hS hl => lv_istore_n C.exec C.bytes hdg hi hl hn hl' (fun ls' h' => hp ▸ k H locs ls' hP hS h')
theorem k_istore (C : kC Z cc own nL rm) {i : Nat} {x : Int32} (hdg : decode cc pc = .ok (.istore i, 2)) (hn : i < nL) (hl' : (i, Value.int x) :: lv.filter (fun q => !(q.1 == i) && !(q.1 + 1 == i && q.2.category == 2)) = lv') (hp : pc + 2 = pc') (k : kV Z nL pc' lv' stk st) : kV Z nL pc lv (.int x :: stk) st := fun H locs ls hP hS hl => lv_istore C.exec C.bytes hdg hl hn hl' (fun ls' h' => hp ▸ k H locs ls' hP hS h')
theorem k_iinc (C : kC Z cc own nL rm) {i : Nat} {n : Int} {x : Int32} (v : Int32) (j : Nat) (hdg : decode cc pc = .ok (.iinc i n, 3)) (hj : lv[j]? = some (i, .int x)) (hv : x + Int32.ofInt n = v) (hn : i < nL) (hl' : (i, Value.int v) :: lv.filter (fun q => !(q.1 == i) && !(q.1 + 1 == i && q.2.category == 2)) = lv') (hp : pc + 3 = pc') (k : kV Z nL pc' lv' stk st) : kV Z nL pc lv stk st := fun H locs ls hP hS hl => lv_iinc C.exec C.bytes hdg hl hj hv hn hl' (fun ls' h' => hp ▸ k H locs ls' hP hS h')
/-- the locals in another order, or fewer -/
theorem k_lv (ps : List Nat) (h : lv_pick lv ps = lv') (k : kV Z nL pc lv' stk st) : kV Z nL pc lv stk st := fun H locs ls hP hS hl => k H locs ls hP hS (lv_sub hl ps h)
end
