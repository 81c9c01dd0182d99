def kfl : List Cond := flatC (Jvm.Cond.and given_1 narrow_1)
theorem nf_at {args : Array Value} {s : State} (h : (Jvm.Cond.and given_1 narrow_1).before args s = true) {c : Cond} (i : Nat) (hi : kfl[i]? = some c) : c.before args s = true := flat_of_before _ h _ (List.mem_of_getElem? hi)
theorem ns_ex {args : Array Value} {s : State} (h : (Jvm.Cond.and given_1 narrow_1).before args s = true) : ∀ i : Nat, i < kSn → (Cond.exactly (Jvm.Term.string RX3 (kSi i)) "java/lang/String").before args s = true := fun i hi => by match i, hi with
  | 0, _ => exact nf_at h 23 rfl
  | 1, _ => exact nf_at h 31 rfl
  | 2, _ => exact nf_at h 40 rfl
  | 3, _ => exact nf_at h 50 rfl
  | 4, _ => exact nf_at h 62 rfl
  | 5, _ => exact nf_at h 76 rfl
  | 6, _ => exact nf_at h 90 rfl
  | 7, _ => exact nf_at h 104 rfl
  | 8, _ => exact nf_at h 121 rfl
  | 9, _ => exact nf_at h 136 rfl
  | 10, _ => exact nf_at h 153 rfl
  | 11, _ => exact nf_at h 171 rfl
  | i + 12, h9 => exact absurd h9 (by simp only [kSn]; omega)
theorem ns_co {args : Array Value} {s : State} (h : (Jvm.Cond.and given_1 narrow_1).before args s = true) : ∀ i : Nat, i < kSn → (Cond.eq (.field (Jvm.Term.string RX3 (kSi i)) "java/lang/String" "coder" "B") (.int 0)).before args s = true := fun i hi => by match i, hi with
  | 0, _ => exact nf_at h 24 rfl
  | 1, _ => exact nf_at h 32 rfl
  | 2, _ => exact nf_at h 41 rfl
  | 3, _ => exact nf_at h 51 rfl
  | 4, _ => exact nf_at h 63 rfl
  | 5, _ => exact nf_at h 77 rfl
  | 6, _ => exact nf_at h 91 rfl
  | 7, _ => exact nf_at h 105 rfl
  | 8, _ => exact nf_at h 122 rfl
  | 9, _ => exact nf_at h 137 rfl
  | 10, _ => exact nf_at h 154 rfl
  | 11, _ => exact nf_at h 172 rfl
  | i + 12, h9 => exact absurd h9 (by simp only [kSn]; omega)
theorem ns_ar {args : Array Value} {s : State} (h : (Jvm.Cond.and given_1 narrow_1).before args s = true) : ∀ i : Nat, i < kSn → (Cond.arrayOf (.field (Jvm.Term.string RX3 (kSi i)) "java/lang/String" "value" "[B") .byte).before args s = true := fun i hi => by match i, hi with
  | 0, _ => exact nf_at h 25 rfl
  | 1, _ => exact nf_at h 33 rfl
  | 2, _ => exact nf_at h 42 rfl
  | 3, _ => exact nf_at h 52 rfl
  | 4, _ => exact nf_at h 64 rfl
  | 5, _ => exact nf_at h 78 rfl
  | 6, _ => exact nf_at h 92 rfl
  | 7, _ => exact nf_at h 106 rfl
  | 8, _ => exact nf_at h 123 rfl
  | 9, _ => exact nf_at h 138 rfl
  | 10, _ => exact nf_at h 155 rfl
  | 11, _ => exact nf_at h 173 rfl
  | i + 12, h9 => exact absurd h9 (by simp only [kSn]; omega)
theorem ns_le {args : Array Value} {s : State} (h : (Jvm.Cond.and given_1 narrow_1).before args s = true) : ∀ i : Nat, i < kSn → (Cond.eq (.length (.field (Jvm.Term.string RX3 (kSi i)) "java/lang/String" "value" "[B")) (.int (Int32.ofNat (kLen.getD i 0)))).before args s = true := fun i hi => by match i, hi with
  | 0, _ => exact nf_at h 26 rfl
  | 1, _ => exact nf_at h 34 rfl
  | 2, _ => exact nf_at h 43 rfl
  | 3, _ => exact nf_at h 53 rfl
  | 4, _ => exact nf_at h 65 rfl
  | 5, _ => exact nf_at h 79 rfl
  | 6, _ => exact nf_at h 93 rfl
  | 7, _ => exact nf_at h 107 rfl
  | 8, _ => exact nf_at h 124 rfl
  | 9, _ => exact nf_at h 139 rfl
  | 10, _ => exact nf_at h 156 rfl
  | 11, _ => exact nf_at h 174 rfl
  | i + 12, h9 => exact absurd h9 (by simp only [kSn]; omega)
theorem ns_el0 {args : Array Value} {s : State} (h : (Jvm.Cond.and given_1 narrow_1).before args s = true) : ∀ j : Nat, j < 4 → (Cond.eq (.elem (.field (Jvm.Term.string RX3 (kSi 0)) "java/lang/String" "value" "[B") (.int (Int32.ofNat j))) (.int ((kByt.getD 0 []).getD j 0))).before args s = true := fun j hj => by match j, hj with
  | 0, _ => exact nf_at h 27 rfl
  | 1, _ => exact nf_at h 28 rfl
  | 2, _ => exact nf_at h 29 rfl
  | 3, _ => exact nf_at h 30 rfl
  | j + 4, h9 => exact absurd h9 (by omega)
theorem ns_el1 {args : Array Value} {s : State} (h : (Jvm.Cond.and given_1 narrow_1).before args s = true) : ∀ j : Nat, j < 4 → (Cond.eq (.elem (.field (Jvm.Term.string RX3 (kSi 1)) "java/lang/String" "value" "[B") (.int (Int32.ofNat j))) (.int ((kByt.getD 1 []).getD j 0))).before args s = true := fun j hj => by match j, hj with
  | 0, _ => exact nf_at h 35 rfl
  | 1, _ => exact nf_at h 36 rfl
  | 2, _ => exact nf_at h 37 rfl
  | 3, _ => exact nf_at h 38 rfl
  | j + 4, h9 => exact absurd h9 (by omega)
theorem ns_el2 {args : Array Value} {s : State} (h : (Jvm.Cond.and given_1 narrow_1).before args s = true) : ∀ j : Nat, j < 4 → (Cond.eq (.elem (.field (Jvm.Term.string RX3 (kSi 2)) "java/lang/String" "value" "[B") (.int (Int32.ofNat j))) (.int ((kByt.getD 2 []).getD j 0))).before args s = true := fun j hj => by match j, hj with
  | 0, _ => exact nf_at h 44 rfl
  | 1, _ => exact nf_at h 45 rfl
  | 2, _ => exact nf_at h 46 rfl
  | 3, _ => exact nf_at h 47 rfl
  | j + 4, h9 => exact absurd h9 (by omega)
theorem ns_el3 {args : Array Value} {s : State} (h : (Jvm.Cond.and given_1 narrow_1).before args s = true) : ∀ j : Nat, j < 5 → (Cond.eq (.elem (.field (Jvm.Term.string RX3 (kSi 3)) "java/lang/String" "value" "[B") (.int (Int32.ofNat j))) (.int ((kByt.getD 3 []).getD j 0))).before args s = true := fun j hj => by match j, hj with
  | 0, _ => exact nf_at h 54 rfl
  | 1, _ => exact nf_at h 55 rfl
  | 2, _ => exact nf_at h 56 rfl
  | 3, _ => exact nf_at h 57 rfl
  | 4, _ => exact nf_at h 58 rfl
  | j + 5, h9 => exact absurd h9 (by omega)
theorem ns_el4 {args : Array Value} {s : State} (h : (Jvm.Cond.and given_1 narrow_1).before args s = true) : ∀ j : Nat, j < 6 → (Cond.eq (.elem (.field (Jvm.Term.string RX3 (kSi 4)) "java/lang/String" "value" "[B") (.int (Int32.ofNat j))) (.int ((kByt.getD 4 []).getD j 0))).before args s = true := fun j hj => by match j, hj with
  | 0, _ => exact nf_at h 66 rfl
  | 1, _ => exact nf_at h 67 rfl
  | 2, _ => exact nf_at h 68 rfl
  | 3, _ => exact nf_at h 69 rfl
  | 4, _ => exact nf_at h 70 rfl
  | 5, _ => exact nf_at h 71 rfl
  | j + 6, h9 => exact absurd h9 (by omega)
theorem ns_el5 {args : Array Value} {s : State} (h : (Jvm.Cond.and given_1 narrow_1).before args s = true) : ∀ j : Nat, j < 5 → (Cond.eq (.elem (.field (Jvm.Term.string RX3 (kSi 5)) "java/lang/String" "value" "[B") (.int (Int32.ofNat j))) (.int ((kByt.getD 5 []).getD j 0))).before args s = true := fun j hj => by match j, hj with
  | 0, _ => exact nf_at h 80 rfl
  | 1, _ => exact nf_at h 81 rfl
  | 2, _ => exact nf_at h 82 rfl
  | 3, _ => exact nf_at h 83 rfl
  | 4, _ => exact nf_at h 84 rfl
  | j + 5, h9 => exact absurd h9 (by omega)
theorem ns_el6 {args : Array Value} {s : State} (h : (Jvm.Cond.and given_1 narrow_1).before args s = true) : ∀ j : Nat, j < 4 → (Cond.eq (.elem (.field (Jvm.Term.string RX3 (kSi 6)) "java/lang/String" "value" "[B") (.int (Int32.ofNat j))) (.int ((kByt.getD 6 []).getD j 0))).before args s = true := fun j hj => by match j, hj with
  | 0, _ => exact nf_at h 94 rfl
  | 1, _ => exact nf_at h 95 rfl
  | 2, _ => exact nf_at h 96 rfl
  | 3, _ => exact nf_at h 97 rfl
  | j + 4, h9 => exact absurd h9 (by omega)
theorem ns_el7 {args : Array Value} {s : State} (h : (Jvm.Cond.and given_1 narrow_1).before args s = true) : ∀ j : Nat, j < 6 → (Cond.eq (.elem (.field (Jvm.Term.string RX3 (kSi 7)) "java/lang/String" "value" "[B") (.int (Int32.ofNat j))) (.int ((kByt.getD 7 []).getD j 0))).before args s = true := fun j hj => by match j, hj with
  | 0, _ => exact nf_at h 108 rfl
  | 1, _ => exact nf_at h 109 rfl
  | 2, _ => exact nf_at h 110 rfl
  | 3, _ => exact nf_at h 111 rfl
  | 4, _ => exact nf_at h 112 rfl
  | 5, _ => exact nf_at h 113 rfl
  | j + 6, h9 => exact absurd h9 (by omega)
theorem ns_el8 {args : Array Value} {s : State} (h : (Jvm.Cond.and given_1 narrow_1).before args s = true) : ∀ j : Nat, j < 3 → (Cond.eq (.elem (.field (Jvm.Term.string RX3 (kSi 8)) "java/lang/String" "value" "[B") (.int (Int32.ofNat j))) (.int ((kByt.getD 8 []).getD j 0))).before args s = true := fun j hj => by match j, hj with
  | 0, _ => exact nf_at h 125 rfl
  | 1, _ => exact nf_at h 126 rfl
  | 2, _ => exact nf_at h 127 rfl
  | j + 3, h9 => exact absurd h9 (by omega)
theorem ns_el9 {args : Array Value} {s : State} (h : (Jvm.Cond.and given_1 narrow_1).before args s = true) : ∀ j : Nat, j < 4 → (Cond.eq (.elem (.field (Jvm.Term.string RX3 (kSi 9)) "java/lang/String" "value" "[B") (.int (Int32.ofNat j))) (.int ((kByt.getD 9 []).getD j 0))).before args s = true := fun j hj => by match j, hj with
  | 0, _ => exact nf_at h 140 rfl
  | 1, _ => exact nf_at h 141 rfl
  | 2, _ => exact nf_at h 142 rfl
  | 3, _ => exact nf_at h 143 rfl
  | j + 4, h9 => exact absurd h9 (by omega)
theorem ns_el10 {args : Array Value} {s : State} (h : (Jvm.Cond.and given_1 narrow_1).before args s = true) : ∀ j : Nat, j < 4 → (Cond.eq (.elem (.field (Jvm.Term.string RX3 (kSi 10)) "java/lang/String" "value" "[B") (.int (Int32.ofNat j))) (.int ((kByt.getD 10 []).getD j 0))).before args s = true := fun j hj => by match j, hj with
  | 0, _ => exact nf_at h 157 rfl
  | 1, _ => exact nf_at h 158 rfl
  | 2, _ => exact nf_at h 159 rfl
  | 3, _ => exact nf_at h 160 rfl
  | j + 4, h9 => exact absurd h9 (by omega)
theorem ns_el11 {args : Array Value} {s : State} (h : (Jvm.Cond.and given_1 narrow_1).before args s = true) : ∀ j : Nat, j < 5 → (Cond.eq (.elem (.field (Jvm.Term.string RX3 (kSi 11)) "java/lang/String" "value" "[B") (.int (Int32.ofNat j))) (.int ((kByt.getD 11 []).getD j 0))).before args s = true := fun j hj => by match j, hj with
  | 0, _ => exact nf_at h 175 rfl
  | 1, _ => exact nf_at h 176 rfl
  | 2, _ => exact nf_at h 177 rfl
  | 3, _ => exact nf_at h 178 rfl
  | 4, _ => exact nf_at h 179 rfl
  | j + 5, h9 => exact absurd h9 (by omega)
theorem ns_el {args : Array Value} {s : State} (h : (Jvm.Cond.and given_1 narrow_1).before args s = true) : ∀ i : Nat, i < kSn → ∀ j : Nat, j < kLen.getD i 0 → (Cond.eq (.elem (.field (Jvm.Term.string RX3 (kSi i)) "java/lang/String" "value" "[B") (.int (Int32.ofNat j))) (.int ((kByt.getD i []).getD j 0))).before args s = true := fun i hi => by match i, hi with
  | 0, _ => exact ns_el0 h
  | 1, _ => exact ns_el1 h
  | 2, _ => exact ns_el2 h
  | 3, _ => exact ns_el3 h
  | 4, _ => exact ns_el4 h
  | 5, _ => exact ns_el5 h
  | 6, _ => exact ns_el6 h
  | 7, _ => exact ns_el7 h
  | 8, _ => exact ns_el8 h
  | 9, _ => exact ns_el9 h
  | 10, _ => exact ns_el10 h
  | 11, _ => exact ns_el11 h
  | i + 12, h9 => exact absurd h9 (by simp only [kSn]; omega)
theorem ns_ne0 {args : Array Value} {s : State} (h : (Jvm.Cond.and given_1 narrow_1).before args s = true) : ∀ j : Nat, j < kSn → 0 ≠ j → (Cond.not (Cond.eq (Jvm.Term.string RX3 (kSi 0)) (Jvm.Term.string RX3 (kSi j)))).before args s = true ∨ (Cond.not (Cond.eq (Jvm.Term.string RX3 (kSi j)) (Jvm.Term.string RX3 (kSi 0)))).before args s = true := fun j hj hn => by match j, hj, hn with
  | 0, _, hn => exact absurd rfl hn
  | 1, _, hn => exact Or.inl (nf_at h 39 rfl)
  | 2, _, hn => exact Or.inl (nf_at h 48 rfl)
  | 3, _, hn => exact Or.inl (nf_at h 59 rfl)
  | 4, _, hn => exact Or.inl (nf_at h 72 rfl)
  | 5, _, hn => exact Or.inl (nf_at h 85 rfl)
  | 6, _, hn => exact Or.inl (nf_at h 98 rfl)
  | 7, _, hn => exact Or.inl (nf_at h 114 rfl)
  | 8, _, hn => exact Or.inl (nf_at h 128 rfl)
  | 9, _, hn => exact Or.inl (nf_at h 144 rfl)
  | 10, _, hn => exact Or.inl (nf_at h 161 rfl)
  | 11, _, hn => exact Or.inl (nf_at h 180 rfl)
  | j + 12, h9, _ => exact absurd h9 (by simp only [kSn]; omega)
theorem ns_ne1 {args : Array Value} {s : State} (h : (Jvm.Cond.and given_1 narrow_1).before args s = true) : ∀ j : Nat, j < kSn → 1 ≠ j → (Cond.not (Cond.eq (Jvm.Term.string RX3 (kSi 1)) (Jvm.Term.string RX3 (kSi j)))).before args s = true ∨ (Cond.not (Cond.eq (Jvm.Term.string RX3 (kSi j)) (Jvm.Term.string RX3 (kSi 1)))).before args s = true := fun j hj hn => by match j, hj, hn with
  | 0, _, hn => exact Or.inr (nf_at h 39 rfl)
  | 1, _, hn => exact absurd rfl hn
  | 2, _, hn => exact Or.inl (nf_at h 49 rfl)
  | 3, _, hn => exact Or.inl (nf_at h 60 rfl)
  | 4, _, hn => exact Or.inl (nf_at h 73 rfl)
  | 5, _, hn => exact Or.inl (nf_at h 86 rfl)
  | 6, _, hn => exact Or.inl (nf_at h 99 rfl)
  | 7, _, hn => exact Or.inl (nf_at h 115 rfl)
  | 8, _, hn => exact Or.inl (nf_at h 129 rfl)
  | 9, _, hn => exact Or.inl (nf_at h 145 rfl)
  | 10, _, hn => exact Or.inl (nf_at h 162 rfl)
  | 11, _, hn => exact Or.inl (nf_at h 181 rfl)
  | j + 12, h9, _ => exact absurd h9 (by simp only [kSn]; omega)
theorem ns_ne2 {args : Array Value} {s : State} (h : (Jvm.Cond.and given_1 narrow_1).before args s = true) : ∀ j : Nat, j < kSn → 2 ≠ j → (Cond.not (Cond.eq (Jvm.Term.string RX3 (kSi 2)) (Jvm.Term.string RX3 (kSi j)))).before args s = true ∨ (Cond.not (Cond.eq (Jvm.Term.string RX3 (kSi j)) (Jvm.Term.string RX3 (kSi 2)))).before args s = true := fun j hj hn => by match j, hj, hn with
  | 0, _, hn => exact Or.inr (nf_at h 48 rfl)
  | 1, _, hn => exact Or.inr (nf_at h 49 rfl)
  | 2, _, hn => exact absurd rfl hn
  | 3, _, hn => exact Or.inl (nf_at h 61 rfl)
  | 4, _, hn => exact Or.inl (nf_at h 74 rfl)
  | 5, _, hn => exact Or.inl (nf_at h 87 rfl)
  | 6, _, hn => exact Or.inl (nf_at h 100 rfl)
  | 7, _, hn => exact Or.inl (nf_at h 116 rfl)
  | 8, _, hn => exact Or.inl (nf_at h 130 rfl)
  | 9, _, hn => exact Or.inl (nf_at h 146 rfl)
  | 10, _, hn => exact Or.inl (nf_at h 163 rfl)
  | 11, _, hn => exact Or.inl (nf_at h 182 rfl)
  | j + 12, h9, _ => exact absurd h9 (by simp only [kSn]; omega)
theorem ns_ne3 {args : Array Value} {s : State} (h : (Jvm.Cond.and given_1 narrow_1).before args s = true) : ∀ j : Nat, j < kSn → 3 ≠ j → (Cond.not (Cond.eq (Jvm.Term.string RX3 (kSi 3)) (Jvm.Term.string RX3 (kSi j)))).before args s = true ∨ (Cond.not (Cond.eq (Jvm.Term.string RX3 (kSi j)) (Jvm.Term.string RX3 (kSi 3)))).before args s = true := fun j hj hn => by match j, hj, hn with
  | 0, _, hn => exact Or.inr (nf_at h 59 rfl)
  | 1, _, hn => exact Or.inr (nf_at h 60 rfl)
  | 2, _, hn => exact Or.inr (nf_at h 61 rfl)
  | 3, _, hn => exact absurd rfl hn
  | 4, _, hn => exact Or.inl (nf_at h 75 rfl)
  | 5, _, hn => exact Or.inl (nf_at h 88 rfl)
  | 6, _, hn => exact Or.inl (nf_at h 101 rfl)
  | 7, _, hn => exact Or.inl (nf_at h 117 rfl)
  | 8, _, hn => exact Or.inl (nf_at h 131 rfl)
  | 9, _, hn => exact Or.inl (nf_at h 147 rfl)
  | 10, _, hn => exact Or.inl (nf_at h 164 rfl)
  | 11, _, hn => exact Or.inl (nf_at h 183 rfl)
  | j + 12, h9, _ => exact absurd h9 (by simp only [kSn]; omega)
theorem ns_ne4 {args : Array Value} {s : State} (h : (Jvm.Cond.and given_1 narrow_1).before args s = true) : ∀ j : Nat, j < kSn → 4 ≠ j → (Cond.not (Cond.eq (Jvm.Term.string RX3 (kSi 4)) (Jvm.Term.string RX3 (kSi j)))).before args s = true ∨ (Cond.not (Cond.eq (Jvm.Term.string RX3 (kSi j)) (Jvm.Term.string RX3 (kSi 4)))).before args s = true := fun j hj hn => by match j, hj, hn with
  | 0, _, hn => exact Or.inr (nf_at h 72 rfl)
  | 1, _, hn => exact Or.inr (nf_at h 73 rfl)
  | 2, _, hn => exact Or.inr (nf_at h 74 rfl)
  | 3, _, hn => exact Or.inr (nf_at h 75 rfl)
  | 4, _, hn => exact absurd rfl hn
  | 5, _, hn => exact Or.inl (nf_at h 89 rfl)
  | 6, _, hn => exact Or.inl (nf_at h 102 rfl)
  | 7, _, hn => exact Or.inl (nf_at h 118 rfl)
  | 8, _, hn => exact Or.inl (nf_at h 132 rfl)
  | 9, _, hn => exact Or.inl (nf_at h 148 rfl)
  | 10, _, hn => exact Or.inl (nf_at h 165 rfl)
  | 11, _, hn => exact Or.inl (nf_at h 184 rfl)
  | j + 12, h9, _ => exact absurd h9 (by simp only [kSn]; omega)
theorem ns_ne5 {args : Array Value} {s : State} (h : (Jvm.Cond.and given_1 narrow_1).before args s = true) : ∀ j : Nat, j < kSn → 5 ≠ j → (Cond.not (Cond.eq (Jvm.Term.string RX3 (kSi 5)) (Jvm.Term.string RX3 (kSi j)))).before args s = true ∨ (Cond.not (Cond.eq (Jvm.Term.string RX3 (kSi j)) (Jvm.Term.string RX3 (kSi 5)))).before args s = true := fun j hj hn => by match j, hj, hn with
  | 0, _, hn => exact Or.inr (nf_at h 85 rfl)
  | 1, _, hn => exact Or.inr (nf_at h 86 rfl)
  | 2, _, hn => exact Or.inr (nf_at h 87 rfl)
  | 3, _, hn => exact Or.inr (nf_at h 88 rfl)
  | 4, _, hn => exact Or.inr (nf_at h 89 rfl)
  | 5, _, hn => exact absurd rfl hn
  | 6, _, hn => exact Or.inl (nf_at h 103 rfl)
  | 7, _, hn => exact Or.inl (nf_at h 119 rfl)
  | 8, _, hn => exact Or.inl (nf_at h 133 rfl)
  | 9, _, hn => exact Or.inl (nf_at h 149 rfl)
  | 10, _, hn => exact Or.inl (nf_at h 166 rfl)
  | 11, _, hn => exact Or.inl (nf_at h 185 rfl)
  | j + 12, h9, _ => exact absurd h9 (by simp only [kSn]; omega)
theorem ns_ne6 {args : Array Value} {s : State} (h : (Jvm.Cond.and given_1 narrow_1).before args s = true) : ∀ j : Nat, j < kSn → 6 ≠ j → (Cond.not (Cond.eq (Jvm.Term.string RX3 (kSi 6)) (Jvm.Term.string RX3 (kSi j)))).before args s = true ∨ (Cond.not (Cond.eq (Jvm.Term.string RX3 (kSi j)) (Jvm.Term.string RX3 (kSi 6)))).before args s = true := fun j hj hn => by match j, hj, hn with
  | 0, _, hn => exact Or.inr (nf_at h 98 rfl)
  | 1, _, hn => exact Or.inr (nf_at h 99 rfl)
  | 2, _, hn => exact Or.inr (nf_at h 100 rfl)
  | 3, _, hn => exact Or.inr (nf_at h 101 rfl)
  | 4, _, hn => exact Or.inr (nf_at h 102 rfl)
  | 5, _, hn => exact Or.inr (nf_at h 103 rfl)
  | 6, _, hn => exact absurd rfl hn
  | 7, _, hn => exact Or.inl (nf_at h 120 rfl)
  | 8, _, hn => exact Or.inl (nf_at h 134 rfl)
  | 9, _, hn => exact Or.inl (nf_at h 150 rfl)
  | 10, _, hn => exact Or.inl (nf_at h 167 rfl)
  | 11, _, hn => exact Or.inl (nf_at h 186 rfl)
  | j + 12, h9, _ => exact absurd h9 (by simp only [kSn]; omega)
theorem ns_ne7 {args : Array Value} {s : State} (h : (Jvm.Cond.and given_1 narrow_1).before args s = true) : ∀ j : Nat, j < kSn → 7 ≠ j → (Cond.not (Cond.eq (Jvm.Term.string RX3 (kSi 7)) (Jvm.Term.string RX3 (kSi j)))).before args s = true ∨ (Cond.not (Cond.eq (Jvm.Term.string RX3 (kSi j)) (Jvm.Term.string RX3 (kSi 7)))).before args s = true := fun j hj hn => by match j, hj, hn with
  | 0, _, hn => exact Or.inr (nf_at h 114 rfl)
  | 1, _, hn => exact Or.inr (nf_at h 115 rfl)
  | 2, _, hn => exact Or.inr (nf_at h 116 rfl)
  | 3, _, hn => exact Or.inr (nf_at h 117 rfl)
  | 4, _, hn => exact Or.inr (nf_at h 118 rfl)
  | 5, _, hn => exact Or.inr (nf_at h 119 rfl)
  | 6, _, hn => exact Or.inr (nf_at h 120 rfl)
  | 7, _, hn => exact absurd rfl hn
  | 8, _, hn => exact Or.inl (nf_at h 135 rfl)
  | 9, _, hn => exact Or.inl (nf_at h 151 rfl)
  | 10, _, hn => exact Or.inl (nf_at h 168 rfl)
  | 11, _, hn => exact Or.inl (nf_at h 187 rfl)
  | j + 12, h9, _ => exact absurd h9 (by simp only [kSn]; omega)
theorem ns_ne8 {args : Array Value} {s : State} (h : (Jvm.Cond.and given_1 narrow_1).before args s = true) : ∀ j : Nat, j < kSn → 8 ≠ j → (Cond.not (Cond.eq (Jvm.Term.string RX3 (kSi 8)) (Jvm.Term.string RX3 (kSi j)))).before args s = true ∨ (Cond.not (Cond.eq (Jvm.Term.string RX3 (kSi j)) (Jvm.Term.string RX3 (kSi 8)))).before args s = true := fun j hj hn => by match j, hj, hn with
  | 0, _, hn => exact Or.inr (nf_at h 128 rfl)
  | 1, _, hn => exact Or.inr (nf_at h 129 rfl)
  | 2, _, hn => exact Or.inr (nf_at h 130 rfl)
  | 3, _, hn => exact Or.inr (nf_at h 131 rfl)
  | 4, _, hn => exact Or.inr (nf_at h 132 rfl)
  | 5, _, hn => exact Or.inr (nf_at h 133 rfl)
  | 6, _, hn => exact Or.inr (nf_at h 134 rfl)
  | 7, _, hn => exact Or.inr (nf_at h 135 rfl)
  | 8, _, hn => exact absurd rfl hn
  | 9, _, hn => exact Or.inl (nf_at h 152 rfl)
  | 10, _, hn => exact Or.inl (nf_at h 169 rfl)
  | 11, _, hn => exact Or.inl (nf_at h 188 rfl)
  | j + 12, h9, _ => exact absurd h9 (by simp only [kSn]; omega)
theorem ns_ne9 {args : Array Value} {s : State} (h : (Jvm.Cond.and given_1 narrow_1).before args s = true) : ∀ j : Nat, j < kSn → 9 ≠ j → (Cond.not (Cond.eq (Jvm.Term.string RX3 (kSi 9)) (Jvm.Term.string RX3 (kSi j)))).before args s = true ∨ (Cond.not (Cond.eq (Jvm.Term.string RX3 (kSi j)) (Jvm.Term.string RX3 (kSi 9)))).before args s = true := fun j hj hn => by match j, hj, hn with
  | 0, _, hn => exact Or.inr (nf_at h 144 rfl)
  | 1, _, hn => exact Or.inr (nf_at h 145 rfl)
  | 2, _, hn => exact Or.inr (nf_at h 146 rfl)
  | 3, _, hn => exact Or.inr (nf_at h 147 rfl)
  | 4, _, hn => exact Or.inr (nf_at h 148 rfl)
  | 5, _, hn => exact Or.inr (nf_at h 149 rfl)
  | 6, _, hn => exact Or.inr (nf_at h 150 rfl)
  | 7, _, hn => exact Or.inr (nf_at h 151 rfl)
  | 8, _, hn => exact Or.inr (nf_at h 152 rfl)
  | 9, _, hn => exact absurd rfl hn
  | 10, _, hn => exact Or.inl (nf_at h 170 rfl)
  | 11, _, hn => exact Or.inl (nf_at h 189 rfl)
  | j + 12, h9, _ => exact absurd h9 (by simp only [kSn]; omega)
theorem ns_ne10 {args : Array Value} {s : State} (h : (Jvm.Cond.and given_1 narrow_1).before args s = true) : ∀ j : Nat, j < kSn → 10 ≠ j → (Cond.not (Cond.eq (Jvm.Term.string RX3 (kSi 10)) (Jvm.Term.string RX3 (kSi j)))).before args s = true ∨ (Cond.not (Cond.eq (Jvm.Term.string RX3 (kSi j)) (Jvm.Term.string RX3 (kSi 10)))).before args s = true := fun j hj hn => by match j, hj, hn with
  | 0, _, hn => exact Or.inr (nf_at h 161 rfl)
  | 1, _, hn => exact Or.inr (nf_at h 162 rfl)
  | 2, _, hn => exact Or.inr (nf_at h 163 rfl)
  | 3, _, hn => exact Or.inr (nf_at h 164 rfl)
  | 4, _, hn => exact Or.inr (nf_at h 165 rfl)
  | 5, _, hn => exact Or.inr (nf_at h 166 rfl)
  | 6, _, hn => exact Or.inr (nf_at h 167 rfl)
  | 7, _, hn => exact Or.inr (nf_at h 168 rfl)
  | 8, _, hn => exact Or.inr (nf_at h 169 rfl)
  | 9, _, hn => exact Or.inr (nf_at h 170 rfl)
  | 10, _, hn => exact absurd rfl hn
  | 11, _, hn => exact Or.inl (nf_at h 190 rfl)
  | j + 12, h9, _ => exact absurd h9 (by simp only [kSn]; omega)
theorem ns_ne11 {args : Array Value} {s : State} (h : (Jvm.Cond.and given_1 narrow_1).before args s = true) : ∀ j : Nat, j < kSn → 11 ≠ j → (Cond.not (Cond.eq (Jvm.Term.string RX3 (kSi 11)) (Jvm.Term.string RX3 (kSi j)))).before args s = true ∨ (Cond.not (Cond.eq (Jvm.Term.string RX3 (kSi j)) (Jvm.Term.string RX3 (kSi 11)))).before args s = true := fun j hj hn => by match j, hj, hn with
  | 0, _, hn => exact Or.inr (nf_at h 180 rfl)
  | 1, _, hn => exact Or.inr (nf_at h 181 rfl)
  | 2, _, hn => exact Or.inr (nf_at h 182 rfl)
  | 3, _, hn => exact Or.inr (nf_at h 183 rfl)
  | 4, _, hn => exact Or.inr (nf_at h 184 rfl)
  | 5, _, hn => exact Or.inr (nf_at h 185 rfl)
  | 6, _, hn => exact Or.inr (nf_at h 186 rfl)
  | 7, _, hn => exact Or.inr (nf_at h 187 rfl)
  | 8, _, hn => exact Or.inr (nf_at h 188 rfl)
  | 9, _, hn => exact Or.inr (nf_at h 189 rfl)
  | 10, _, hn => exact Or.inr (nf_at h 190 rfl)
  | 11, _, hn => exact absurd rfl hn
  | j + 12, h9, _ => exact absurd h9 (by simp only [kSn]; omega)
theorem ns_ne {args : Array Value} {s : State} (h : (Jvm.Cond.and given_1 narrow_1).before args s = true) : ∀ i : Nat, i < kSn → ∀ j : Nat, j < kSn → i ≠ j → (Cond.not (Cond.eq (Jvm.Term.string RX3 (kSi i)) (Jvm.Term.string RX3 (kSi j)))).before args s = true ∨ (Cond.not (Cond.eq (Jvm.Term.string RX3 (kSi j)) (Jvm.Term.string RX3 (kSi i)))).before args s = true := fun i hi => by match i, hi with
  | 0, _ => exact ns_ne0 h
  | 1, _ => exact ns_ne1 h
  | 2, _ => exact ns_ne2 h
  | 3, _ => exact ns_ne3 h
  | 4, _ => exact ns_ne4 h
  | 5, _ => exact ns_ne5 h
  | 6, _ => exact ns_ne6 h
  | 7, _ => exact ns_ne7 h
  | 8, _ => exact ns_ne8 h
  | 9, _ => exact ns_ne9 h
  | 10, _ => exact ns_ne10 h
  | 11, _ => exact ns_ne11 h
  | i + 12, h9 => exact absurd h9 (by simp only [kSn]; omega)
theorem wl_s0 : Jvm.Cond.stringRef "TalkKnots$TextReader" (42 : Nat) "mast" ∈ lw_tbl := (List.mem_append_right _ (List.mem_append_right _ (List.mem_append_right _ (List.mem_append_left _ (List.mem_of_getElem? (i := 37) rfl)))))
theorem wl_s1 : Jvm.Cond.stringRef "TalkKnots$TextReader" (74 : Nat) "down" ∈ lw_tbl := (List.mem_append_right _ (List.mem_append_right _ (List.mem_append_right _ (List.mem_append_left _ (List.mem_of_getElem? (i := 102) rfl)))))
theorem wl_s2 : Jvm.Cond.stringRef "TalkKnots$TextReader" (51 : Nat) "wind" ∈ lw_tbl := (List.mem_append_right _ (List.mem_append_right _ (List.mem_append_right _ (List.mem_append_left _ (List.mem_of_getElem? (i := 104) rfl)))))
theorem wl_s3 : Jvm.Cond.stringRef "TalkKnots$TextReader" (56 : Nat) "tease" ∈ lw_tbl := (List.mem_append_right _ (List.mem_append_right _ (List.mem_append_right _ (List.mem_append_left _ (List.mem_of_getElem? (i := 109) rfl)))))
theorem wl_s4 : Jvm.Cond.stringRef "TalkKnots$TextReader" (123 : Nat) "splice" ∈ lw_tbl := (List.mem_append_right _ (List.mem_append_right _ (List.mem_append_right _ (List.mem_append_left _ (List.mem_of_getElem? (i := 126) rfl)))))
theorem wl_s5 : Jvm.Cond.stringRef "TalkKnots$TextReader" (125 : Nat) "hitch" ∈ lw_tbl := (List.mem_append_right _ (List.mem_append_right _ (List.mem_append_right _ (List.mem_append_left _ (List.mem_of_getElem? (i := 127) rfl)))))
theorem wl_s6 : Jvm.Cond.stringRef "TalkKnots$TextReader" (127 : Nat) "fool" ∈ lw_tbl := (List.mem_append_right _ (List.mem_append_right _ (List.mem_append_right _ (List.mem_append_left _ (List.mem_of_getElem? (i := 128) rfl)))))
theorem wl_s7 : Jvm.Cond.stringRef "TalkKnots$TextReader" (129 : Nat) "hawser" ∈ lw_tbl := (List.mem_append_right _ (List.mem_append_right _ (List.mem_append_right _ (List.mem_append_left _ (List.mem_of_getElem? (i := 129) rfl)))))
theorem wl_s8 : Jvm.Cond.stringRef "TalkKnots$TextReader" (131 : Nat) "vow" ∈ lw_tbl := (List.mem_append_right _ (List.mem_append_right _ (List.mem_append_right _ (List.mem_append_left _ (List.mem_of_getElem? (i := 130) rfl)))))
theorem wl_s9 : Jvm.Cond.stringRef "TalkKnots$TextReader" (133 : Nat) "knot" ∈ lw_tbl := (List.mem_append_right _ (List.mem_append_right _ (List.mem_append_right _ (List.mem_append_left _ (List.mem_of_getElem? (i := 131) rfl)))))
theorem wl_s10 : Jvm.Cond.stringRef "TalkKnots$TextReader" (106 : Nat) "open" ∈ lw_tbl := (List.mem_append_right _ (List.mem_append_right _ (List.mem_append_right _ (List.mem_append_left _ (List.mem_of_getElem? (i := 134) rfl)))))
theorem wl_s11 : Jvm.Cond.stringRef "TalkKnots$TextReader" (110 : Nat) "loose" ∈ lw_tbl := (List.mem_append_right _ (List.mem_append_right _ (List.mem_append_right _ (List.mem_append_left _ (List.mem_of_getElem? (i := 135) rfl)))))
theorem wl_lc : Jvm.Cond.laysStatic "java/lang/String" "COMPACT_STRINGS" "Z" ∈ lw_tbl := (List.mem_append_right _ (List.mem_append_right _ (List.mem_append_right _ (List.mem_append_left _ (List.mem_of_getElem? (i := 55) rfl)))))
theorem wl_lf : Jvm.Cond.laysStatic "jdk/internal/util/Preconditions" "SIOOBE_FORMATTER" "Ljava/util/function/BiFunction;" ∈ lw_tbl := (List.mem_append_right _ (List.mem_append_right _ (List.mem_append_right _ (List.mem_append_left _ (List.mem_of_getElem? (i := 71) rfl)))))
theorem wl_ok : Jvm.Cond.arrayOver (Jvm.ClassFile.FieldType.object "TalkKnots$Knot") ∈ lw_tbl := (List.mem_append_right _ (List.mem_append_left _ (List.mem_of_getElem? (i := 30) rfl)))
theorem wl_os : Jvm.Cond.arrayOver (Jvm.ClassFile.FieldType.object "TalkKnots$Sheet") ∈ lw_tbl := (List.mem_append_right _ (List.mem_append_left _ (List.mem_of_getElem? (i := 140) rfl)))
theorem wl_s {args : Array Value} {s : State} (hts : ∀ w ∈ lw_tbl, w.before args s = true) : ∀ i : Nat, i < kSn → (Cond.stringRef RX3 (kSi i) (kSt i)).before args s = true := fun i hi => by match i, hi with
  | 0, _ => exact hts _ wl_s0
  | 1, _ => exact hts _ wl_s1
  | 2, _ => exact hts _ wl_s2
  | 3, _ => exact hts _ wl_s3
  | 4, _ => exact hts _ wl_s4
  | 5, _ => exact hts _ wl_s5
  | 6, _ => exact hts _ wl_s6
  | 7, _ => exact hts _ wl_s7
  | 8, _ => exact hts _ wl_s8
  | 9, _ => exact hts _ wl_s9
  | 10, _ => exact hts _ wl_s10
  | 11, _ => exact hts _ wl_s11
  | i + 12, h9 => exact absurd h9 (by simp only [kSn]; omega)
/-- the strings, the two statics -/
theorem ws_str {args : Array Value} {s : State} (h : (Jvm.Cond.and given_1 narrow_1).before args s = true) (hts : ∀ w ∈ lw_tbl, w.before args s = true) : ∃ sK sV : Nat → Nat, vk_S kSn kLen kByt sK sV (fun q : Nat => s.heap.size ≤ q) s s.heap ∧ (∀ i : Nat, i < kSn → vk_R RX3 (kSi i) (kSt i) (sK i) s) ∧ va_Z "java/lang/String" "COMPACT_STRINGS" "Z" (.int 1) (fun q : Nat => s.heap.size ≤ q) s s.heap ∧ va_Zq "jdk/internal/util/Preconditions" "SIOOBE_FORMATTER" "Ljava/util/function/BiFunction;" (fun q : Nat => s.heap.size ≤ q) s s.heap := by
  obtain ⟨sK, sV, h1, h2⟩ := vk_Sof (A := (fun q : Nat => s.heap.size ≤ q)) (tm := fun i => Jvm.Term.string RX3 (kSi i)) (len := kLen) (byt := kByt) (N := kSn) (fun i hi => by have := ks_len i hi; omega) (ns_ex h) (ns_co h) (ns_ar h) (ns_le h) (ns_el h) (fun i j hi hj hn => ns_ne h i hi j hj hn) (fun a h9 => Nat.not_le.mpr h9)
  refine ⟨sK, sV, h1, fun i hi => vk_R.of (wl_s hts i hi) (h2 i hi), ?_, ?_⟩
  · exact va_Zof (hts _ wl_lc) (hts _ (kw_tbl kw_1_11)) (va_eqi (nf_at h 4 rfl)) (fun a h9 => Nat.not_le.mpr h9)
  · exact va_Zqof (hts _ wl_lf) (hts _ (kw_tbl kw_1_13)) (nf_at h 5 rfl) (fun a h9 => Nat.not_le.mpr h9)
theorem wa_prim {args : Array Value} {s : State} {ty : FieldType} (h : (Cond.arrayClass ty).before args s = true) (hty : ∀ C, ty ≠ .object C) : ∃ cA : ClassId, ArrOfT s cA ty ∧ va_RA s cA ty := by
  obtain ⟨cA, kA, comp, h1, h2, h3⟩ := Cond.arrayClass_spec h
  refine ⟨cA, fun n z => ⟨fun k h => (by cases h), kA, h2, comp, h3⟩, ?_⟩
  cases ty with
  | object C => exact absurd rfl (hty C)
  | _ => exact h1
theorem wa_obj {args : Array Value} {s : State} {C : String} (h : (Cond.arrayOver (.object C)).before args s = true) : ∃ cA : ClassId, ArrOfT s cA (.object C) ∧ va_RA s cA (.object C) := by
  obtain ⟨comp, cA, kA, h1, h2, h3, h4, h5⟩ := Cond.arrayOver_spec h
  exact ⟨cA, fun n z => ⟨fun k h => (by cases h), kA, h3, comp, h4⟩, kA, comp, h3, h4, h1, h5⟩
/-- the classes, their slots, the classes of arrays -/
theorem ws_cls {args : Array Value} {s : State} (hts : ∀ w ∈ lw_tbl, w.before args s = true) : ∃ (D : va_G) (ca : Nat → ClassId), va_K D vwCl (kTc ca) s := by
  obtain ⟨c0, iS0, hKn0⟩ := u_known (C := RX0) (T := TX0) (N := 5) (n := 5) hts (fun w hw => kw_tbl (inK0 w hw)) (hts _ (kw_tbl kw_1_31))
  obtain ⟨c1, iS1, hKn1⟩ := u_known (C := RX1) (T := TX1) (N := 3) (n := 3) hts (fun w hw => kw_tbl (inK1 w hw)) (hts _ (kw_tbl kw_1_141))
  obtain ⟨c2, iS2, hKn2⟩ := u_known (C := RX2) (T := TX2) (N := 2) (n := 2) hts (fun w hw => kw_tbl (inK2 w hw)) (hts _ (kw_tbl kw_1_97))
  obtain ⟨c3, iS3, hKn3⟩ := u_known (C := RX3) (T := TX3) (N := 7) (n := 7) hts (fun w hw => kw_tbl (inK3 w hw)) (hts _ (kw_tbl kw_1_112))
  obtain ⟨c4, iS4, hKn4⟩ := u_known (C := RX4) (T := TX4) (N := 7) (n := 7) hts (fun w hw => kw_tbl (inK4 w hw)) (hts _ (kw_tbl kw_1_24))
  obtain ⟨c5, iS5, hKn5⟩ := u_known (C := RX5) (T := TX5) (N := 8) (n := 8) hts (fun w hw => kw_tbl (inK5 w hw)) (hts _ (kw_tbl kw_1_16))
  obtain ⟨c6, iS6, hKn6⟩ := u_known (C := RX6) (T := TX6) (N := 19) (n := 19) hts (fun w hw => kw_tbl (inK6 w hw)) (hts _ (kw_tbl kw_3_229))
  obtain ⟨d0, r0⟩ := wa_prim (hts _ (kw_tbl kw_1_63)) (fun C h => by cases h)
  obtain ⟨d1, r1⟩ := wa_prim (hts _ (kw_tbl kw_1_159)) (fun C h => by cases h)
  obtain ⟨d2, r2⟩ := wa_obj (hts _ wl_ok)
  obtain ⟨d3, r3⟩ := wa_obj (hts _ wl_os)
  refine ⟨(fun k => ([c0, c1, c2, c3, c4, c5, c6] : List ClassId).getD k 0, fun k => ([iS0, iS1, iS2, iS3, iS4, iS5, iS6] : List (Nat → Nat)).getD k (fun _ => 0)), fun k => ([d0, d1, d2, d3] : List ClassId).getD k 0, ?_, ?_⟩
  · intro k q hq
    match k, hq with
    | 0, hq => cases hq; exact hKn0
    | 1, hq => cases hq; exact hKn1
    | 2, hq => cases hq; exact hKn2
    | 3, hq => cases hq; exact hKn3
    | 4, hq => cases hq; exact hKn4
    | 5, hq => cases hq; exact hKn5
    | 6, hq => cases hq; exact hKn6
    | k + 7, hq => simp [vwCl] at hq
  · intro k q hq
    match k, hq with
    | 0, hq => cases hq; exact r0
    | 1, hq => cases hq; exact r1
    | 2, hq => cases hq; exact r2
    | 3, hq => cases hq; exact r3
    | k + 4, hq => simp [kTc] at hq
