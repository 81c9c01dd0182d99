/-! the reference's row; sets as masks -/
def fm (j : Nat) : Nat := if j = 3 then 4 else if j = 4 then 3 else j
theorem fm_lt {j : Nat} (h : j < 5) : fm j < 5 := by
  unfold fm
  repeat' split
  all_goals omega
def RR (ρ : Nat → Int32) (a : kY) : Prop := ρ 0 = iI (a 0 0) ∧ ρ 1 = iI (a 0 1) ∧ (∀ i, i < 12 → ρ (2 + i) = iI (a 1 i)) ∧ (∀ m, m < 4 → ρ (14 + 2 * m) = iI (a 2 m) ∧ ρ (14 + 2 * m + 1) = iI (a 3 m)) ∧ ∀ k, k < nn a → ∀ j, j < 5 → ρ (22 + 5 * k + j) = iI (a (4 + k) (fm j))
theorem R_its {st : kM} {k j : Nat} (hk : k < 10) (hj : j < 5) : fX6_its (iI k) (iI j) st = some (st.1 60 (22 + 5 * k + j), st) := by
  unfold fX6_its
  simp (disch := omega) only [iI_ofNat, iI_add, iI_sub, iI_mul, iI_neg, iI_lt, iI_le, iI_eq, iI_cl]
  rw [if_neg (by omega), show (22 + 5 * (k : Int) + (j : Int)).toNat = 22 + 5 * k + j by omega]
theorem R_i0 {st : kM} {a : kY} {k : Nat} (h : RR (st.1 60) a) (ok : Ok a) (hk : k < nn a) : fX6_its (iI k) 0 st = some (iI (a (4 + k) 0), st) := by
  have := @R_its st k 0 (by have := ok.n10; omega) (by omega)
  rw [h.2.2.2.2 k hk 0 (by omega)] at this
  exact this
theorem R_i1 {st : kM} {a : kY} {k : Nat} (h : RR (st.1 60) a) (ok : Ok a) (hk : k < nn a) : fX6_its (iI k) 1 st = some (iI (a (4 + k) 1), st) := by
  have := @R_its st k 1 (by have := ok.n10; omega) (by omega)
  rw [h.2.2.2.2 k hk 1 (by omega)] at this
  exact this
theorem R_i2 {st : kM} {a : kY} {k : Nat} (h : RR (st.1 60) a) (ok : Ok a) (hk : k < nn a) : fX6_its (iI k) 2 st = some (iI (a (4 + k) 2), st) := by
  have := @R_its st k 2 (by have := ok.n10; omega) (by omega)
  rw [h.2.2.2.2 k hk 2 (by omega)] at this
  exact this
theorem R_i3 {st : kM} {a : kY} {k : Nat} (h : RR (st.1 60) a) (ok : Ok a) (hk : k < nn a) : fX6_its (iI k) 3 st = some (iI (a (4 + k) 4), st) := by
  have := @R_its st k 3 (by have := ok.n10; omega) (by omega)
  rw [h.2.2.2.2 k hk 3 (by omega)] at this
  exact this
theorem R_i4 {st : kM} {a : kY} {k : Nat} (h : RR (st.1 60) a) (ok : Ok a) (hk : k < nn a) : fX6_its (iI k) 4 st = some (iI (a (4 + k) 3), st) := by
  have := @R_its st k 4 (by have := ok.n10; omega) (by omega)
  rw [h.2.2.2.2 k hk 4 (by omega)] at this
  exact this
theorem R_puts {st : kM} {k j : Nat} {v : Int32} (hk : k < 10) (hj : j < 5) : fX6_puts (iI k) (iI j) v st = some (kwr st 60 (22 + 5 * k + j) v) := by
  unfold fX6_puts
  simp (disch := omega) only [iI_ofNat, iI_add, iI_sub, iI_mul, iI_neg, iI_lt, iI_le, iI_eq, iI_cl]
  rw [if_neg (by omega), show (22 + 5 * (k : Int) + (j : Int)).toNat = 22 + 5 * k + j by omega, Option.bind_some]
theorem R_p0 {st : kM} {k : Nat} {v : Int32} (hk : k < 10) : fX6_puts (iI k) 0 v st = some (kwr st 60 (22 + 5 * k + 0) v) := R_puts (j := 0) hk (by omega)
theorem R_p1 {st : kM} {k : Nat} {v : Int32} (hk : k < 10) : fX6_puts (iI k) 1 v st = some (kwr st 60 (22 + 5 * k + 1) v) := R_puts (j := 1) hk (by omega)
theorem R_p2 {st : kM} {k : Nat} {v : Int32} (hk : k < 10) : fX6_puts (iI k) 2 v st = some (kwr st 60 (22 + 5 * k + 2) v) := R_puts (j := 2) hk (by omega)
theorem R_p3 {st : kM} {k : Nat} {v : Int32} (hk : k < 10) : fX6_puts (iI k) 3 v st = some (kwr st 60 (22 + 5 * k + 3) v) := R_puts (j := 3) hk (by omega)
theorem R_p4 {st : kM} {k : Nat} {v : Int32} (hk : k < 10) : fX6_puts (iI k) 4 v st = some (kwr st 60 (22 + 5 * k + 4) v) := R_puts (j := 4) hk (by omega)
theorem R_m0 {st : kM} {a : kY} {m : Nat} (h : RR (st.1 60) a) (hm : m < 4) : fX6_ofMast (iI m) 0 st = some (iI (a 2 m), st) := by
  unfold fX6_ofMast
  simp (disch := omega) only [iI_ofNat, iI_add, iI_sub, iI_mul, iI_neg, iI_lt, iI_le, iI_eq, iI_cl]
  rw [if_neg (by omega), show (14 + 2 * (m : Int) + 0).toNat = 14 + 2 * m by omega, (h.2.2.2.1 m hm).1]
theorem R_m1 {st : kM} {a : kY} {m : Nat} (h : RR (st.1 60) a) (hm : m < 4) : fX6_ofMast (iI m) 1 st = some (iI (a 3 m), st) := by
  unfold fX6_ofMast
  simp (disch := omega) only [iI_ofNat, iI_add, iI_sub, iI_mul, iI_neg, iI_lt, iI_le, iI_eq, iI_cl]
  rw [if_neg (by omega), show (14 + 2 * (m : Int) + 1).toNat = 14 + 2 * m + 1 by omega, (h.2.2.2.1 m hm).2]
theorem R_q0 {st : kM} {m : Nat} {v : Int32} (hm : m < 4) : fX6_puts1 (iI m) 0 v st = some (kwr st 60 (14 + 2 * m) v) := by
  unfold fX6_puts1
  simp (disch := omega) only [iI_ofNat, iI_add, iI_sub, iI_mul, iI_neg, iI_lt, iI_le, iI_eq, iI_cl]
  rw [if_neg (by omega), show (14 + 2 * (m : Int) + 0).toNat = 14 + 2 * m by omega, Option.bind_some]
theorem R_q1 {st : kM} {m : Nat} {v : Int32} (hm : m < 4) : fX6_puts1 (iI m) 1 v st = some (kwr st 60 (14 + 2 * m + 1) v) := by
  unfold fX6_puts1
  simp (disch := omega) only [iI_ofNat, iI_add, iI_sub, iI_mul, iI_neg, iI_lt, iI_le, iI_eq, iI_cl]
  rw [if_neg (by omega), show (14 + 2 * (m : Int) + 1).toNat = 14 + 2 * m + 1 by omega, Option.bind_some]
theorem R_blowing {st : kM} {a : kY} (h : RR (st.1 60) a) (ok : Ok a) (hh : a 0 0 < 2147483648) : fX6_blowing st = some (iI (wn a), st) := by
  have h0 := ok.1
  unfold fX6_blowing
  rw [h.1, show (12 : Int32) = iI 12 from rfl, iI_rem h0 hh (by omega) (by omega)]
  simp (disch := omega) only [iI_ofNat, iI_add, iI_sub, iI_mul, iI_neg, iI_lt, iI_le, iI_eq, iI_cl]
  rw [if_neg (by omega), show (2 + a 0 0 % (12 : Int)).toNat = 2 + (a 0 0 % 12).toNat by omega, h.2.2.1 _ (by omega)]
  rfl
-- writing the row
theorem RR.knot {ρ : Nat → Int32} {a : kY} {k j : Nat} {z : Int} (h : RR ρ a) (hj : j < 5) : RR (va_up ρ (22 + 5 * k + j) (iI z)) (ya a (4 + k) (fm j) z) := by
  have hfm : ∀ i, i < 5 → (fm i = fm j ↔ i = j) := by
    intro i hi
    unfold fm
    repeat' split
    all_goals omega
  have hnn : nn (ya a (4 + k) (fm j) z) = nn a := by unfold nn; rw [ya_row (by omega)]
  refine ⟨?_, ?_, fun i hi => ?_, fun m hm => ⟨?_, ?_⟩, fun i hi l hl => ?_⟩
  · rw [up_ne _ _ (by omega), ya_row (by omega)]; exact h.1
  · rw [up_ne _ _ (by omega), ya_row (by omega)]; exact h.2.1
  · rw [up_ne _ _ (by omega), ya_row (by omega)]; exact h.2.2.1 i hi
  · rw [up_ne _ _ (by omega), ya_row (by omega)]; exact (h.2.2.2.1 m hm).1
  · rw [up_ne _ _ (by omega), ya_row (by omega)]; exact (h.2.2.2.1 m hm).2
  · rw [hnn] at hi
    rw [ya_eq]
    by_cases e : i = k ∧ l = j
    · obtain ⟨rfl, rfl⟩ := e
      rw [up_eq, if_pos ⟨rfl, rfl⟩]
    · rw [up_ne _ _ (by omega), if_neg (fun q => e ⟨by omega, (hfm l hl).mp q.2⟩)]
      exact h.2.2.2.2 i hi l hl
theorem RR.up {ρ : Nat → Int32} {a : kY} {m : Nat} {z : Int} (h : RR ρ a) (ok : Ok a) (hm : m < 4) : RR (va_up ρ (14 + 2 * m + 1) (iI z)) (ya a 3 m z) := by
  have hnn : nn (ya a 3 m z) = nn a := by unfold nn; rw [ya_row (by omega)]
  refine ⟨?_, ?_, fun i hi => ?_, fun i hi => ⟨?_, ?_⟩, fun i hi l hl => ?_⟩
  · rw [up_ne _ _ (by omega), ya_row (by omega)]; exact h.1
  · rw [up_ne _ _ (by omega), ya_row (by omega)]; exact h.2.1
  · rw [up_ne _ _ (by omega), ya_row (by omega)]; exact h.2.2.1 i hi
  · rw [up_ne _ _ (by omega), ya_row (by omega)]; exact (h.2.2.2.1 i hi).1
  · rw [ya_eq]
    by_cases e : i = m
    · subst e; rw [up_eq, if_pos ⟨rfl, rfl⟩]
    · rw [up_ne _ _ (by omega), if_neg (by omega)]; exact (h.2.2.2.1 i hi).2
  · rw [hnn] at hi
    rw [up_ne _ _ (by omega), ya_row (by omega)]; exact h.2.2.2.2 i hi l hl
theorem RR.weight {ρ : Nat → Int32} {a : kY} {m : Nat} {z : Int} (h : RR ρ a) (hm : m < 4) : RR (va_up ρ (14 + 2 * m) (iI z)) (ya a 2 m z) := by
  have hnn : nn (ya a 2 m z) = nn a := by unfold nn; rw [ya_row (by omega)]
  refine ⟨?_, ?_, fun i hi => ?_, fun i hi => ⟨?_, ?_⟩, fun i hi l hl => ?_⟩
  · rw [up_ne _ _ (by omega), ya_row (by omega)]; exact h.1
  · rw [up_ne _ _ (by omega), ya_row (by omega)]; exact h.2.1
  · rw [up_ne _ _ (by omega), ya_row (by omega)]; exact h.2.2.1 i hi
  · rw [ya_eq]
    by_cases e : i = m
    · subst e; rw [up_eq, if_pos ⟨rfl, rfl⟩]
    · rw [up_ne _ _ (by omega), if_neg (by omega)]; exact (h.2.2.2.1 i hi).1
  · rw [up_ne _ _ (by omega), ya_row (by omega)]; exact (h.2.2.2.1 i hi).2
  · rw [hnn] at hi
    rw [up_ne _ _ (by omega), ya_row (by omega)]; exact h.2.2.2.2 i hi l hl
theorem RR.wind {ρ : Nat → Int32} {a : kY} {m : Nat} {z : Int} (h : RR ρ a) (hm : m < 12) : RR (va_up ρ (2 + m) (iI z)) (ya a 1 m z) := by
  have hnn : nn (ya a 1 m z) = nn a := by unfold nn; rw [ya_row (by omega)]
  refine ⟨?_, ?_, fun i hi => ?_, fun i hi => ⟨?_, ?_⟩, fun i hi l hl => ?_⟩
  · rw [up_ne _ _ (by omega), ya_row (by omega)]; exact h.1
  · rw [up_ne _ _ (by omega), ya_row (by omega)]; exact h.2.1
  · rw [ya_eq]
    by_cases e : i = m
    · subst e; rw [up_eq, if_pos ⟨rfl, rfl⟩]
    · rw [up_ne _ _ (by omega), if_neg (by omega)]; exact h.2.2.1 i hi
  · rw [up_ne _ _ (by omega), ya_row (by omega)]; exact (h.2.2.2.1 i hi).1
  · rw [up_ne _ _ (by omega), ya_row (by omega)]; exact (h.2.2.2.1 i hi).2
  · rw [hnn] at hi
    rw [up_ne _ _ (by omega), ya_row (by omega)]; exact h.2.2.2.2 i hi l hl
theorem RR.hour {ρ : Nat → Int32} {a : kY} {z : Int} (h : RR ρ a) : RR (va_up ρ 0 (iI z)) (ya a 0 0 z) := by
  have hnn : nn (ya a 0 0 z) = nn a := by unfold nn; rw [ya_eq, if_neg (by omega)]
  refine ⟨?_, ?_, fun i hi => ?_, fun i hi => ⟨?_, ?_⟩, fun i hi l hl => ?_⟩
  · rw [up_eq, ya_eq, if_pos ⟨rfl, rfl⟩]
  · rw [up_ne _ _ (by omega), ya_eq, if_neg (by omega)]; exact h.2.1
  · rw [up_ne _ _ (by omega), ya_row (by omega)]; exact h.2.2.1 i hi
  · rw [up_ne _ _ (by omega), ya_row (by omega)]; exact (h.2.2.2.1 i hi).1
  · rw [up_ne _ _ (by omega), ya_row (by omega)]; exact (h.2.2.2.1 i hi).2
  · rw [hnn] at hi
    rw [up_ne _ _ (by omega), ya_row (by omega)]; exact h.2.2.2.2 i hi l hl
theorem RR.cong {ρ : Nat → Int32} {a b : kY} (h : RR ρ a) (h0 : b 0 0 = a 0 0) (h1 : b 0 1 = a 0 1) (hw : ∀ i, i < 12 → b 1 i = a 1 i) (hm : ∀ m, m < 4 → b 2 m = a 2 m ∧ b 3 m = a 3 m) (hk : ∀ k, k < nn a → ∀ j, j < 5 → b (4 + k) j = a (4 + k) j) : RR ρ b := by
  have hnn : nn b = nn a := by unfold nn; rw [h1]
  refine ⟨by rw [h0]; exact h.1, by rw [h1]; exact h.2.1, fun i hi => by rw [hw i hi]; exact h.2.2.1 i hi, fun m h9 => ⟨by rw [(hm m h9).1]; exact (h.2.2.2.1 m h9).1, by rw [(hm m h9).2]; exact (h.2.2.2.1 m h9).2⟩, fun k h9 j hj => ?_⟩
  rw [hnn] at h9
  rw [hk k h9 (fm j) (fm_lt hj)]
  exact h.2.2.2.2 k h9 j hj
-- sets
def mv (p : Nat → Bool) : Nat → Nat
  | 0 => 0
  | k + 1 => mv p k + (if p k then 2 ^ k else 0)
def ct (p : Nat → Bool) : Nat → Nat
  | 0 => 0
  | k + 1 => ct p k + (if p k then 1 else 0)
theorem mv_lt (p : Nat → Bool) : ∀ k, mv p k < 2 ^ k
  | 0 => by simp [mv]
  | k + 1 => by
    have := mv_lt p k
    unfold mv
    rw [Nat.pow_succ]
    split <;> omega
theorem mv_cong {p q : Nat → Bool} : ∀ {k : Nat}, (∀ i, i < k → p i = q i) → mv p k = mv q k
  | 0, _ => rfl
  | k + 1, h => by unfold mv; rw [mv_cong (fun i hi => h i (by omega)), h k (by omega)]
theorem ct_cong {p q : Nat → Bool} : ∀ {k : Nat}, (∀ i, i < k → p i = q i) → ct p k = ct q k
  | 0, _ => rfl
  | k + 1, h => by unfold ct; rw [ct_cong (fun i hi => h i (by omega)), h k (by omega)]
theorem ct_le (p : Nat → Bool) : ∀ k, ct p k ≤ k
  | 0 => by simp [ct]
  | k + 1 => by have := ct_le p k; unfold ct; split <;> omega
theorem mv_ct (p : Nat → Bool) : ∀ k, (mv p k = 0 ↔ ct p k = 0)
  | 0 => by simp [mv, ct]
  | k + 1 => by
    have := mv_ct p k
    have h2 : 0 < 2 ^ k := Nat.two_pow_pos k
    unfold mv ct
    split <;> omega
theorem mk_or : ∀ k : Nat, k < 10 → ∀ x : Nat, x < 2 ^ k → iI (x : Int) ||| ((1 : Int32) <<< (iI (k : Int) &&& 31)) = iI ((x + 2 ^ k : Nat) : Int) := by decide +kernel
def pc : Nat → Nat → Nat
  | 0, _ => 0
  | n + 1, x => x % 2 + pc n (x / 2)
theorem pc_add : ∀ k : Nat, k < 10 → ∀ x : Nat, x < 2 ^ k → pc 10 (x + 2 ^ k) = pc 10 x + 1 := by decide +kernel
theorem mv_pc (p : Nat → Bool) : ∀ n, n ≤ 10 → pc 10 (mv p n) = ct p n
  | 0, _ => by show pc 10 0 = 0; decide
  | n + 1, h => by
    have ih := mv_pc p n (by omega)
    unfold mv ct
    split
    · rw [pc_add n (by omega) _ (mv_lt p n), ih]
    · simp only [Nat.add_zero]; exact ih
def bl : Nat → Int32 → Int32 → Option Int32
  | 0, _, _ => none
  | n + 1, x1, x2 => if x2 = 0 then some x1 else bl n (x1 + 1) (x2 &&& (x2 - 1))
theorem bl_bits (st : kM) : ∀ (n : Nat) (x y : Int32), fX6_bits_4 n x y st = (bl n x y).map (fun r => (r, st))
  | 0, _, _ => rfl
  | n + 1, x, y => by
    unfold fX6_bits_4 bl
    split
    · rfl
    · rw [Option.bind_some, bl_bits st n]
theorem bl_all : ∀ x : Nat, x < 1024 → bl kfu 0 (iI (x : Int)) = some (iI ((pc 10 x : Nat) : Int)) := by decide +kernel
theorem R_bits {st : kM} {x : Nat} (hx : x < 1024) : fX6_bits (iI x) st = some (iI ((pc 10 x : Nat) : Int), st) := by
  unfold fX6_bits
  rw [bl_bits, bl_all x hx]
  rfl
theorem mv_1024 (p : Nat → Bool) {n : Nat} (h : n ≤ 10) : mv p n < 1024 := Nat.lt_of_lt_of_le (mv_lt p n) (Nat.pow_le_pow_right (n := 2) (by omega) h)
theorem S_bitCount {st : kM} {x : Nat} (hx : x < 1024) : fJ6_bitCount_0f7a4 (iI x) st = some (iI ((pc 10 x : Nat) : Int), st) := by
  have key : ∀ x : Nat, x < 1024 → (fJ6_bitCount_0f7a4 (iI (x : Int)) ((fun _ _ => 0), (fun _ _ => 0))).map Prod.fst = some (iI ((pc 10 x : Nat) : Int)) := by decide +kernel
  have h1 := key x hx
  unfold fJ6_bitCount_0f7a4 at h1 ⊢
  simp only [Option.bind_some, Option.map_some, Option.some.injEq] at h1 ⊢
  rw [h1]
theorem mk_step {p : Nat → Bool} {k : Nat} (hk : k < 10) : (p k = true → iI (mv p k : Int) ||| ((1 : Int32) <<< (iI (k : Int) &&& 31)) = iI (mv p (k + 1) : Int)) ∧ (p k = false → iI (mv p k : Int) ||| (0 : Int32) = iI (mv p (k + 1) : Int)) := by
  constructor
  · intro h
    rw [mk_or k hk _ (mv_lt p k)]
    simp [mv, h]
  · intro h
    rw [Int32.or_zero]
    simp [mv, h]
/-- of mast m, and fast -/
def pm (a : kY) (m : Int) (i : Nat) : Bool := decide (a (4 + i) 1 = m ∧ a (4 + i) 4 = 1)
theorem cnt_ct (a : kY) (m : Int) : ∀ k, cnt a m k = (ct (pm a m) k : Int)
  | 0 => rfl
  | k + 1 => by
    unfold cnt ct
    rw [cnt_ct a m k]
    by_cases h : a (4 + k) 1 = m ∧ a (4 + k) 4 = 1
    · have h2 : pm a m k = true := decide_eq_true h
      rw [if_pos h, if_pos h2]; omega
    · have h2 : ¬ pm a m k = true := fun q => h (of_decide_eq_true q)
      rw [if_neg h, if_neg h2]; omega
theorem R_ko1 {st : kM} {a : kY} {m : Int} (h : RR (st.1 60) a) (ok : Ok a) (hm : 0 ≤ m ∧ m < 4) : ∀ (r k : Nat), k + r = nn a → ∀ fuel, r < fuel → fX6_knotsOf_5 fuel (iI m) 1 (iI (mv (pm a m) k : Int)) (iI k) st = some (iI (mv (pm a m) (nn a) : Int), st) := by
  intro r
  have hn := ok.n10
  induction r with
  | zero =>
    intro k hk fuel hf
    obtain ⟨f, rfl⟩ : ∃ f, fuel = f + 1 := ⟨fuel - 1, by omega⟩
    have hk' : k = nn a := by omega
    subst hk'
    unfold fX6_knotsOf_5
    rw [h.2.1]
    simp (disch := omega) only [iI_ofNat, iI_add, iI_sub, iI_mul, iI_neg, iI_lt, iI_le, iI_eq, iI_cl]
    rw [if_pos (by omega)]
  | succ r ih =>
    intro k hk fuel hf
    obtain ⟨f, rfl⟩ : ∃ f, fuel = f + 1 := ⟨fuel - 1, by omega⟩
    obtain ⟨o0, o1, o2, o3, o4⟩ := ok.2.2.2.2 k (by omega)
    have e2 : iI ((k : Int) + 1) = iI ((k + 1 : Nat) : Int) := rfl
    have hs := @mk_step (pm a m) k (by omega)
    unfold fX6_knotsOf_5
    have i1 := R_i1 (k := k) h ok (by omega)
    have i3 := R_i3 (k := k) h ok (by omega)
    simp only [i1, i3, Option.bind_some, h.2.1]
    simp only [iI_ofNat] at ih hs
    simp (disch := omega) only [iI_ofNat, iI_add, iI_sub, iI_mul, iI_neg, iI_lt, iI_le, iI_eq, iI_cl]
    rw [e2, if_neg (by omega), if_neg (show ¬ (1 : Int) = 0 by omega)]
    by_cases h1 : a (4 + k) 1 = m
    · rw [if_pos h1]
      by_cases h4 : a (4 + k) 4 = 1
      · rw [if_pos h4, hs.1 (by simp [pm, h1, h4])]
        exact ih (k + 1) (by omega) f (by omega)
      · rw [if_neg h4, hs.2 (by simp [pm, h1, h4])]
        exact ih (k + 1) (by omega) f (by omega)
    · rw [if_neg h1, hs.2 (by simp [pm, h1])]
      exact ih (k + 1) (by omega) f (by omega)
theorem R_knotsOf1 {st : kM} {a : kY} {m : Int} (h : RR (st.1 60) a) (ok : Ok a) (hm : 0 ≤ m ∧ m < 4) : fX6_knotsOf (iI m) 1 st = some (iI (mv (pm a m) (nn a) : Int), st) := by
  have hn := ok.n10
  exact R_ko1 h ok hm (nn a) 0 (by omega) kfu (by unfold kfu; omega)
theorem R_strain {st : kM} {a : kY} {m : Nat} (h : RR (st.1 60) a) (ok : Ok a) (hm : m < 4) (hh : a 0 0 < 2147483648) : fX6_strain (iI m) st = some (iI (sn a m (wn a)), st) := by
  have hn := ok.n10
  have hw := Ok_wn ok
  have h2 := (ok.2.2.2.1 m hm).1
  have hc := ct_le (pm a m) (nn a)
  unfold fX6_strain sn
  simp only [R_knotsOf1 h ok (show 0 ≤ (m : Int) ∧ (m : Int) < 4 by omega), Option.bind_some, R_bits (mv_1024 _ hn.1), mv_pc _ _ hn.1, R_m0 h hm, R_blowing h ok hh, cnt_ct]
  simp (disch := omega) only [iI_ofNat, iI_add, iI_sub, iI_mul, iI_neg, iI_lt, iI_le, iI_eq, iI_cl]
  split
  · rfl
  · rw [iI_div (by omega) (by omega) (by omega) (by omega)]
theorem R_held {st : kM} {z : Int} (hz : -100000 ≤ z ∧ z ≤ 100000) : fX6_held (iI z) 0 99 st = some (iI (Cl z), st) := by
  unfold fX6_held Cl
  simp (disch := omega) only [iI_ofNat, iI_add, iI_sub, iI_mul, iI_neg, iI_lt, iI_le, iI_eq, iI_cl]
  repeat' split
  all_goals first | rfl | (exfalso; omega) | (rw [show z = 99 by omega]) | (rw [show z = 0 by omega])
theorem R_heldA {st : kM} {z : Int} (hz : 0 ≤ z ∧ z ≤ 100000) : fX6_held (iI z) 0 9999 st = some (iI (Ag z), st) := by
  unfold fX6_held Ag
  simp (disch := omega) only [iI_ofNat, iI_add, iI_sub, iI_mul, iI_neg, iI_lt, iI_le, iI_eq, iI_cl]
  repeat' split
  all_goals first | rfl | (exfalso; omega) | (rw [show z = 9999 by omega])
theorem R_holding {st : kM} {a : kY} {k : Nat} (h : RR (st.1 60) a) (ok : Ok a) (hk : k < nn a) (hh0 : a 0 0 < 2147483648) : fX6_holding (iI k) st = some (iI (hh a k (wn a)), st) := by
  have hn := ok.n10
  have hw := Ok_wn ok
  obtain ⟨o0, o1, o2, o3, o4⟩ := ok.2.2.2.2 k hk
  have hc := ct_le (pm a (a (4 + k) 1)) (nn a)
  have i0 := R_i0 h ok hk
  have i1 := R_i1 h ok hk
  have i2 := R_i2 h ok hk
  have i3 := R_i3 h ok hk
  have hld : fX6_held (2 * iI (a (4 + k) 2) - iI (wn a)) 0 (2 * iI (a (4 + k) 2)) st = some (iI (if 0 < 2 * a (4 + k) 2 - wn a then 2 * a (4 + k) 2 - wn a else 0), st) := by
    unfold fX6_held
    simp (disch := omega) only [iI_ofNat, iI_add, iI_sub, iI_mul, iI_neg, iI_lt, iI_le, iI_eq, iI_cl]
    repeat' split
    all_goals first | rfl | (exfalso; omega) | (rw [show 2 * a (4 + k) 2 - wn a = 0 by omega])
  unfold fX6_holding fX6_holding_33 hh Hd
  simp only [i0, i1, i2, i3, Option.bind_some, R_blowing h ok hh0, hld, R_knotsOf1 h ok (show 0 ≤ a (4 + k) 1 ∧ a (4 + k) 1 < 4 by omega), R_bits (mv_1024 _ hn.1), mv_pc _ _ hn.1, cnt_ct]
  by_cases hp : 0 < 2 * a (4 + k) 2 - wn a
  · simp (disch := omega) only [iI_ofNat, iI_add, iI_sub, iI_mul, iI_neg, iI_lt, iI_le, iI_eq, iI_cl, hp, if_true]
    repeat' split
    all_goals first | rfl | (exfalso; omega) | (rw [show 2 * a (4 + k) 2 - wn a = 60 by omega])
  · simp (disch := omega) only [iI_ofNat, iI_add, iI_sub, iI_mul, iI_neg, iI_lt, iI_le, iI_eq, iI_cl, hp, if_false]
    repeat' split
    all_goals first | rfl | (exfalso; omega)
theorem R_settling {st : kM} {a : kY} {k : Nat} (h : RR (st.1 60) a) (ok : Ok a) (hk : k < nn a) (hh0 : a 0 0 < 2147483648) : fX6_settling (iI k) st = some (iI (Sg (a (4 + k)) (wn a)), st) := by
  have hw := Ok_wn ok
  obtain ⟨o0, o1, o2, o3, o4⟩ := ok.2.2.2.2 k hk
  have i0 := R_i0 h ok hk
  have i2 := R_i2 h ok hk
  have i4 := R_i4 h ok hk
  unfold fX6_settling fX6_settling_16 Sg
  simp only [i0, i2, i4, Option.bind_some, R_blowing h ok hh0]
  simp (disch := omega) only [iI_ofNat, iI_add, iI_sub, iI_mul, iI_neg, iI_lt, iI_le, iI_eq, iI_cl, iI_div, if_true]
  repeat' split
  all_goals first | rfl | (exfalso; omega)
theorem R_teasing {st : kM} {a : kY} {k : Nat} (h : RR (st.1 60) a) (ok : Ok a) (hk : k < nn a) : fX6_teasing (iI k) st = some (iI (Tg (a (4 + k))), st) := by
  obtain ⟨o0, o1, o2, o3, o4⟩ := ok.2.2.2.2 k hk
  have i0 := R_i0 h ok hk
  have i2 := R_i2 h ok hk
  unfold fX6_teasing Tg
  simp only [i0, i2, Option.bind_some]
  simp (disch := omega) only [iI_ofNat, iI_add, iI_sub, iI_mul, iI_neg, iI_lt, iI_le, iI_eq, iI_cl]
  repeat' split
  all_goals first | rfl | (exfalso; omega)
theorem R_isGiving {st : kM} {a : kY} {k : Nat} {s : Int} (h : RR (st.1 60) a) (ok : Ok a) (hk : k < nn a) (hh0 : a 0 0 < 2147483648) (hs : 0 ≤ s ∧ s ≤ 2000) : fX6_isGiving (iI k) (iI s) st = some (iI (Gw (a (4 + k)) s (hh a k (wn a))), st) := by
  have hr := hh_rng ok hk (Ok_wn ok)
  obtain ⟨o0, o1, o2, o3, o4⟩ := ok.2.2.2.2 k hk
  have i0 := R_i0 h ok hk
  have i2 := R_i2 h ok hk
  have i4 := R_i4 h ok hk
  unfold fX6_isGiving fX6_isGiving_14 Gw
  simp only [i0, i2, i4, Option.bind_some, R_holding h ok hk hh0]
  simp (disch := omega) only [iI_ofNat, iI_add, iI_sub, iI_mul, iI_neg, iI_lt, iI_le, iI_eq, iI_cl, true_or, or_true, if_true]
  repeat' split
  all_goals first | rfl | (exfalso; omega)
