/-! tokens -/
/-- the tape: t bytes; behind them -1 -/
def TB (B : Nat → Int) (t : Nat) : Prop := t ≤ 120 ∧ (∀ k, k < t → 0 ≤ B k ∧ B k ≤ 255) ∧ ∀ k, t ≤ k → B k = -1
theorem TB.rng {B : Nat → Int} {t : Nat} (T : TB B t) (k : Nat) : -1 ≤ B k ∧ B k ≤ 255 := by
  by_cases h : k < t
  · have := T.2.1 k h; omega
  · have := T.2.2 k (by omega); omega
theorem TB.lt {B : Nat → Int} {t : Nat} (T : TB B t) {k : Nat} (h : 0 ≤ B k) : k < t := by
  by_cases e : k < t
  · exact e
  · have := T.2.2 k (by omega); omega
def tcp (s : kM) (B : Nat → Int) (t : Nat) : Prop := s.1 46 1 = iI (t : Int) ∧ ∀ j, j < t → s.1 47 j = iI (B j)
def trp (s : kM) (B : Nat → Int) (t : Nat) : Prop := s.1 59 5 = iI (t : Int) ∧ ∀ j, j < t → s.1 64 j = iI (B j)
theorem tcp.k48 {s : kM} {B : Nat → Int} {t : Nat} {φ : Nat → Int32} (h : tcp s B t) : tcp (kset s 48 φ) B t := ⟨by rw [kset_ne _ _ (by omega)]; exact h.1, by rw [kset_ne _ _ (by omega)]; exact h.2⟩
theorem nneg {k : Nat} (hk : k ≤ 1000) : ¬ (iI (k : Int) < 0) := by rw [iI_ofNat, iI_lt (by omega) (by omega) (by omega) (by omega)]; omega
theorem cl_120 {k : Nat} (hk : k < 120) : ¬ ((iI (k : Int)) < 0 ∨ 120 ≤ k) := by rw [iI_ofNat, iI_lt (by omega) (by omega) (by omega) (by omega)]; omega
theorem C_by {s : kM} {B : Nat → Int} {t : Nat} (T : TB B t) (h : tcp s B t) {k : Nat} (hk : k ≤ 1000) : fX2_byteAt (iI k) s = some (iI (B k), s) := by
  have ht := T.1
  unfold fX2_byteAt
  rw [if_neg (nneg hk), h.1]
  by_cases e : t ≤ k
  · rw [if_pos (le_t (by omega) e), T.2.2 k e, m1]
  · rw [if_neg (le_f (by omega) (by omega)), cn_k (by omega), if_neg (cl_120 (by omega)), h.2 k (by omega)]
theorem C_dig {s : kM} {z : Int} (hz : -1 ≤ z ∧ z ≤ 255) : fX3_isDigit (iI z) s = some (if 48 ≤ z ∧ z ≤ 57 then 1 else 0, s) := by
  unfold fX3_isDigit
  simp (disch := omega) only [iI_ofNat, iI_lt]
  by_cases h1 : z < 48
  · rw [if_pos h1, if_neg (by omega)]
  · rw [if_neg h1]
    by_cases h2 : 57 < z
    · rw [if_pos h2, if_neg (by omega)]
    · rw [if_neg h2, if_pos (by omega)]
theorem C_let {s : kM} {z : Int} (hz : -1 ≤ z ∧ z ≤ 255) : fX3_isLetter (iI z) s = some (if 97 ≤ z ∧ z ≤ 122 then 1 else 0, s) := by
  unfold fX3_isLetter
  simp (disch := omega) only [iI_ofNat, iI_lt]
  by_cases h1 : z < 97
  · rw [if_pos h1, if_neg (by omega)]
  · rw [if_neg h1]
    by_cases h2 : 122 < z
    · rw [if_pos h2, if_neg (by omega)]
    · rw [if_neg h2, if_pos (by omega)]
/-- how many bytes from q on lie between lo and hi -/
def rl (B : Nat → Int) (lo hi : Int) : Nat → Nat → Nat
  | 0, _ => 0
  | r + 1, q => if lo ≤ B q ∧ B q ≤ hi then rl B lo hi r (q + 1) + 1 else 0
theorem rl_ok {B : Nat → Int} {t : Nat} {lo hi : Int} (T : TB B t) (hlo : 0 ≤ lo) : ∀ (r q : Nat), q + r = t → q + rl B lo hi r q ≤ t ∧ (∀ j, j < rl B lo hi r q → lo ≤ B (q + j) ∧ B (q + j) ≤ hi) ∧ ¬ (lo ≤ B (q + rl B lo hi r q) ∧ B (q + rl B lo hi r q) ≤ hi)
  | 0, q, h => by
    have e : rl B lo hi 0 q = 0 := rfl
    have := T.2.2 (q + 0) (by omega)
    rw [e]
    exact ⟨by omega, fun j hj => absurd hj (by omega), by omega⟩
  | r + 1, q, h => by
    by_cases e : lo ≤ B q ∧ B q ≤ hi
    · obtain ⟨h1, h2, h3⟩ := rl_ok (hi := hi) T hlo r (q + 1) (by omega)
      have e2 : rl B lo hi (r + 1) q = rl B lo hi r (q + 1) + 1 := by show (if _ then _ else _) = _; rw [if_pos e]
      rw [e2]
      refine ⟨by omega, fun j hj => ?_, ?_⟩
      · cases j with
        | zero => exact e
        | succ j => rw [show q + (j + 1) = q + 1 + j by omega]; exact h2 j (by omega)
      · rw [show q + (rl B lo hi r (q + 1) + 1) = q + 1 + rl B lo hi r (q + 1) by omega]; exact h3
    · have e2 : rl B lo hi (r + 1) q = 0 := by show (if _ then _ else _) = _; rw [if_neg e]
      rw [e2]
      exact ⟨by omega, fun j hj => absurd hj (by omega), e⟩
def nb (B : Nat → Int) (lo hi : Int) (t q : Nat) : Nat := rl B lo hi (t - q) q
theorem nb_ok {B : Nat → Int} {t q : Nat} {lo hi : Int} (T : TB B t) (hlo : 0 ≤ lo) (hq : q ≤ t) : q + nb B lo hi t q ≤ t ∧ (∀ j, j < nb B lo hi t q → lo ≤ B (q + j) ∧ B (q + j) ≤ hi) ∧ ¬ (lo ≤ B (q + nb B lo hi t q) ∧ B (q + nb B lo hi t q) ≤ hi) := rl_ok T hlo (t - q) q (by omega)
def tq (B : Nat → Int) (t p : Nat) : Nat := p + nb B 32 32 t p
def tm (B : Nat → Int) (t p : Nat) : Nat := if B (tq B t p) < 0 then 0 else if 97 ≤ B (tq B t p) ∧ B (tq B t p) ≤ 122 then nb B 97 122 t (tq B t p) else if 48 ≤ B (tq B t p) ∧ B (tq B t p) ≤ 57 then nb B 48 57 t (tq B t p) else 1
def te (B : Nat → Int) (t p : Nat) : Nat := tq B t p + tm B t p
/-- what a token is: to the reference, to the class -/
def tsr (B : Nat → Int) (t p : Nat) : Int := if B (tq B t p) < 0 then 0 else if 97 ≤ B (tq B t p) ∧ B (tq B t p) ≤ 122 then 1 else if 48 ≤ B (tq B t p) ∧ B (tq B t p) ≤ 57 then 2 else 3
def tg (B : Nat → Int) (t p : Nat) : Int := if B (tq B t p) < 0 then 0 else if 97 ≤ B (tq B t p) ∧ B (tq B t p) ≤ 122 then 1 else if 48 ≤ B (tq B t p) ∧ B (tq B t p) ≤ 57 then 2 else if B (tq B t p) = 59 then 3 else 4
/-- a number's worth: to the class, to the reference -/
def dcv (B : Nat → Int) (q : Nat) : Nat → Int
  | 0 => 0
  | n + 1 => if 10 * dcv B q n + B (q + n) - 48 < 1000 then 10 * dcv B q n + B (q + n) - 48 else 1000
def drv (B : Nat → Int) (q : Nat) : Nat → Int
  | 0 => 0
  | n + 1 => if drv B q n ≤ 999 then 10 * drv B q n + B (q + n) - 48 else 10000
theorem dv_ok {B : Nat → Int} {q : Nat} : ∀ (n : Nat), (∀ j, j < n → 48 ≤ B (q + j) ∧ B (q + j) ≤ 57) → 0 ≤ dcv B q n ∧ ((drv B q n = dcv B q n ∧ dcv B q n ≤ 999) ∨ (1000 ≤ drv B q n ∧ drv B q n ≤ 10000 ∧ dcv B q n = 1000))
  | 0, _ => by unfold dcv drv; omega
  | n + 1, h => by
    have ih := dv_ok n (fun j hj => h j (by omega))
    have hb := h n (by omega)
    have e1 : dcv B q (n + 1) = if 10 * dcv B q n + B (q + n) - 48 < 1000 then 10 * dcv B q n + B (q + n) - 48 else 1000 := rfl
    have e2 : drv B q (n + 1) = if drv B q n ≤ 999 then 10 * drv B q n + B (q + n) - 48 else 10000 := rfl
    rw [e1, e2]
    repeat' split
    all_goals omega
/-- a word's worth -/
def hH (f : Nat → Int) : Nat → Int
  | 0 => 0
  | n + 1 => 27 * hH f n + f n - 96
def hw (B : Nat → Int) (q n : Nat) : Int := if n ≤ 12 then hH (fun i => B (q + i)) n else -1
theorem tok_ok {B : Nat → Int} {t p : Nat} (T : TB B t) (hp : p ≤ t) : p ≤ tq B t p ∧ tq B t p ≤ t ∧ te B t p ≤ t ∧ (tsr B t p ≠ 0 → p + 1 ≤ te B t p) ∧ (tsr B t p = 2 → ∀ j, j < tm B t p → 48 ≤ B (tq B t p + j) ∧ B (tq B t p + j) ≤ 57) ∧ (tsr B t p = 1 → ∀ j, j < tm B t p → 97 ≤ B (tq B t p + j) ∧ B (tq B t p + j) ≤ 122) := by
  obtain ⟨b1, b2, b3⟩ := nb_ok (lo := 32) (hi := 32) T (by omega) hp
  have hq : tq B t p ≤ t := b1
  have hpq : p ≤ tq B t p := by unfold tq; omega
  obtain ⟨c1, c2, c3⟩ := nb_ok (lo := 97) (hi := 122) T (by omega) hq
  obtain ⟨d1, d2, d3⟩ := nb_ok (lo := 48) (hi := 57) T (by omega) hq
  have e : te B t p = tq B t p + tm B t p := rfl
  refine ⟨hpq, hq, ?_⟩
  rw [e]
  unfold tm tsr
  by_cases h1 : B (tq B t p) < 0
  · simp only [if_pos h1]
    exact ⟨by omega, fun h => absurd rfl h, fun h => absurd h (by omega), fun h => absurd h (by omega)⟩
  · simp only [if_neg h1]
    have hlt := T.lt (k := tq B t p) (by omega)
    by_cases h2 : 97 ≤ B (tq B t p) ∧ B (tq B t p) ≤ 122
    · simp only [if_pos h2]
      refine ⟨c1, fun _ => ?_, fun h => absurd h (by omega), fun _ => c2⟩
      have : nb B 97 122 t (tq B t p) ≠ 0 := fun q => by rw [q] at c3; exact c3 h2
      omega
    · simp only [if_neg h2]
      by_cases h3 : 48 ≤ B (tq B t p) ∧ B (tq B t p) ≤ 57
      · simp only [if_pos h3]
        refine ⟨d1, fun _ => ?_, fun _ => d2, fun h => absurd h (by omega)⟩
        have : nb B 48 57 t (tq B t p) ≠ 0 := fun q => by rw [q] at d3; exact d3 h3
        omega
      · simp only [if_neg h3]
        exact ⟨by omega, fun _ => by omega, fun h => absurd h (by omega), fun h => absurd h (by omega)⟩
theorem ix_k {k : Nat} {q i : Nat} (e : k = q + i) : iI ((q + i : Nat) : Int) = iI (k : Int) := by rw [e]
-- the class
theorem C_dg {s : kM} {B : Nat → Int} {t q : Nat} (T : TB B t) (h : tcp s B t) (hq : q ≤ t) : ∀ (r i : Nat), i + r = nb B 48 57 t q → ∀ fuel, r < fuel → ∀ φ : Nat → Int32, φ 2 = iI ((q + i : Nat) : Int) → φ 5 = iI (dcv B q i) → ∃ φ', fX3_readToken_136 fuel (kset s 48 φ) = some (kset s 48 φ') ∧ φ' 2 = iI ((q + nb B 48 57 t q : Nat) : Int) ∧ φ' 5 = iI (dcv B q (nb B 48 57 t q)) ∧ ∀ j, j ≠ 2 → j ≠ 5 → φ' j = φ j := by
  intro r
  obtain ⟨d1, d2, d3⟩ := nb_ok (lo := 48) (hi := 57) T (by omega) hq
  have ht := T.1
  induction r with
  | zero =>
    intro i hi fuel hf φ h2 h5
    obtain ⟨f, rfl⟩ : ∃ f, fuel = f + 1 := ⟨fuel - 1, by omega⟩
    have ei : i = nb B 48 57 t q := by omega
    subst ei
    refine ⟨φ, ?_, h2, h5, fun _ _ _ => rfl⟩
    rw [fX3_readToken_136, kset_same, h2, h.k48.1]
    by_cases e : t ≤ q + nb B 48 57 t q
    · rw [if_pos (le_t (by omega) e)]
    · rw [if_neg (le_f (by omega) (by omega)), C_by T h.k48 (by omega), bnd, C_dig (T.rng _), bnd, if_neg d3, if_pos rfl]
  | succ r ih =>
    intro i hi fuel hf φ h2 h5
    obtain ⟨f, rfl⟩ : ∃ f, fuel = f + 1 := ⟨fuel - 1, by omega⟩
    have hd := d2 i (by omega)
    have hv := dv_ok (B := B) (q := q) i (fun j hj => d2 j (by omega))
    have ev : (if (10 : Int32) * iI (dcv B q i) + iI (B (q + i)) - (48 : Int32) < (1000 : Int32) then (10 : Int32) * iI (dcv B q i) + iI (B (q + i)) - (48 : Int32) else (1000 : Int32)) = iI (dcv B q (i + 1)) := by
      have e1 : dcv B q (i + 1) = if 10 * dcv B q i + B (q + i) - 48 < 1000 then 10 * dcv B q i + B (q + i) - 48 else 1000 := rfl
      rw [e1]
      simp (disch := omega) only [iI_ofNat, iI_mul, iI_add, iI_sub, iI_lt]
      split <;> rfl
    obtain ⟨φ3, p1, p2, p3, p4⟩ := ih (i + 1) (by omega) f (by omega) (va_up (va_up φ 5 (iI (dcv B q (i + 1)))) 2 (iI ((q + (i + 1) : Nat) : Int))) (by rw [up_eq]) (by rw [up_ne _ _ (by omega), up_eq])
    refine ⟨φ3, ?_, p2, p3, fun j h1 h2 => by rw [p4 j h1 h2, up_ne _ _ h1, up_ne _ _ h2]⟩
    rw [fX3_readToken_136]
    simp only [kset_same, h2, h5, h.k48.1]
    rw [if_neg (le_f (by omega) (by omega)), C_by T h.k48 (by omega), bnd, C_dig (T.rng _), bnd, if_pos hd, if_neg (show ¬ (1 : Int32) = 0 by decide)]
    simp only [kset_same, h2, h5, C_by T h.k48 (show q + i ≤ 1000 by omega), bnd, ev, kwr_kset, up_ne _ _ (show 2 ≠ 5 by omega), ix_1]
    exact p1
theorem C_wl {s : kM} {B : Nat → Int} {t q : Nat} (T : TB B t) (h : tcp s B t) (hq : q ≤ t) : ∀ (r i : Nat), i + r = nb B 97 122 t q → ∀ fuel, r < fuel → ∀ φ : Nat → Int32, φ 2 = iI ((q + i : Nat) : Int) → ∃ φ', fX3_readToken_75 fuel (kset s 48 φ) = some (kset s 48 φ') ∧ φ' 2 = iI ((q + nb B 97 122 t q : Nat) : Int) ∧ ∀ j, j ≠ 2 → φ' j = φ j := by
  intro r
  obtain ⟨d1, d2, d3⟩ := nb_ok (lo := 97) (hi := 122) T (by omega) hq
  have ht := T.1
  induction r with
  | zero =>
    intro i hi fuel hf φ h2
    obtain ⟨f, rfl⟩ : ∃ f, fuel = f + 1 := ⟨fuel - 1, by omega⟩
    have ei : i = nb B 97 122 t q := by omega
    subst ei
    refine ⟨φ, ?_, h2, fun _ _ => rfl⟩
    rw [fX3_readToken_75, kset_same, h2, h.k48.1]
    by_cases e : t ≤ q + nb B 97 122 t q
    · rw [if_pos (le_t (by omega) e)]
    · rw [if_neg (le_f (by omega) (by omega)), C_by T h.k48 (by omega), bnd, C_let (T.rng _), bnd, if_neg d3, if_pos rfl]
  | succ r ih =>
    intro i hi fuel hf φ h2
    obtain ⟨f, rfl⟩ : ∃ f, fuel = f + 1 := ⟨fuel - 1, by omega⟩
    have hd := d2 i (by omega)
    obtain ⟨φ3, p1, p2, p4⟩ := ih (i + 1) (by omega) f (by omega) (va_up φ 2 (iI ((q + (i + 1) : Nat) : Int))) (by rw [up_eq])
    refine ⟨φ3, ?_, p2, fun j h1 => by rw [p4 j h1, up_ne _ _ h1]⟩
    rw [fX3_readToken_75]
    simp only [kset_same, h2, h.k48.1]
    rw [if_neg (le_f (by omega) (by omega)), C_by T h.k48 (by omega), bnd, C_let (T.rng _), bnd, if_pos hd, if_neg (show ¬ (1 : Int32) = 0 by decide)]
    simp only [kset_same, h2, bnd, kwr_kset, ix_1]
    exact p1
theorem C_bl {s : kM} {B : Nat → Int} {t q : Nat} (T : TB B t) (h : tcp s B t) (hq : q ≤ t) : ∀ (r i : Nat), i + r = nb B 32 32 t q → ∀ fuel, r < fuel → ∀ φ : Nat → Int32, φ 2 = iI ((q + i : Nat) : Int) → ∃ φ', fX3_readToken_0 fuel (kset s 48 φ) = fX3_readToken_43 (kset s 48 φ') ∧ φ' 2 = iI ((q + nb B 32 32 t q : Nat) : Int) ∧ ∀ j, j ≠ 2 → φ' j = φ j := by
  intro r
  obtain ⟨d1, d2, d3⟩ := nb_ok (lo := 32) (hi := 32) T (by omega) hq
  have ht := T.1
  induction r with
  | zero =>
    intro i hi fuel hf φ h2
    obtain ⟨f, rfl⟩ : ∃ f, fuel = f + 1 := ⟨fuel - 1, by omega⟩
    have ei : i = nb B 32 32 t q := by omega
    subst ei
    refine ⟨φ, ?_, h2, fun _ _ => rfl⟩
    rw [fX3_readToken_0, kset_same, h2, h.k48.1]
    by_cases e : t ≤ q + nb B 32 32 t q
    · rw [if_pos (le_t (by omega) e)]
    · have hr := T.rng (q + nb B 32 32 t q)
      have hc : ¬ (iI (B (q + nb B 32 32 t q)) = (32 : Int32)) := by rw [iI_ofNat, iI_eq (by omega) (by omega) (by omega) (by omega)]; omega
      rw [if_neg (le_f (by omega) (by omega)), C_by T h.k48 (by omega), bnd, if_neg hc]
  | succ r ih =>
    intro i hi fuel hf φ h2
    obtain ⟨f, rfl⟩ : ∃ f, fuel = f + 1 := ⟨fuel - 1, by omega⟩
    have hd := d2 i (by omega)
    have hc : iI (B (q + i)) = (32 : Int32) := by rw [iI_ofNat]; exact congrArg iI (by omega)
    obtain ⟨φ3, p1, p2, p4⟩ := ih (i + 1) (by omega) f (by omega) (va_up φ 2 (iI ((q + (i + 1) : Nat) : Int))) (by rw [up_eq])
    refine ⟨φ3, ?_, p2, fun j h1 => by rw [p4 j h1, up_ne _ _ h1]⟩
    rw [fX3_readToken_0]
    simp only [kset_same, h2, h.k48.1]
    rw [if_neg (le_f (by omega) (by omega)), C_by T h.k48 (by omega), bnd, if_pos hc]
    simp only [kset_same, h2, bnd, kwr_kset, ix_1]
    exact p1
/-- the class's reader stands at the token from p on -/
def TC (B : Nat → Int) (t p : Nat) (φ : Nat → Int32) : Prop := φ 2 = iI ((te B t p : Nat) : Int) ∧ φ 3 = iI (tg B t p) ∧ φ 4 = iI ((tq B t p : Nat) : Int) ∧ (tsr B t p = 2 → φ 5 = iI (dcv B (tq B t p) (tm B t p)))
theorem C_tok {s : kM} {B : Nat → Int} {t p : Nat} (T : TB B t) (h : tcp s B t) (hp : p ≤ t) (h2 : s.1 48 2 = iI (p : Int)) : ∃ φ, fX3_readToken s = some (kset s 48 φ) ∧ TC B t p φ ∧ φ 6 = s.1 48 6 := by
  have ht := T.1
  obtain ⟨hpq, hq, hte, -⟩ := tok_ok T hp
  have n1 := (nb_ok (lo := 32) (hi := 32) T (by omega) hp).1
  have n2 := (nb_ok (lo := 97) (hi := 122) T (by omega) hq).1
  have n3 := (nb_ok (lo := 48) (hi := 57) T (by omega) hq).1
  obtain ⟨φ1, p1, p2, p3⟩ := C_bl T h hp (nb B 32 32 t p) 0 (by omega) kfu (by unfold kfu; omega) (s.1 48) (by rw [h2]; rfl)
  rw [kset_self] at p1
  have e1 : φ1 2 = iI ((tq B t p : Nat) : Int) := p2
  have h6 := p3 6 (by omega)
  have hr := T.rng (tq B t p)
  unfold fX3_readToken
  rw [p1]
  unfold fX3_readToken_43
  simp only [bnd, kwr_kset, kset_same, e1, up_ne _ _ (show 2 ≠ 4 by omega), C_by T h.k48 (show tq B t p ≤ 1000 by omega), C_let hr]
  unfold TC te tm tsr tg
  by_cases h1 : B (tq B t p) < 0
  · have hc : ¬ ((0 : Int32) ≤ iI (B (tq B t p))) := by rw [iI_ofNat, iI_le (by omega) (by omega) (by omega) (by omega)]; omega
    simp only [if_pos h1, if_neg (show ¬ (97 ≤ B (tq B t p) ∧ B (tq B t p) ≤ 122) by omega), i00, itT, C_dig hr, bnd, if_neg (show ¬ (48 ≤ B (tq B t p) ∧ B (tq B t p) ≤ 57) by omega), if_neg hc, kwr_kset]
    refine ⟨_, rfl, ⟨?_, ?_, ?_, fun q => absurd q (by omega)⟩, ?_⟩
    · rw [up_ne _ _ (by omega), up_ne _ _ (by omega), e1]; rfl
    · rw [up_eq]; rfl
    · rw [up_ne _ _ (by omega), up_eq]
    · rw [up_ne _ _ (by omega), up_ne _ _ (by omega), h6]
  · have hc : (0 : Int32) ≤ iI (B (tq B t p)) := by rw [iI_ofNat, iI_le (by omega) (by omega) (by omega) (by omega)]; omega
    simp only [if_neg h1]
    by_cases h3 : 97 ≤ B (tq B t p) ∧ B (tq B t p) ≤ 122
    · simp only [if_pos h3, i10, itF, kwr_kset]
      obtain ⟨φ2, q1, q2, q3⟩ := C_wl (s := s) T h hq (nb B 97 122 t (tq B t p)) 0 (by omega) kfu (by unfold kfu; omega) (va_up (va_up φ1 4 (iI ((tq B t p : Nat) : Int))) 3 1) (by rw [up_ne _ _ (by omega), up_ne _ _ (by omega), e1]; rfl)
      refine ⟨φ2, q1, ⟨q2, ?_, ?_, fun q => absurd q (by omega)⟩, ?_⟩
      · rw [q3 _ (by omega), up_eq]; rfl
      · rw [q3 _ (by omega), up_ne _ _ (by omega), up_eq]
      · rw [q3 _ (by omega), up_ne _ _ (by omega), up_ne _ _ (by omega), h6]
    · simp only [if_neg h3, i00, itT, C_dig hr, bnd]
      by_cases h4 : 48 ≤ B (tq B t p) ∧ B (tq B t p) ≤ 57
      · simp only [if_pos h4, i10, itF, kwr_kset]
        obtain ⟨φ2, q1, q2, q3, q4⟩ := C_dg (s := s) T h hq (nb B 48 57 t (tq B t p)) 0 (by omega) kfu (by unfold kfu; omega) (va_up (va_up (va_up φ1 4 (iI ((tq B t p : Nat) : Int))) 3 2) 5 0) (by rw [up_ne _ _ (by omega), up_ne _ _ (by omega), up_ne _ _ (by omega), e1]; rfl) (by rw [up_eq]; rfl)
        refine ⟨φ2, q1, ⟨q2, ?_, ?_, fun _ => q3⟩, ?_⟩
        · rw [q4 _ (by omega) (by omega), up_ne _ _ (by omega), up_eq]; rfl
        · rw [q4 _ (by omega) (by omega), up_ne _ _ (by omega), up_ne _ _ (by omega), up_eq]
        · rw [q4 _ (by omega) (by omega), up_ne _ _ (by omega), up_ne _ _ (by omega), up_ne _ _ (by omega), h6]
      · simp only [if_neg h4, i00, itT, if_pos hc]
        have hce : (iI (B (tq B t p)) = (59 : Int32)) = (B (tq B t p) = 59) := by rw [iI_ofNat, iI_eq (by omega) (by omega) (by omega) (by omega)]
        simp only [hce]
        by_cases h5 : B (tq B t p) = 59
        · simp only [if_pos h5, bnd, kwr_kset, kset_same]
          refine ⟨_, rfl, ⟨?_, ?_, ?_, fun q => absurd q (by omega)⟩, ?_⟩
          · rw [up_eq, up_ne _ _ (by omega), up_ne _ _ (by omega), e1, ix_1]
          · rw [up_ne _ _ (by omega), up_eq]; rfl
          · rw [up_ne _ _ (by omega), up_ne _ _ (by omega), up_eq]
          · rw [up_ne _ _ (by omega), up_ne _ _ (by omega), up_ne _ _ (by omega), h6]
        · simp only [if_neg h5, bnd, kwr_kset, kset_same]
          refine ⟨_, rfl, ⟨?_, ?_, ?_, fun q => absurd q (by omega)⟩, ?_⟩
          · rw [up_eq, up_ne _ _ (by omega), up_ne _ _ (by omega), e1, ix_1]
          · rw [up_ne _ _ (by omega), up_eq]; rfl
          · rw [up_ne _ _ (by omega), up_ne _ _ (by omega), up_eq]
          · rw [up_ne _ _ (by omega), up_ne _ _ (by omega), up_ne _ _ (by omega), h6]
