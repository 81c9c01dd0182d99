/-! the reference's tokens -/
def rs (s : kM) (φ : Nat → Int32) (ω : Nat → Int64) : kM := ksetL (kset s 59 φ) 59 ω
theorem rs_1 {s : kM} {φ : Nat → Int32} {ω : Nat → Int64} : (rs s φ ω).1 59 = φ := kset_same s 59 φ
theorem rs_2 {s : kM} {φ : Nat → Int32} {ω : Nat → Int64} : (rs s φ ω).2 59 = ω := ksetL_same (kset s 59 φ) 59 ω
theorem rs_ne {s : kM} {φ : Nat → Int32} {ω : Nat → Int64} {c : Nat} (h : c ≠ 59) : (rs s φ ω).1 c = s.1 c := kset_ne s φ h
theorem rs_ne2 {s : kM} {φ : Nat → Int32} {ω : Nat → Int64} {c : Nat} (h : c ≠ 59) : (rs s φ ω).2 c = s.2 c := ksetL_ne (kset s 59 φ) ω h
theorem kwr_rs {s : kM} {φ : Nat → Int32} {ω : Nat → Int64} {j : Nat} {v : Int32} : kwr (rs s φ ω) 59 j v = rs s (va_up φ j v) ω := by
  rw [kwr, rs_1]
  have e : kset (rs s φ ω) 59 (va_up φ j v) = ksetL (kset (kset s 59 φ) 59 (va_up φ j v)) 59 ω := rfl
  rw [e, kset_kset]
  rfl
theorem kwl_rs {s : kM} {φ : Nat → Int32} {ω : Nat → Int64} {v : Int64} : kwl (rs s φ ω) 59 9 v = rs s φ (va_up ω 9 v) := kwl_ksetL (kset s 59 φ) 59 9 ω v
theorem rs_self {s : kM} : rs s (s.1 59) (s.2 59) = s := by unfold rs; rw [kset_self, ksetL_self]
def iL (z : Int) : Int64 := Int64.ofInt z
theorem iL_T {a : Int} (h1 : -9223372036854775808 ≤ a) (h2 : a < 9223372036854775808) : (iL a).toInt = a := Int64.toInt_ofInt_of_le h1 h2
theorem iL_i {z : Int} (h : -1 ≤ z ∧ z ≤ 255) : (iI z).toInt64 = iL z := by
  apply Int64.toInt_inj.mp
  rw [Int32.toInt_toInt64, iI_T (by omega) (by omega), iL_T (by omega) (by omega)]
theorem iL_w {y z : Int} (h : -1 ≤ z ∧ z ≤ 255) : (27 : Int64) * iL y + (iI z).toInt64 - (96 : Int64) = iL (27 * y + z - 96) := by
  rw [iL_i h, show (27 : Int64) = iL 27 from rfl, show (96 : Int64) = iL 96 from rfl]
  unfold iL
  rw [← Int64.ofInt_mul, ← Int64.ofInt_add, ← Int64.ofInt_sub]
theorem R_by {s : kM} {B : Nat → Int} {t : Nat} {φ : Nat → Int32} {ω : Nat → Int64} (T : TB B t) (h64 : ∀ j, j < t → s.1 64 j = iI (B j)) (h5 : φ 5 = iI (t : Int)) {k : Nat} (hk : k ≤ 1000) : fX6_byteAt (iI k) (rs s φ ω) = some (iI (B k), rs s φ ω) := by
  have ht := T.1
  unfold fX6_byteAt
  rw [rs_1, h5]
  by_cases e : t ≤ k
  · rw [if_pos (le_t (by omega) e), T.2.2 k e, m1]
  · rw [if_neg (le_f (by omega) (by omega)), cn_k (by omega), if_neg (cl_120 (by omega)), rs_ne (by omega), h64 k (by omega)]
theorem R_dig {s : kM} {z : Int} (hz : -1 ≤ z ∧ z ≤ 255) : fX6_isDigit (iI z) s = some (if 48 ≤ z ∧ z ≤ 57 then 1 else 0, s) := by
  unfold fX6_isDigit
  by_cases h : 48 ≤ z ∧ z ≤ 57
  · have hc : ¬ (iI z < 48 ∨ 57 < iI z) := by simp (disch := omega) only [iI_ofNat, iI_lt]; omega
    rw [R_in_t hc, bnd, if_pos h, if_pos (Or.inr rfl)]
  · have hc : iI z < 48 ∨ 57 < iI z := by simp (disch := omega) only [iI_ofNat, iI_lt]; omega
    rw [R_in_f hc, bnd, if_neg h, if_pos (Or.inl rfl)]
theorem R_let {s : kM} {z : Int} (hz : -1 ≤ z ∧ z ≤ 255) : fX6_isLetter (iI z) s = some (if 97 ≤ z ∧ z ≤ 122 then 1 else 0, s) := by
  unfold fX6_isLetter
  by_cases h : 97 ≤ z ∧ z ≤ 122
  · have hc : ¬ (iI z < 97 ∨ 122 < iI z) := by simp (disch := omega) only [iI_ofNat, iI_lt]; omega
    rw [R_in_t hc, bnd, if_pos h, if_pos (Or.inr rfl)]
  · have hc : iI z < 97 ∨ 122 < iI z := by simp (disch := omega) only [iI_ofNat, iI_lt]; omega
    rw [R_in_f hc, bnd, if_neg h, if_pos (Or.inl rfl)]
theorem kfu0 : 0 < kfu := by unfold kfu; omega
theorem R_dg0 {fuel : Nat} {st : kM} (h : ¬ st.1 59 6 = 2) (hf : 0 < fuel) : fX6_advance_207 fuel st = some st := by
  obtain ⟨f, rfl⟩ : ∃ f, fuel = f + 1 := ⟨fuel - 1, by omega⟩
  rw [fX6_advance_207, if_neg h]
theorem R_le0 {fuel : Nat} {st : kM} (h : ¬ st.1 59 6 = 1) (hf : 0 < fuel) : fX6_advance_126 fuel st = fX6_advance_207 kfu st := by
  obtain ⟨f, rfl⟩ : ∃ f, fuel = f + 1 := ⟨fuel - 1, by omega⟩
  rw [fX6_advance_126, if_neg h]
theorem R_dg {s : kM} {B : Nat → Int} {t q : Nat} {ω : Nat → Int64} (T : TB B t) (h64 : ∀ j, j < t → s.1 64 j = iI (B j)) (hq : q ≤ t) : ∀ (r i : Nat), i + r = nb B 48 57 t q → ∀ fuel, r < fuel → ∀ φ : Nat → Int32, φ 5 = iI (t : Int) → φ 6 = 2 → φ 8 = iI ((q + i : Nat) : Int) → φ 10 = iI (drv B q i) → ∃ φ', fX6_advance_207 fuel (rs s φ ω) = some (rs s φ' ω) ∧ φ' 8 = iI ((q + nb B 48 57 t q : Nat) : Int) ∧ φ' 10 = iI (drv B q (nb B 48 57 t q)) ∧ ∀ j, j ≠ 8 → j ≠ 10 → φ' j = φ j := by
  intro r
  obtain ⟨d1, d2, d3⟩ := nb_ok (lo := 48) (hi := 57) T (by omega) hq
  have ht := T.1
  induction r with
  | zero =>
    intro i hi fuel hf φ h5 h6 h8 h10
    obtain ⟨f, rfl⟩ : ∃ f, fuel = f + 1 := ⟨fuel - 1, by omega⟩
    have ei : i = nb B 48 57 t q := by omega
    subst ei
    refine ⟨φ, ?_, h8, h10, fun _ _ _ => rfl⟩
    rw [fX6_advance_207, rs_1, if_pos h6, h8, R_by T h64 h5 (by omega), bnd, R_dig (T.rng _), bnd, if_neg d3, if_pos rfl]
  | succ r ih =>
    intro i hi fuel hf φ h5 h6 h8 h10
    obtain ⟨f, rfl⟩ : ∃ f, fuel = f + 1 := ⟨fuel - 1, by omega⟩
    have hd := d2 i (by omega)
    have hv := dv_ok (B := B) (q := q) i (fun j hj => d2 j (by omega))
    have e1 : drv B q (i + 1) = if drv B q i ≤ 999 then 10 * drv B q i + B (q + i) - 48 else 10000 := rfl
    obtain ⟨φ3, p1, p2, p3, p4⟩ := ih (i + 1) (by omega) f (by omega) (va_up (va_up φ 10 (iI (drv B q (i + 1)))) 8 (iI ((q + (i + 1) : Nat) : Int))) (by rw [up_ne _ _ (by omega), up_ne _ _ (by omega)]; exact h5) (by rw [up_ne _ _ (by omega), up_ne _ _ (by omega)]; exact h6) (by rw [up_eq]) (by rw [up_ne _ _ (by omega), up_eq])
    refine ⟨φ3, ?_, p2, p3, fun j h1 h2 => by rw [p4 j h1 h2, up_ne _ _ h1, up_ne _ _ h2]⟩
    rw [fX6_advance_207, rs_1, if_pos h6, h8, R_by T h64 h5 (by omega), bnd, R_dig (T.rng _), bnd, if_pos hd, if_neg (show ¬ (1 : Int32) = 0 by decide)]
    simp only [rs_1, h8, h10]
    by_cases h9 : drv B q i ≤ 999
    · have hc : iI (drv B q i) ≤ (999 : Int32) := by rw [iI_ofNat, iI_le (by omega) (by omega) (by omega) (by omega)]; exact h9
      have ev : (10 : Int32) * iI (drv B q i) + iI (B (q + i)) - (48 : Int32) = iI (drv B q (i + 1)) := by
        rw [e1, if_pos h9]
        simp only [iI_ofNat, iI_mul, iI_add, iI_sub]
      simp only [if_pos hc, R_by T h64 h5 (show q + i ≤ 1000 by omega), bnd, ev, kwr_rs, rs_1, up_ne _ _ (show 8 ≠ 10 by omega), h8, ix_1]
      exact p1
    · have hc : ¬ (iI (drv B q i) ≤ (999 : Int32)) := by rw [iI_ofNat, iI_le (by omega) (by omega) (by omega) (by omega)]; exact h9
      rw [e1, if_neg h9] at p1
      simp only [if_neg hc, bnd, kwr_rs, rs_1, up_ne _ _ (show 8 ≠ 10 by omega), h8, ix_1]
      exact p1
theorem R_le {s : kM} {B : Nat → Int} {t q : Nat} (T : TB B t) (h64 : ∀ j, j < t → s.1 64 j = iI (B j)) (hq : q ≤ t) : ∀ (r i : Nat), i + r = nb B 97 122 t q → ∀ fuel, r < fuel → ∀ (φ : Nat → Int32) (ω : Nat → Int64), φ 5 = iI (t : Int) → φ 6 = 1 → φ 7 = iI (q : Int) → φ 8 = iI ((q + i : Nat) : Int) → ω 9 = iL (hw B q i) → ∃ φ' ω', fX6_advance_126 fuel (rs s φ ω) = some (rs s φ' ω') ∧ φ' 8 = iI ((q + nb B 97 122 t q : Nat) : Int) ∧ ω' 9 = iL (hw B q (nb B 97 122 t q)) ∧ ∀ j, j ≠ 8 → φ' j = φ j := by
  intro r
  obtain ⟨d1, d2, d3⟩ := nb_ok (lo := 97) (hi := 122) T (by omega) hq
  have ht := T.1
  induction r with
  | zero =>
    intro i hi fuel hf φ ω h5 h6 h7 h8 h9
    obtain ⟨f, rfl⟩ : ∃ f, fuel = f + 1 := ⟨fuel - 1, by omega⟩
    have ei : i = nb B 97 122 t q := by omega
    subst ei
    refine ⟨φ, ω, ?_, h8, h9, fun _ _ => rfl⟩
    rw [fX6_advance_126, rs_1, if_pos h6, h8, R_by T h64 h5 (by omega), bnd, R_let (T.rng _), bnd, if_neg d3, if_pos rfl, R_dg0 (by rw [rs_1, h6]; decide) kfu0]
  | succ r ih =>
    intro i hi fuel hf φ ω h5 h6 h7 h8 h9
    obtain ⟨f, rfl⟩ : ∃ f, fuel = f + 1 := ⟨fuel - 1, by omega⟩
    have hd := d2 i (by omega)
    have ed : iI ((q + i : Nat) : Int) - iI (q : Int) = iI (i : Int) := by rw [iI_sub]; exact congrArg iI (by omega)
    obtain ⟨φ3, ω3, p1, p2, p3, p4⟩ := ih (i + 1) (by omega) f (by omega) (va_up φ 8 (iI ((q + (i + 1) : Nat) : Int))) (va_up ω 9 (iL (hw B q (i + 1)))) (by rw [up_ne _ _ (by omega)]; exact h5) (by rw [up_ne _ _ (by omega)]; exact h6) (by rw [up_ne _ _ (by omega)]; exact h7) (by rw [up_eq]) (by rw [up_eq])
    refine ⟨φ3, ω3, ?_, p2, p3, fun j h1 => by rw [p4 j h1, up_ne _ _ h1]⟩
    rw [fX6_advance_126, rs_1, if_pos h6, h8, R_by T h64 h5 (by omega), bnd, R_let (T.rng _), bnd, if_pos hd, if_neg (show ¬ (1 : Int32) = 0 by decide)]
    simp only [rs_1, rs_2, h7, h8, ed, h9]
    by_cases h12 : 12 ≤ i
    · have hc : (12 : Int32) ≤ iI (i : Int) := by rw [iI_ofNat, iI_le (by omega) (by omega) (by omega) (by omega)]; omega
      have ev : hw B q (i + 1) = -1 := by unfold hw; rw [if_neg (by omega)]
      rw [ev, show iL (-1) = (-1 : Int64) from rfl] at p1
      simp only [if_pos hc, bnd, kwl_rs, kwr_rs, rs_1, h8, ix_1]
      exact p1
    · have hc : ¬ ((12 : Int32) ≤ iI (i : Int)) := by rw [iI_ofNat, iI_le (by omega) (by omega) (by omega) (by omega)]; omega
      have ev : hw B q (i + 1) = 27 * hw B q i + B (q + i) - 96 := by unfold hw; rw [if_pos (by omega), if_pos (by omega)]; rfl
      rw [ev] at p1
      simp only [if_neg hc, R_by T h64 h5 (show q + i ≤ 1000 by omega), bnd, iL_w (T.rng _), kwl_rs, kwr_rs, rs_1, h8, ix_1]
      exact p1
/-- the reference stands at the token from p on -/
def TR (B : Nat → Int) (t p : Nat) (φ : Nat → Int32) (ω : Nat → Int64) : Prop := φ 6 = iI (tsr B t p) ∧ φ 7 = iI ((tq B t p : Nat) : Int) ∧ φ 8 = iI ((te B t p : Nat) : Int) ∧ (tsr B t p = 1 → ω 9 = iL (hw B (tq B t p) (tm B t p))) ∧ (tsr B t p = 2 → φ 10 = iI (drv B (tq B t p) (tm B t p))) ∧ (tsr B t p = 3 → φ 10 = iI (B (tq B t p)))
theorem R_83 {s : kM} {B : Nat → Int} {t p : Nat} {φ : Nat → Int32} {ω : Nat → Int64} {σ : Int32} (T : TB B t) (h64 : ∀ j, j < t → s.1 64 j = iI (B j)) (hp : p ≤ t) (h5 : φ 5 = iI (t : Int)) (h7 : φ 7 = iI ((tq B t p : Nat) : Int)) (h8 : φ 8 = iI ((tq B t p : Nat) : Int)) (hσ : σ = iI (tsr B t p)) : ∃ φ' ω', fX6_advance_83 (iI (B (tq B t p))) σ (rs s φ ω) = some (rs s φ' ω') ∧ TR B t p φ' ω' ∧ ∀ j, j < 6 ∨ 10 < j → φ' j = φ j := by
  have ht := T.1
  obtain ⟨hpq, hq, hte, -⟩ := tok_ok T hp
  have n2 := (nb_ok (lo := 97) (hi := 122) T (by omega) hq).1
  have n3 := (nb_ok (lo := 48) (hi := 57) T (by omega) hq).1
  subst hσ
  unfold fX6_advance_83 fX6_advance_105
  simp only [bnd, kwr_rs, kwl_rs, rs_1, up_eq, up_ne _ _ (show 6 ≠ 10 by omega), up_ne _ _ (show 8 ≠ 10 by omega), up_ne _ _ (show 8 ≠ 6 by omega), h8, ix_1]
  unfold TR te tm tsr
  by_cases h1 : B (tq B t p) < 0
  · simp only [if_pos h1, if_neg (show ¬ iI 0 = 2 by decide), if_neg (show ¬ iI 0 = 3 by decide)]
    rw [R_le0 (by rw [rs_1, up_ne _ _ (by omega), up_eq]; decide) kfu0, R_dg0 (by rw [rs_1, up_ne _ _ (by omega), up_eq]; decide) kfu0]
    refine ⟨_, _, rfl, ⟨?_, ?_, ?_, fun q => absurd q (by omega), fun q => absurd q (by omega), fun q => absurd q (by omega)⟩, fun j hj => ?_⟩
    · rw [up_ne _ _ (by omega), up_eq]
    · rw [up_ne _ _ (by omega), up_ne _ _ (by omega), h7]
    · rw [up_ne _ _ (by omega), up_ne _ _ (by omega), h8]; rfl
    · rw [up_ne _ _ (by omega), up_ne _ _ (by omega)]
  · simp only [if_neg h1]
    by_cases h3 : 97 ≤ B (tq B t p) ∧ B (tq B t p) ≤ 122
    · simp only [if_pos h3, if_neg (show ¬ iI 1 = 2 by decide), if_neg (show ¬ iI 1 = 3 by decide)]
      obtain ⟨φ2, ω2, q1, q2, q3, q4⟩ := R_le (s := s) T h64 hq (nb B 97 122 t (tq B t p)) 0 (by omega) kfu (by unfold kfu; omega) (va_up (va_up φ 6 (iI 1)) 10 (iI (B (tq B t p)))) (va_up ω 9 0) (by rw [up_ne _ _ (by omega), up_ne _ _ (by omega)]; exact h5) (by rw [up_ne _ _ (by omega), up_eq]; rfl) (by rw [up_ne _ _ (by omega), up_ne _ _ (by omega)]; exact h7) (by rw [up_ne _ _ (by omega), up_ne _ _ (by omega), h8]; rfl) (by rw [up_eq]; rfl)
      refine ⟨φ2, ω2, q1, ⟨?_, ?_, q2, fun _ => q3, fun q => absurd q (by omega), fun q => absurd q (by omega)⟩, fun j hj => ?_⟩
      · rw [q4 _ (by omega), up_ne _ _ (by omega), up_eq]
      · rw [q4 _ (by omega), up_ne _ _ (by omega), up_ne _ _ (by omega), h7]
      · rw [q4 _ (by omega), up_ne _ _ (by omega), up_ne _ _ (by omega)]
    · simp only [if_neg h3]
      by_cases h4 : 48 ≤ B (tq B t p) ∧ B (tq B t p) ≤ 57
      · simp only [if_pos h4, if_pos (show iI 2 = 2 from rfl), if_neg (show ¬ iI 2 = 3 by decide)]
        rw [R_le0 (by rw [rs_1, up_ne _ _ (by omega), up_eq]; decide) kfu0]
        obtain ⟨φ2, q1, q2, q3, q4⟩ := R_dg (s := s) (ω := va_up ω 9 0) T h64 hq (nb B 48 57 t (tq B t p)) 0 (by omega) kfu (by unfold kfu; omega) (va_up (va_up φ 6 (iI 2)) 10 0) (by rw [up_ne _ _ (by omega), up_ne _ _ (by omega)]; exact h5) (by rw [up_ne _ _ (by omega), up_eq]; rfl) (by rw [up_ne _ _ (by omega), up_ne _ _ (by omega), h8]; rfl) (by rw [up_eq]; rfl)
        refine ⟨φ2, _, q1, ⟨?_, ?_, q2, fun q => absurd q (by omega), fun _ => q3, fun q => absurd q (by omega)⟩, fun j hj => ?_⟩
        · rw [q4 _ (by omega) (by omega), up_ne _ _ (by omega), up_eq]
        · rw [q4 _ (by omega) (by omega), up_ne _ _ (by omega), up_ne _ _ (by omega), h7]
        · rw [q4 _ (by omega) (by omega), up_ne _ _ (by omega), up_ne _ _ (by omega)]
      · simp only [if_neg h4, if_neg (show ¬ iI 3 = 2 by decide), if_pos (show iI 3 = 3 from rfl)]
        rw [R_le0 (by rw [rs_1, up_ne _ _ (by omega), up_ne _ _ (by omega), up_eq]; decide) kfu0, R_dg0 (by rw [rs_1, up_ne _ _ (by omega), up_ne _ _ (by omega), up_eq]; decide) kfu0]
        refine ⟨_, _, rfl, ⟨?_, ?_, ?_, fun q => absurd q (by omega), fun q => absurd q (by omega), fun _ => ?_⟩, fun j hj => ?_⟩
        · rw [up_ne _ _ (by omega), up_ne _ _ (by omega), up_eq]
        · rw [up_ne _ _ (by omega), up_ne _ _ (by omega), up_ne _ _ (by omega), h7]
        · rw [up_eq]
        · rw [up_ne _ _ (by omega), up_eq]
        · rw [up_ne _ _ (by omega), up_ne _ _ (by omega), up_ne _ _ (by omega)]
theorem R_bl {s : kM} {B : Nat → Int} {t p : Nat} {ω : Nat → Int64} (T : TB B t) (h64 : ∀ j, j < t → s.1 64 j = iI (B j)) (hp : p ≤ t) : ∀ (r i : Nat), i + r = nb B 32 32 t p → ∀ fuel, r < fuel → ∀ φ : Nat → Int32, φ 5 = iI (t : Int) → φ 7 = iI ((p + i : Nat) : Int) → ∃ φ' ω', fX6_advance_8 fuel (rs s φ ω) = some (rs s φ' ω') ∧ TR B t p φ' ω' ∧ ∀ j, j < 6 ∨ 10 < j → φ' j = φ j := by
  intro r
  obtain ⟨d1, d2, d3⟩ := nb_ok (lo := 32) (hi := 32) T (by omega) hp
  have ht := T.1
  induction r with
  | zero =>
    intro i hi fuel hf φ h5 h7
    obtain ⟨f, rfl⟩ : ∃ f, fuel = f + 1 := ⟨fuel - 1, by omega⟩
    have ei : i = nb B 32 32 t p := by omega
    subst ei
    have h7' : φ 7 = iI ((tq B t p : Nat) : Int) := h7
    have hr := T.rng (tq B t p)
    have d3' : ¬ (32 ≤ B (tq B t p) ∧ B (tq B t p) ≤ 32) := d3
    have hqt : tq B t p ≤ t := d1
    have hc : ¬ (iI (B (tq B t p)) = (32 : Int32)) := by rw [iI_ofNat, iI_eq (by omega) (by omega) (by omega) (by omega)]; omega
    have g5 : (va_up φ 8 (iI ((tq B t p : Nat) : Int))) 5 = iI (t : Int) := by rw [up_ne _ _ (by omega)]; exact h5
    have g7 : (va_up φ 8 (iI ((tq B t p : Nat) : Int))) 7 = iI ((tq B t p : Nat) : Int) := by rw [up_ne _ _ (by omega)]; exact h7'
    have fin : ∀ σ : Int32, σ = iI (tsr B t p) → ∃ φ' ω', fX6_advance_83 (iI (B (tq B t p))) σ (rs s (va_up φ 8 (iI ((tq B t p : Nat) : Int))) ω) = some (rs s φ' ω') ∧ TR B t p φ' ω' ∧ ∀ j, j < 6 ∨ 10 < j → φ' j = φ j := fun σ hσ => by
      obtain ⟨φ', ω', q1, q2, q3⟩ := R_83 (ω := ω) T h64 hp g5 g7 (up_eq _ _ _) hσ
      exact ⟨φ', ω', q1, q2, fun j hj => by rw [q3 j hj, up_ne _ _ (by omega)]⟩
    rw [fX6_advance_8, rs_1, h7', R_by T h64 h5 (by omega), bnd, if_neg hc]
    simp only [rs_1, h7', bnd, kwr_rs, g7, R_by T h64 g5 (show tq B t p ≤ 1000 by omega)]
    by_cases h1 : B (tq B t p) < 0
    · have hc0 : ¬ ((0 : Int32) ≤ iI (B (tq B t p))) := by rw [iI_ofNat, iI_le (by omega) (by omega) (by omega) (by omega)]; omega
      rw [if_neg hc0]
      exact fin 0 (by unfold tsr; rw [if_pos h1]; rfl)
    · have hc0 : (0 : Int32) ≤ iI (B (tq B t p)) := by rw [iI_ofNat, iI_le (by omega) (by omega) (by omega) (by omega)]; omega
      simp only [if_pos hc0, R_let hr, bnd]
      by_cases h3 : 97 ≤ B (tq B t p) ∧ B (tq B t p) ≤ 122
      · simp only [if_pos h3, i10, itF]
        exact fin 1 (by unfold tsr; rw [if_neg h1, if_pos h3]; rfl)
      · simp only [if_neg h3, i00, itT, R_dig hr, bnd]
        by_cases h4 : 48 ≤ B (tq B t p) ∧ B (tq B t p) ≤ 57
        · simp only [if_pos h4, i10, itF]
          exact fin 2 (by unfold tsr; rw [if_neg h1, if_neg h3, if_pos h4]; rfl)
        · simp only [if_neg h4, i00, itT]
          exact fin 3 (by unfold tsr; rw [if_neg h1, if_neg h3, if_neg h4]; rfl)
  | succ r ih =>
    intro i hi fuel hf φ h5 h7
    obtain ⟨f, rfl⟩ : ∃ f, fuel = f + 1 := ⟨fuel - 1, by omega⟩
    have hd := d2 i (by omega)
    have hc : iI (B (p + i)) = (32 : Int32) := by rw [iI_ofNat]; exact congrArg iI (by omega)
    obtain ⟨φ3, ω3, p1, p2, p4⟩ := ih (i + 1) (by omega) f (by omega) (va_up φ 7 (iI ((p + (i + 1) : Nat) : Int))) (by rw [up_ne _ _ (by omega)]; exact h5) (by rw [up_eq])
    refine ⟨φ3, ω3, ?_, p2, fun j h1 => by rw [p4 j h1, up_ne _ _ (by omega)]⟩
    rw [fX6_advance_8, rs_1, h7, R_by T h64 h5 (by omega), bnd, if_pos hc]
    simp only [rs_1, h7, bnd, kwr_rs, ix_1]
    exact p1
theorem R_adv {s : kM} {B : Nat → Int} {t p : Nat} (T : TB B t) (h : trp s B t) (hp : p ≤ t) (h8 : s.1 59 8 = iI (p : Int)) : ∃ φ ω, fX6_advance s = some (rs s φ ω) ∧ TR B t p φ ω ∧ ∀ j, j < 6 ∨ 10 < j → φ j = s.1 59 j := by
  have ht := T.1
  have n1 := (nb_ok (lo := 32) (hi := 32) T (by omega) hp).1
  obtain ⟨φ, ω, p1, p2, p3⟩ := R_bl (s := s) (ω := s.2 59) T h.2 hp (nb B 32 32 t p) 0 (by omega) kfu (by unfold kfu; omega) (va_up (s.1 59) 7 (iI (p : Int))) (by rw [up_ne _ _ (by omega)]; exact h.1) (by rw [up_eq]; rfl)
  refine ⟨φ, ω, ?_, p2, fun j hj => by rw [p3 j hj, up_ne _ _ (by omega)]⟩
  have e : kwr s 59 7 (iI (p : Int)) = rs s (va_up (s.1 59) 7 (iI (p : Int))) (s.2 59) := by
    have := @kwr_rs s (s.1 59) (s.2 59) 7 (iI (p : Int))
    rw [rs_self] at this
    exact this
  unfold fX6_advance
  rw [h8, bnd, e]
  exact p1
