/-! laying the winds -/
theorem n99 : ∀ z : Int64, ¬ z < 0 → ¬ (99 : Int64) < z → ∃ k : Nat, k ≤ 99 ∧ z.toInt32 = iI (k : Int) := by
  intro z h1 h2
  have hz1 : 0 ≤ z.toInt := by
    rw [Int64.lt_iff_toInt_lt] at h1
    have : (0 : Int64).toInt = 0 := by decide
    omega
  have hz2 : z.toInt ≤ 99 := by
    rw [Int64.lt_iff_toInt_lt] at h2
    have : (99 : Int64).toInt = 99 := by decide
    omega
  refine ⟨z.toInt.toNat, by omega, ?_⟩
  rw [show ((z.toInt.toNat : Nat) : Int) = z.toInt by omega]
  apply Int32.toInt_inj.mp
  rw [iI_T (by omega) (by omega), Int64.toInt_toInt32]
  exact Int.bmod_eq_of_le (by omega) (by omega)
/-- a sheet's numbers laid as winds from i on, r of them; and how many -/
def ly (f : Nat → Int64) : Nat → Nat → kY → Nat → kY × Nat
  | 0, _, a, n => (a, n)
  | r + 1, i, a, n => if f i < 0 then ly f r (i + 1) a n else if 99 < f i then ly f r (i + 1) a n else ly f r (i + 1) (ya a 1 i (f i).toInt32.toInt) (n + 1)
theorem ly_ok {f : Nat → Int64} : ∀ (r i : Nat) {a : kY} {n : Nat}, Ok a → Ok (ly f r i a n).1 ∧ (ly f r i a n).1 0 = a 0
  | 0, _, _, _, ok => ⟨ok, rfl⟩
  | r + 1, i, a, n, ok => by
    unfold ly
    by_cases h1 : f i < 0
    · rw [if_pos h1]; exact ly_ok r (i + 1) ok
    · rw [if_neg h1]
      by_cases h2 : 99 < f i
      · rw [if_pos h2]; exact ly_ok r (i + 1) ok
      · rw [if_neg h2]
        obtain ⟨k, k1, k2⟩ := n99 (f i) h1 h2
        have := ly_ok (f := f) (n := n + 1) r (i + 1) (Ok_wind (i := i) (z := (f i).toInt32.toInt) ok (by rw [k2, iI_T (by omega) (by omega)]; omega))
        rw [ya_row (show 0 ≠ 1 by omega)] at this
        exact this
theorem lt0 (z : Int64) : (lg_cmp z 0 < 0) = (z < 0) := propext (lg_cmp_lt z 0)
theorem gt99 (z : Int64) : (0 < lg_cmp z 99) = (99 < z) := propext (lg_cmp_gt z 99)
theorem C_ly {b : kY} {x : uX} {l : uL} {m N : Nat} (hm : m < 4) (hx : x 4 m = iI (N : Int)) (hN : N ≤ 40) : ∀ (r i : Nat), (i + r = 12 ∨ i + r = N) → i + r ≤ 12 → i + r ≤ N → ∀ fuel, r < fuel → ∀ (s : kM) (a : kY) (n : Nat), Wok a b x → CW s a b x l → ∃ s', fX5_lays_40 fuel (51 + 2 * m) (iI n) (iI i) s = some (iI ((ly (l m) r i a n).2 : Int), s') ∧ CW s' (ly (l m) r i a n).1 b x l ∧ Hi s s' := by
  intro r
  induction r with
  | zero =>
    intro i h1 h2 h3 fuel hf s a n w C
    obtain ⟨f, rfl⟩ : ∃ f, fuel = f + 1 := ⟨fuel - 1, by omega⟩
    refine ⟨s, ?_, C, Hi.rf⟩
    have c4 := (C.2.2.2.2.2.1 m hm).2.1
    rw [hx] at c4
    unfold fX5_lays_40
    rw [c4]
    simp (disch := omega) only [iI_le, iI_ofNat]
    by_cases e : (12 : Int) ≤ i
    · rw [if_pos e]; rfl
    · rw [if_neg e, if_pos (by omega)]; rfl
  | succ r ih =>
    intro i h1 h2 h3 fuel hf s a n w C
    obtain ⟨f, rfl⟩ : ∃ f, fuel = f + 1 := ⟨fuel - 1, by omega⟩
    have c4 := (C.2.2.2.2.2.1 m hm).2.1
    rw [hx] at c4
    have cl := (C.2.2.2.2.2.1 m hm).2.2 i (by omega)
    have e2 : iI (i : Int) + 1 = iI ((i + 1 : Nat) : Int) := by rw [iI_ofNat, iI_add]; rfl
    have en : iI (n : Int) + 1 = iI ((n + 1 : Nat) : Int) := by rw [iI_ofNat, iI_add]; rfl
    have hc1 : ¬ ((12 : Int32) ≤ iI (i : Int)) := by rw [iI_ofNat, iI_le (by omega) (by omega) (by omega) (by omega)]; omega
    have hc2 : ¬ (iI (N : Int) ≤ iI (i : Int)) := by rw [iI_le (by omega) (by omega) (by omega) (by omega)]; omega
    have hc3 : ¬ ((iI (i : Int)) < 0 ∨ 40 ≤ i) := by rw [iI_ofNat, iI_lt (by omega) (by omega) (by omega) (by omega)]; omega
    have hc4 : ¬ ((iI (i : Int)) < 0 ∨ 12 ≤ i) := by rw [iI_ofNat, iI_lt (by omega) (by omega) (by omega) (by omega)]; omega
    unfold fX5_lays_40 ly
    simp only [if_neg hc1, c4, if_neg hc2, cn_k (show i < 2147483648 by omega), if_neg hc3, if_neg hc4, bnd, cl, lt0, gt99, e2, en]
    by_cases h4 : l m i < 0
    · rw [if_pos h4, if_pos h4]
      exact ih (i + 1) (by omega) (by omega) (by omega) f (by omega) s a n w C
    · rw [if_neg h4, if_neg h4]
      by_cases h5 : 99 < l m i
      · rw [if_pos h5, if_pos h5]
        exact ih (i + 1) (by omega) (by omega) (by omega) f (by omega) s a n w C
      · rw [if_neg h5, if_neg h5]
        obtain ⟨k, k1, k2⟩ := n99 (l m i) h4 h5
        have ev : (l m i).toInt32.toInt = (k : Int) := by rw [k2, iI_T (by omega) (by omega)]
        have okn := Ok_wind (i := i) (z := (k : Int)) w.1.1 (by omega)
        have C2 : CW (kwr s (1 + 1) i (iI (k : Int))) (ya a 1 i k) b x l := C.yard w Fr.y1 (C.1.wind w.1.1)
        obtain ⟨s3, t1, t2, t3⟩ := ih (i + 1) (by omega) (by omega) (by omega) f (by omega) _ _ (n + 1) (Wok_a w okn (by rw [ya_row (by omega)]; exact w.1.2)) C2
        rw [k2, iI_T (by omega) (by omega)]
        exact ⟨s3, t1, t2, (Hi.wr (by omega)).tr t3⟩
theorem R_ly {b : kY} {x : uX} {l : uL} {m N : Nat} (hm : m < 4) (hx : x 4 m = iI (N : Int)) (hN : N ≤ 40) : ∀ (r i : Nat), (i + r = 12 ∨ i + r = N) → i + r ≤ 12 → i + r ≤ N → ∀ fuel, r < fuel → ∀ (s : kM) (a : kY) (n : Nat), RW s a b x l → ∃ s', fX6_lays_21 fuel (iI m) (iI n) (iI i) s = some (iI ((ly (l m) r i a n).2 : Int), s') ∧ RW s' (ly (l m) r i a n).1 b x l ∧ Lo s s' := by
  intro r
  have hcm : ¬ ((iI (m : Int)) < 0 ∨ 4 ≤ m) := by rw [iI_ofNat, iI_lt (by omega) (by omega) (by omega) (by omega)]; omega
  have hcn := cn_k (show m < 2147483648 by omega)
  induction r with
  | zero =>
    intro i h1 h2 h3 fuel hf s a n C
    obtain ⟨f, rfl⟩ : ∃ f, fuel = f + 1 := ⟨fuel - 1, by omega⟩
    refine ⟨s, ?_, C, Lo.rf⟩
    have c4 := (C.2.2.2.2.2.1 m hm).2.1
    rw [hx] at c4
    unfold fX6_lays_21
    rw [hcn, if_neg hcm, c4]
    simp (disch := omega) only [iI_le, iI_ofNat]
    by_cases e : (N : Int) ≤ i
    · rw [if_pos e]; rfl
    · rw [if_neg e, if_pos (by omega)]; rfl
  | succ r ih =>
    intro i h1 h2 h3 fuel hf s a n C
    obtain ⟨f, rfl⟩ : ∃ f, fuel = f + 1 := ⟨fuel - 1, by omega⟩
    have c4 := (C.2.2.2.2.2.1 m hm).2.1
    rw [hx] at c4
    have cl := (C.2.2.2.2.2.1 m hm).2.2 i (by omega)
    have e2 : iI (i : Int) + 1 = iI ((i + 1 : Nat) : Int) := by rw [iI_ofNat, iI_add]; rfl
    have en : iI (n : Int) + 1 = iI ((n + 1 : Nat) : Int) := by rw [iI_ofNat, iI_add]; rfl
    have e4 : (40 : Int32) * iI (m : Int) + iI (i : Int) = iI ((40 * m + i : Nat) : Int) := by rw [iI_ofNat, iI_mul, iI_add]; exact congrArg iI (by omega)
    have e5 : (2 : Int32) + iI (i : Int) = iI ((2 + i : Nat) : Int) := by rw [iI_ofNat, iI_add]; exact congrArg iI (by omega)
    have hc1 : ¬ ((12 : Int32) ≤ iI (i : Int)) := by rw [iI_ofNat, iI_le (by omega) (by omega) (by omega) (by omega)]; omega
    have hc2 : ¬ (iI (N : Int) ≤ iI (i : Int)) := by rw [iI_le (by omega) (by omega) (by omega) (by omega)]; omega
    have hc3 : ¬ ((iI ((40 * m + i : Nat) : Int)) < 0 ∨ 160 ≤ 40 * m + i) := by rw [iI_ofNat, iI_lt (by omega) (by omega) (by omega) (by omega)]; omega
    have hc4 : ¬ ((iI ((2 + i : Nat) : Int)) < 0 ∨ 72 ≤ 2 + i) := by rw [iI_ofNat, iI_lt (by omega) (by omega) (by omega) (by omega)]; omega
    unfold fX6_lays_21 ly
    simp only [hcn, if_neg hcm, if_neg hc1, c4, if_neg hc2, e4, e5, cn_k (show 40 * m + i < 2147483648 by omega), cn_k (show 2 + i < 2147483648 by omega), if_neg hc3, if_neg hc4, bnd, cl, lt0, gt99, e2, en]
    by_cases h4 : l m i < 0
    · rw [if_pos h4, if_pos h4]
      exact ih (i + 1) (by omega) (by omega) (by omega) f (by omega) s a n C
    · rw [if_neg h4, if_neg h4]
      by_cases h5 : 99 < l m i
      · rw [if_pos h5, if_pos h5]
        exact ih (i + 1) (by omega) (by omega) (by omega) f (by omega) s a n C
      · rw [if_neg h5, if_neg h5]
        obtain ⟨k, k1, k2⟩ := n99 (l m i) h4 h5
        have C2 : RW (kwr s 60 (2 + i) (iI (k : Int))) (ya a 1 i k) b x l := C.row (RR.wind C.1 (by omega))
        obtain ⟨s3, t1, t2, t3⟩ := ih (i + 1) (by omega) (by omega) (by omega) f (by omega) _ _ (n + 1) C2
        rw [k2, iI_T (by omega) (by omega)]
        exact ⟨s3, t1, t2, (Lo.wr (by omega)).tr t3⟩
theorem R_bad {s : kM} {a b : kY} {x : uX} {l : uL} {m : Nat} (hs : RW s a b x l) (hm : m < 4) (h1 : ¬ (iI (m : Int) < 0 ∨ 3 < iI (m : Int))) : fX6_badSheet (iI m) s = some (if x 3 m = 0 then -1000000006 else 0, s) := by
  have hcm : ¬ ((iI (m : Int)) < 0 ∨ 4 ≤ m) := by rw [iI_ofNat, iI_lt (by omega) (by omega) (by omega) (by omega)]; omega
  unfold fX6_badSheet
  rw [R_sheet_t h1, bnd, if_neg (show ¬ (1 : Int32) = 0 by decide), cn_k (by omega), if_neg hcm, (hs.2.2.2.2.2.1 m hm).1]
  split <;> rfl
theorem st_lays : sp_lays Iv := by
  intro st hI v1
  obtain ⟨a, b, x, l, w, C, R⟩ := hI
  by_cases h1 : v1 < 0 ∨ 3 < v1
  · refine tl1 w C R (by simp only [fX5_lays, C_sheet_f h1, bnd, i00, i10, i01, i11, itT, itF, or_true, true_or, or_false, false_or, bet]) (fun s hs => ?_)
    have : fX6_badSheet v1 s = some (-1000000001, s) := by unfold fX6_badSheet; rw [R_sheet_f h1]; rfl
    simp only [fX6_lays, this, bnd, if_neg (show ¬ (-1000000001 : Int32) = 0 by decide), bet]
  obtain ⟨m, hm, rfl⟩ := inN 3 rfl (by omega) h1
  have hm4 : m < 4 := by omega
  have hcl : ¬ ((iI (m : Int)) < 0 ∨ 4 ≤ m) := by rw [iI_ofNat, iI_lt (by omega) (by omega) (by omega) (by omega)]; omega
  have hcn := cn_k (show m < 2147483648 by omega)
  by_cases h2 : x 3 m = 0
  · refine tl6 w C R ?_ (fun s hs => ?_)
    · simp only [fX5_lays, C_sheet_t h1, bnd, i00, i10, i01, i11, itT, itF, or_true, true_or, or_false, false_or, bet, hcn, if_neg hcl, C_miss C hm4, if_pos h2]
    · simp only [fX6_lays, R_bad hs hm4 h1, if_pos h2, bnd, if_neg (show ¬ (-1000000006 : Int32) = 0 by decide), bet]
  obtain ⟨-, n, hn, hx⟩ := w.2.2.2.2 m hm4
  have hr := ly_ok (f := l m) (n := 0) (min 12 n) 0 w.1.1
  refine join (l' := l) (iI ((ly (l m) (min 12 n) 0 a 0).2 : Int)) R (Wok_a w hr.1 (by rw [hr.2]; exact w.1.2)) ?_ (fun s hs => ?_)
  · obtain ⟨s1, q1, q2, q3⟩ := C_ly (b := b) (l := l) hm4 hx hn (min 12 n) 0 (by omega) (by omega) (by omega) kfu (by unfold kfu; omega) st a 0 w C
    refine ⟨s1, ?_, q2, q3⟩
    simp only [fX5_lays, C_sheet_t h1, bnd, i00, i10, i01, i11, itT, itF, or_true, true_or, or_false, false_or, bet, hcn, if_neg hcl, C_miss C hm4, if_neg h2]
    rw [iI_n0] at q1
    exact q1
  · obtain ⟨s1, q1, q2, q3⟩ := R_ly (b := b) (l := l) hm4 hx hn (min 12 n) 0 (by omega) (by omega) (by omega) kfu (by unfold kfu; omega) s a 0 hs
    refine ⟨s1, ?_, q2, q3⟩
    simp only [fX6_lays, R_bad hs hm4 h1, if_neg h2, bnd, i00, i10, i01, i11, itT, itF, or_true, true_or, or_false, false_or, bet]
    rw [iI_n0] at q1
    exact q1
