/-! copying -/
theorem C_has {st : kM} {c n : Nat} {u v : Int32} (hn : n ≤ 40) (h : st.1 c 1 = iI (n : Int)) : fX1_has c u v st = some (if 0 ≤ u.toInt ∧ 0 ≤ v.toInt ∧ u.toInt + v.toInt ≤ n then 1 else 0, st) := by
  obtain ⟨y, y1, y2, rfl⟩ := iI_any u
  obtain ⟨z, z1, z2, rfl⟩ := iI_any v
  rw [iI_T y1 y2, iI_T z1 z2]
  unfold fX1_has
  rw [h]
  by_cases e1 : y < 0
  · rw [if_pos (by rw [iI_ofNat, iI_lt (by omega) (by omega) (by omega) (by omega)]; exact e1), if_neg (by omega)]
  · rw [if_neg (by rw [iI_ofNat, iI_lt (by omega) (by omega) (by omega) (by omega)]; exact e1)]
    by_cases e2 : z < 0
    · rw [if_pos (by rw [iI_ofNat, iI_lt (by omega) (by omega) (by omega) (by omega)]; exact e2), if_neg (by omega)]
    · rw [if_neg (by rw [iI_ofNat, iI_lt (by omega) (by omega) (by omega) (by omega)]; exact e2)]
      by_cases e3 : (n : Int) < y
      · rw [if_pos (by rw [iI_lt (by omega) (by omega) (by omega) (by omega)]; exact e3), if_neg (by omega)]
      · rw [if_neg (by rw [iI_lt (by omega) (by omega) (by omega) (by omega)]; exact e3)]
        by_cases e4 : (n : Int) - y < z
        · rw [if_pos (by rw [iI_sub, iI_lt (by omega) (by omega) (by omega) (by omega)]; exact e4), if_neg (by omega)]
        · rw [if_neg (by rw [iI_sub, iI_lt (by omega) (by omega) (by omega) (by omega)]; exact e4), if_pos (by omega)]
theorem R_has {s : kM} {m n : Nat} {u v : Int32} (hm : m < 4) (hn : n ≤ 40) (h : s.1 66 m = iI (n : Int)) : fX6_isPart_ (iI m) u v s = some (if 0 ≤ u.toInt ∧ 0 ≤ v.toInt ∧ u.toInt + v.toInt ≤ n then 1 else 0, s) := by
  have hcm : ¬ ((iI (m : Int)) < 0 ∨ 4 ≤ m) := by rw [iI_ofNat, iI_lt (by omega) (by omega) (by omega) (by omega)]; omega
  obtain ⟨y, y1, y2, rfl⟩ := iI_any u
  obtain ⟨z, z1, z2, rfl⟩ := iI_any v
  rw [iI_T y1 y2, iI_T z1 z2]
  unfold fX6_isPart_
  rw [cn_k (by omega), if_neg hcm, h]
  by_cases e1 : y < 0
  · rw [if_pos (by rw [iI_ofNat, iI_lt (by omega) (by omega) (by omega) (by omega)]; exact e1), if_neg (by omega)]
  · rw [if_neg (by rw [iI_ofNat, iI_lt (by omega) (by omega) (by omega) (by omega)]; exact e1)]
    by_cases e2 : z < 0
    · rw [if_pos (by rw [iI_ofNat, iI_lt (by omega) (by omega) (by omega) (by omega)]; exact e2), if_neg (by omega)]
    · rw [if_neg (by rw [iI_ofNat, iI_lt (by omega) (by omega) (by omega) (by omega)]; exact e2)]
      by_cases e3 : (n : Int) < z
      · rw [if_pos (by rw [iI_lt (by omega) (by omega) (by omega) (by omega)]; exact e3), if_neg (by omega)]
      · rw [if_neg (by rw [iI_lt (by omega) (by omega) (by omega) (by omega)]; exact e3)]
        by_cases e4 : (n : Int) - z < y
        · rw [if_pos (by rw [iI_sub, iI_lt (by omega) (by omega) (by omega) (by omega)]; exact e4), if_neg (by omega)]
        · rw [if_neg (by rw [iI_sub, iI_lt (by omega) (by omega) (by omega) (by omega)]; exact e4), if_pos (by omega)]
theorem R_c102 {s : kM} {m1 k2 k5 : Nat} {y z : Int32} (hm : m1 < 4) (hk : k2 + k5 ≤ 40) : ∀ (r i : Nat), i + r = k5 → ∀ fuel, r < fuel → ∀ ψ : Nat → Int64, (∀ j, j < i → ψ j = s.2 67 (40 * m1 + k2 + j)) → ∃ ψ', fX6_copy_102 fuel (iI m1) (iI k2) y z (iI k5) (iI i) (ksetL s 68 ψ) = fX6_copy_139 kfu y z (iI k5) 0 (ksetL s 68 ψ') ∧ ∀ j, j < k5 → ψ' j = s.2 67 (40 * m1 + k2 + j) := by
  intro r
  induction r with
  | zero =>
    intro i hi fuel hf ψ h
    obtain ⟨f, rfl⟩ : ∃ f, fuel = f + 1 := ⟨fuel - 1, by omega⟩
    refine ⟨ψ, ?_, fun j hj => h j (by omega)⟩
    have hc : iI (k5 : Int) ≤ iI (i : Int) := by rw [iI_le (by omega) (by omega) (by omega) (by omega)]; omega
    rw [fX6_copy_102, if_pos hc]
  | succ r ih =>
    intro i hi fuel hf ψ h
    obtain ⟨f, rfl⟩ : ∃ f, fuel = f + 1 := ⟨fuel - 1, by omega⟩
    have hc : ¬ (iI (k5 : Int) ≤ iI (i : Int)) := by rw [iI_le (by omega) (by omega) (by omega) (by omega)]; omega
    have e4 : (40 : Int32) * iI (m1 : Int) + iI (k2 : Int) + iI (i : Int) = iI ((40 * m1 + k2 + i : Nat) : Int) := by rw [iI_ofNat, iI_mul, iI_add, iI_add]; exact congrArg iI (by omega)
    have hc3 : ¬ ((iI ((40 * m1 + k2 + i : Nat) : Int)) < 0 ∨ 160 ≤ 40 * m1 + k2 + i) := by rw [iI_ofNat, iI_lt (by omega) (by omega) (by omega) (by omega)]; omega
    have hc4 : ¬ ((iI (i : Int)) < 0 ∨ 40 ≤ i) := by rw [iI_ofNat, iI_lt (by omega) (by omega) (by omega) (by omega)]; omega
    have e2 : iI (i : Int) + 1 = iI ((i + 1 : Nat) : Int) := by rw [iI_ofNat, iI_add]; rfl
    obtain ⟨ψ2, t1, t2⟩ := ih (i + 1) (by omega) f (by omega) (va_up ψ i (s.2 67 (40 * m1 + k2 + i))) (fun j hj => by
      by_cases e : j = i
      · subst e; rw [up_eq]
      · rw [up_ne _ _ e]; exact h j (by omega))
    refine ⟨ψ2, ?_, t2⟩
    rw [fX6_copy_102, if_neg hc, e4, cn_k (by omega), if_neg hc3, cn_k (show i < 2147483648 by omega), if_neg hc4, bnd, ksetL_ne _ _ (show 67 ≠ 68 by omega), kwl_ksetL, e2]
    exact t1
theorem R_c139 {t : kM} {m3 k4 k5 : Nat} (hm : m3 < 4) (hk : k4 + k5 ≤ 40) : ∀ (r i : Nat), i + r = k5 → ∀ fuel, r < fuel → ∀ φ : Nat → Int64, (∀ q, φ q = if 40 * m3 + k4 ≤ q ∧ q < 40 * m3 + k4 + i then t.2 68 (q - (40 * m3 + k4)) else t.2 67 q) → ∃ φ', fX6_copy_139 fuel (iI m3) (iI k4) (iI k5) (iI i) (ksetL t 67 φ) = some (iI (k5 : Int), ksetL t 67 φ') ∧ ∀ q, φ' q = if 40 * m3 + k4 ≤ q ∧ q < 40 * m3 + k4 + k5 then t.2 68 (q - (40 * m3 + k4)) else t.2 67 q := by
  intro r
  induction r with
  | zero =>
    intro i hi fuel hf φ h
    obtain ⟨f, rfl⟩ : ∃ f, fuel = f + 1 := ⟨fuel - 1, by omega⟩
    have hi' : i = k5 := by omega
    subst hi'
    refine ⟨φ, ?_, h⟩
    have hc : iI (i : Int) ≤ iI (i : Int) := by rw [iI_le (by omega) (by omega) (by omega) (by omega)]; omega
    rw [fX6_copy_139, if_pos hc]
  | succ r ih =>
    intro i hi fuel hf φ h
    obtain ⟨f, rfl⟩ : ∃ f, fuel = f + 1 := ⟨fuel - 1, by omega⟩
    have hc : ¬ (iI (k5 : Int) ≤ iI (i : Int)) := by rw [iI_le (by omega) (by omega) (by omega) (by omega)]; omega
    have e4 : (40 : Int32) * iI (m3 : Int) + iI (k4 : Int) + iI (i : Int) = iI ((40 * m3 + k4 + i : Nat) : Int) := by rw [iI_ofNat, iI_mul, iI_add, iI_add]; exact congrArg iI (by omega)
    have hc3 : ¬ ((iI ((40 * m3 + k4 + i : Nat) : Int)) < 0 ∨ 160 ≤ 40 * m3 + k4 + i) := by rw [iI_ofNat, iI_lt (by omega) (by omega) (by omega) (by omega)]; omega
    have hc4 : ¬ ((iI (i : Int)) < 0 ∨ 40 ≤ i) := by rw [iI_ofNat, iI_lt (by omega) (by omega) (by omega) (by omega)]; omega
    have e2 : iI (i : Int) + 1 = iI ((i + 1 : Nat) : Int) := by rw [iI_ofNat, iI_add]; rfl
    obtain ⟨φ2, t1, t2⟩ := ih (i + 1) (by omega) f (by omega) (va_up φ (40 * m3 + k4 + i) (t.2 68 i)) (fun q => by
      by_cases e : q = 40 * m3 + k4 + i
      · subst e; rw [up_eq, if_pos (by omega), show 40 * m3 + k4 + i - (40 * m3 + k4) = i by omega]
      · rw [up_ne _ _ e, h q]
        by_cases e5 : 40 * m3 + k4 ≤ q ∧ q < 40 * m3 + k4 + i
        · rw [if_pos e5, if_pos (by omega)]
        · rw [if_neg e5, if_neg (by omega)])
    refine ⟨φ2, ?_, t2⟩
    rw [fX6_copy_139, if_neg hc, cn_k (show i < 2147483648 by omega), if_neg hc4, e4, cn_k (by omega), if_neg hc3, bnd, ksetL_ne _ _ (show 68 ≠ 67 by omega), kwl_ksetL, e2]
    exact t1
theorem st_copy : sp_copy Iv := by
  intro st hI v1 v2 v3 v4 v5
  obtain ⟨a, b, x, l, w, C, R⟩ := hI
  by_cases h1 : v1 < 0 ∨ 3 < v1
  · exact tl1 w C R (by simp only [fX5_copy, C_sheet_f h1, bnd, i00, i10, i01, i11, itT, itF, or_true, true_or, or_false, false_or, bet]) (fun s hs => by simp only [fX6_copy, R_sheet_f h1, bnd, i00, i10, i01, i11, itT, itF, or_true, true_or, or_false, false_or, bet])
  by_cases h3 : v3 < 0 ∨ 3 < v3
  · exact tl1 w C R (by simp only [fX5_copy, C_sheet_t h1, C_sheet_f h3, bnd, i00, i10, i01, i11, itT, itF, or_true, true_or, or_false, false_or, bet]) (fun s hs => by simp only [fX6_copy, R_sheet_t h1, R_sheet_f h3, bnd, i00, i10, i01, i11, itT, itF, or_true, true_or, or_false, false_or, bet])
  obtain ⟨m, hm, rfl⟩ := inN 3 rfl (by omega) h1
  obtain ⟨p, hp, rfl⟩ := inN 3 rfl (by omega) h3
  have hm4 : m < 4 := by omega
  have hp4 : p < 4 := by omega
  have hcl : ¬ ((iI (m : Int)) < 0 ∨ 4 ≤ m) := by rw [iI_ofNat, iI_lt (by omega) (by omega) (by omega) (by omega)]; omega
  have hcp : ¬ ((iI (p : Int)) < 0 ∨ 4 ≤ p) := by rw [iI_ofNat, iI_lt (by omega) (by omega) (by omega) (by omega)]; omega
  have hcn := cn_k (show m < 2147483648 by omega)
  have hpn := cn_k (show p < 2147483648 by omega)
  by_cases h5 : x 3 m = 0
  · refine tl6 w C R ?_ (fun s hs => ?_)
    · simp only [fX5_copy, C_sheet_t h1, C_sheet_t h3, bnd, i00, i10, i01, i11, itT, itF, or_true, true_or, or_false, false_or, bet, hcn, hpn, if_neg hcl, if_neg hcp, C_miss C hm4, if_pos h5]
    · simp only [fX6_copy, R_sheet_t h1, R_sheet_t h3, bnd, i00, i10, i01, i11, itT, itF, or_true, true_or, or_false, false_or, bet, hcn, if_neg hcl, (hs.2.2.2.2.2.1 m hm4).1, if_pos h5]
  by_cases h6 : x 3 p = 0
  · refine tl6 w C R ?_ (fun s hs => ?_)
    · simp only [fX5_copy, C_sheet_t h1, C_sheet_t h3, bnd, i00, i10, i01, i11, itT, itF, or_true, true_or, or_false, false_or, bet, hcn, hpn, if_neg hcl, if_neg hcp, C_miss C hm4, C_miss C hp4, if_neg h5, if_pos h6]
    · simp only [fX6_copy, R_sheet_t h1, R_sheet_t h3, bnd, i00, i10, i01, i11, itT, itF, or_true, true_or, or_false, false_or, bet, hcn, hpn, if_neg hcl, if_neg hcp, (hs.2.2.2.2.2.1 m hm4).1, (hs.2.2.2.2.2.1 p hp4).1, if_neg h5, if_pos h6]
  by_cases h7 : x 3 m = x 3 p
  · obtain ⟨-, n, hn, hx⟩ := w.2.2.2.2 m hm4
    obtain ⟨-, n', hn', hx'⟩ := w.2.2.2.2 p hp4
    have c1 := (C.2.2.2.2.2.1 m hm4).2.1
    rw [hx] at c1
    have c2 := (C.2.2.2.2.2.1 p hp4).2.1
    rw [hx'] at c2
    have r1 : ∀ s, RW s a b x l → s.1 66 m = iI (n : Int) := fun s hs => by rw [(hs.2.2.2.2.2.1 m hm4).2.1]; exact hx
    have r2 : ∀ s, RW s a b x l → s.1 66 p = iI (n' : Int) := fun s hs => by rw [(hs.2.2.2.2.2.1 p hp4).2.1]; exact hx'
    by_cases h8 : 0 ≤ v2.toInt ∧ 0 ≤ v5.toInt ∧ v2.toInt + v5.toInt ≤ n
    · by_cases h9 : 0 ≤ v4.toInt ∧ 0 ≤ v5.toInt ∧ v4.toInt + v5.toInt ≤ n'
      · obtain ⟨k2, e2, f2⟩ : ∃ k : Nat, v2 = iI (k : Int) ∧ (k : Int) = v2.toInt := ⟨v2.toInt.toNat, by rw [show ((v2.toInt.toNat : Nat) : Int) = v2.toInt by omega, iI_toInt], by omega⟩
        obtain ⟨k4, e4, f4⟩ : ∃ k : Nat, v4 = iI (k : Int) ∧ (k : Int) = v4.toInt := ⟨v4.toInt.toNat, by rw [show ((v4.toInt.toNat : Nat) : Int) = v4.toInt by omega, iI_toInt], by omega⟩
        obtain ⟨k5, e5, f5⟩ : ∃ k : Nat, v5 = iI (k : Int) ∧ (k : Int) = v5.toInt := ⟨v5.toInt.toNat, by rw [show ((v5.toInt.toNat : Nat) : Int) = v5.toInt by omega, iI_toInt], by omega⟩
        have b1 : k2 + k5 ≤ 40 := by omega
        have b2 : k4 + k5 ≤ 40 := by omega
        have g2 : v2.toNatClampNeg = k2 := by rw [e2, cn_k (by omega)]
        have g4 : v4.toNatClampNeg = k4 := by rw [e4, cn_k (by omega)]
        have g5 : v5.toNatClampNeg = k5 := by rw [e5, cn_k (by omega)]
        have hg : ¬ (v2 < 0 ∨ v4 < 0 ∨ v5 < 0 ∨ 40 < k2 + k5 ∨ 40 < k4 + k5) := by
          rw [e2, e4, e5, iI_ofNat, iI_lt (by omega) (by omega) (by omega) (by omega), iI_lt (by omega) (by omega) (by omega) (by omega), iI_lt (by omega) (by omega) (by omega) (by omega)]
          omega
        refine join (l' := lu l p (va_cpy (l m) (l p) k2 k4 k5)) v5 R w ?_ (fun s hs => ?_)
        · refine ⟨ksetL st (51 + 2 * p + 1) (va_cpy (st.2 (51 + 2 * m + 1)) (st.2 (51 + 2 * p + 1)) k2 k4 k5), ?_, C.num w hp4 rfl (fun c hc => ksetL_ne _ _ hc) (fun j hj => ?_), fun c hc => ⟨rfl, ksetL_ne _ _ (by omega)⟩⟩
          · simp only [fX5_copy, C_sheet_t h1, C_sheet_t h3, bnd, i00, i10, i01, i11, itT, itF, or_true, true_or, or_false, false_or, bet, hcn, hpn, if_neg hcl, if_neg hcp, C_miss C hm4, C_miss C hp4, if_neg h5, if_neg h6, (C.2.2.2.2.2.1 m hm4).1, (C.2.2.2.2.2.1 p hp4).1, if_pos h7, C_has hn c1, C_has hn' c2, if_pos h8, if_pos h9, g2, g4, g5, if_neg hg]
          · rw [ksetL_same]
            unfold va_cpy
            by_cases e : k4 ≤ j ∧ j < k4 + k5
            · rw [if_pos e, if_pos e]; exact (C.2.2.2.2.2.1 m hm4).2.2 _ (by omega)
            · rw [if_neg e, if_neg e]; exact (C.2.2.2.2.2.1 p hp4).2.2 _ hj
        · obtain ⟨ψ, t1, t2⟩ := R_c102 (s := s) (m1 := m) (k2 := k2) (k5 := k5) (y := iI p) (z := iI k4) hm4 b1 k5 0 (by omega) kfu (by unfold kfu; omega) (s.2 68) (fun j hj => absurd hj (by omega))
          obtain ⟨φ, t3, t4⟩ := R_c139 (t := ksetL s 68 ψ) (m3 := p) (k4 := k4) (k5 := k5) hp4 b2 k5 0 (by omega) kfu (by unfold kfu; omega) ((ksetL s 68 ψ).2 67) (fun q => by rw [if_neg (by omega)])
          rw [ksetL_self, iI_n0] at t1 t3
          refine ⟨ksetL (ksetL s 68 ψ) 67 φ, ?_, hs.num hp4 rfl (fun i hi j hj => ?_), fun c hc => ⟨rfl, by rw [ksetL_ne _ _ (by omega), ksetL_ne _ _ (by omega)]⟩⟩
          · simp only [fX6_copy, R_sheet_t h1, R_sheet_t h3, bnd, i00, i10, i01, i11, itT, itF, or_true, true_or, or_false, false_or, bet, hcn, hpn, if_neg hcl, if_neg hcp, (hs.2.2.2.2.2.1 m hm4).1, (hs.2.2.2.2.2.1 p hp4).1, if_neg h5, if_neg h6, if_pos h7, R_has hm4 hn (r1 s hs), R_has hp4 hn' (r2 s hs), if_pos h8, if_pos h9]
            rw [e2, e4, e5, t1, t3]
          · rw [ksetL_same, t4]
            rw [ksetL_same, ksetL_ne _ _ (show 67 ≠ 68 by omega)]
            by_cases e : i = p
            · subst e
              rw [if_pos rfl]
              unfold va_cpy
              by_cases e7 : k4 ≤ j ∧ j < k4 + k5
              · rw [if_pos e7, if_pos (by omega), t2 _ (by omega)]
                have e8 := (hs.2.2.2.2.2.1 m hm4).2.2 (k2 + (j - k4)) (by omega)
                rw [← e8]
                exact congrArg (s.2 67) (by omega)
              · rw [if_neg e7, if_neg (by omega)]; exact (hs.2.2.2.2.2.1 i hi).2.2 j hj
            · rw [if_neg e, if_neg (by omega)]
      · refine tl1 w C R ?_ (fun s hs => ?_)
        · simp only [fX5_copy, C_sheet_t h1, C_sheet_t h3, bnd, i00, i10, i01, i11, itT, itF, or_true, true_or, or_false, false_or, bet, hcn, hpn, if_neg hcl, if_neg hcp, C_miss C hm4, C_miss C hp4, if_neg h5, if_neg h6, (C.2.2.2.2.2.1 m hm4).1, (C.2.2.2.2.2.1 p hp4).1, if_pos h7, C_has hn c1, C_has hn' c2, if_pos h8, if_neg h9]
        · simp only [fX6_copy, R_sheet_t h1, R_sheet_t h3, bnd, i00, i10, i01, i11, itT, itF, or_true, true_or, or_false, false_or, bet, hcn, hpn, if_neg hcl, if_neg hcp, (hs.2.2.2.2.2.1 m hm4).1, (hs.2.2.2.2.2.1 p hp4).1, if_neg h5, if_neg h6, if_pos h7, R_has hm4 hn (r1 s hs), R_has hp4 hn' (r2 s hs), if_pos h8, if_neg h9]
    · refine tl1 w C R ?_ (fun s hs => ?_)
      · simp only [fX5_copy, C_sheet_t h1, C_sheet_t h3, bnd, i00, i10, i01, i11, itT, itF, or_true, true_or, or_false, false_or, bet, hcn, hpn, if_neg hcl, if_neg hcp, C_miss C hm4, C_miss C hp4, if_neg h5, if_neg h6, (C.2.2.2.2.2.1 m hm4).1, (C.2.2.2.2.2.1 p hp4).1, if_pos h7, C_has hn c1, if_neg h8]
      · simp only [fX6_copy, R_sheet_t h1, R_sheet_t h3, bnd, i00, i10, i01, i11, itT, itF, or_true, true_or, or_false, false_or, bet, hcn, hpn, if_neg hcl, if_neg hcp, (hs.2.2.2.2.2.1 m hm4).1, (hs.2.2.2.2.2.1 p hp4).1, if_neg h5, if_neg h6, if_pos h7, R_has hm4 hn (r1 s hs), if_neg h8]
  · refine tl3 w C R ?_ (fun s hs => ?_)
    · simp only [fX5_copy, C_sheet_t h1, C_sheet_t h3, bnd, i00, i10, i01, i11, itT, itF, or_true, true_or, or_false, false_or, bet, hcn, hpn, if_neg hcl, if_neg hcp, C_miss C hm4, C_miss C hp4, if_neg h5, if_neg h6, (C.2.2.2.2.2.1 m hm4).1, (C.2.2.2.2.2.1 p hp4).1, if_neg h7]
    · simp only [fX6_copy, R_sheet_t h1, R_sheet_t h3, bnd, i00, i10, i01, i11, itT, itF, or_true, true_or, or_false, false_or, bet, hcn, hpn, if_neg hcl, if_neg hcp, (hs.2.2.2.2.2.1 m hm4).1, (hs.2.2.2.2.2.1 p hp4).1, if_neg h5, if_neg h6, if_neg h7]
