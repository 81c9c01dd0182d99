/-! more steps -/
theorem st_of : sp_of Iv := by
  intro st hI v1 v2
  obtain ⟨a, b, x, l, w, C, R⟩ := hI
  have ok := w.1.1
  have hb := w.1.2
  have hn := ok.n10
  have hh0 : a 0 0 < 2147483648 := by omega
  by_cases h1 : nk a v1
  · exact tl1 w C R (by simp only [fX5_of, C_knot_f C h1, bnd, i00, i10, i01, i11, itT, itF, or_true, true_or, or_false, false_or, bet]) (fun s hs => by simp only [fX6_of, R_one_f hs h1, bnd, i00, i10, i01, i11, itT, itF, or_true, true_or, or_false, false_or, bet])
  obtain ⟨k, hk, rfl⟩ := inK ok h1
  obtain ⟨g0, g1, g2, g3, g4⟩ := (C.1.2.2.2 k hk).get
  obtain ⟨o0, o1, o2, o3, o4⟩ := id (ok.2.2.2.2 k hk)
  have hcl : ¬ ((iI (k : Int)) < 0 ∨ 10 ≤ k) := by
    simp (disch := omega) only [iI_ofNat, iI_add, iI_sub, iI_mul, iI_neg, iI_lt, iI_le, iI_eq, iI_cl]; omega
  have hcn : (iI (k : Int)).toNatClampNeg = k := by simp (disch := omega) only [iI_cl, Int.toNat_natCast]
  by_cases h2 : v2 < 0 ∨ 8 < v2
  · have e0 : ¬ v2 = 0 := fun e => by subst e; revert h2; decide
    have e1 : ¬ v2 = 1 := fun e => by subst e; revert h2; decide
    have e2 : ¬ v2 = 2 := fun e => by subst e; revert h2; decide
    have e3 : ¬ v2 = 3 := fun e => by subst e; revert h2; decide
    have e4 : ¬ v2 = 4 := fun e => by subst e; revert h2; decide
    have e5 : ¬ v2 = 5 := fun e => by subst e; revert h2; decide
    have e6 : ¬ v2 = 6 := fun e => by subst e; revert h2; decide
    have e7 : ¬ v2 = 7 := fun e => by subst e; revert h2; decide
    have e8 : ¬ v2 = 8 := fun e => by subst e; revert h2; decide
    exact tl1 w C R (by simp only [fX5_of, C_knot_t C h1, bnd, i00, i10, i01, i11, itT, itF, or_true, true_or, or_false, false_or, bet, hcn, if_neg hcl, if_neg e0, if_neg e1, if_neg e2, if_neg e3, if_neg e4, if_neg e5, if_neg e6, if_neg e7, if_neg e8]) (fun s hs => by simp only [fX6_of, R_one_t hs h1, R_in_f h2, bnd, i00, i10, i01, i11, itT, itF, or_true, true_or, or_false, false_or, bet])
  by_cases e0 : v2 = 0
  · refine join (iI (a (4 + k) 0)) R w (SC.rf C ?_) (fun s hs => SR.rf hs ?_)
    · simp only [fX5_of, C_knot_t C h1, bnd, i00, i10, i01, i11, itT, itF, or_true, true_or, or_false, false_or, bet, hcn, if_neg hcl, if_pos e0, hcn, g0]
    · subst e0; simp only [fX6_of, R_one_t hs h1, R_in_t h2, bnd, i00, i10, i01, i11, itT, itF, or_true, true_or, or_false, false_or, bet, if_neg (show ¬ (0 : Int32) = 5 by decide), if_neg (show ¬ (0 : Int32) = 6 by decide), if_neg (show ¬ (0 : Int32) = 7 by decide), if_neg (show ¬ (0 : Int32) = 8 by decide), R_i0 hs.1 ok hk]
  by_cases e1 : v2 = 1
  · refine join (iI (a (4 + k) 1)) R w (SC.rf C ?_) (fun s hs => SR.rf hs ?_)
    · simp only [fX5_of, C_knot_t C h1, bnd, i00, i10, i01, i11, itT, itF, or_true, true_or, or_false, false_or, bet, hcn, if_neg hcl, if_neg e0, if_pos e1, hcn, g1]
    · subst e1; simp only [fX6_of, R_one_t hs h1, R_in_t h2, bnd, i00, i10, i01, i11, itT, itF, or_true, true_or, or_false, false_or, bet, if_neg (show ¬ (1 : Int32) = 5 by decide), if_neg (show ¬ (1 : Int32) = 6 by decide), if_neg (show ¬ (1 : Int32) = 7 by decide), if_neg (show ¬ (1 : Int32) = 8 by decide), R_i1 hs.1 ok hk]
  by_cases e2 : v2 = 2
  · refine join (iI (a (4 + k) 2)) R w (SC.rf C ?_) (fun s hs => SR.rf hs ?_)
    · simp only [fX5_of, C_knot_t C h1, bnd, i00, i10, i01, i11, itT, itF, or_true, true_or, or_false, false_or, bet, hcn, if_neg hcl, if_neg e0, if_neg e1, if_pos e2, hcn, g2]
    · subst e2; simp only [fX6_of, R_one_t hs h1, R_in_t h2, bnd, i00, i10, i01, i11, itT, itF, or_true, true_or, or_false, false_or, bet, if_neg (show ¬ (2 : Int32) = 5 by decide), if_neg (show ¬ (2 : Int32) = 6 by decide), if_neg (show ¬ (2 : Int32) = 7 by decide), if_neg (show ¬ (2 : Int32) = 8 by decide), R_i2 hs.1 ok hk]
  by_cases e3 : v2 = 3
  · refine join (iI (a (4 + k) 4)) R w (SC.rf C ?_) (fun s hs => SR.rf hs ?_)
    · simp only [fX5_of, C_knot_t C h1, bnd, i00, i10, i01, i11, itT, itF, or_true, true_or, or_false, false_or, bet, hcn, if_neg hcl, if_neg e0, if_neg e1, if_neg e2, if_pos e3, hcn, g4]
      simp (disch := omega) only [iI_ofNat, iI_add, iI_sub, iI_mul, iI_neg, iI_lt, iI_le, iI_eq, iI_cl]
      rcases o4 with e | e
      · rw [if_pos e, e]
      · rw [if_neg (by omega), e]
    · subst e3; simp only [fX6_of, R_one_t hs h1, R_in_t h2, bnd, i00, i10, i01, i11, itT, itF, or_true, true_or, or_false, false_or, bet, if_neg (show ¬ (3 : Int32) = 5 by decide), if_neg (show ¬ (3 : Int32) = 6 by decide), if_neg (show ¬ (3 : Int32) = 7 by decide), if_neg (show ¬ (3 : Int32) = 8 by decide), R_i3 hs.1 ok hk]
  by_cases e4 : v2 = 4
  · refine join (iI (a (4 + k) 3)) R w (SC.rf C ?_) (fun s hs => SR.rf hs ?_)
    · simp only [fX5_of, C_knot_t C h1, bnd, i00, i10, i01, i11, itT, itF, or_true, true_or, or_false, false_or, bet, hcn, if_neg hcl, if_neg e0, if_neg e1, if_neg e2, if_neg e3, if_pos e4, hcn, g3]
    · subst e4; simp only [fX6_of, R_one_t hs h1, R_in_t h2, bnd, i00, i10, i01, i11, itT, itF, or_true, true_or, or_false, false_or, bet, if_neg (show ¬ (4 : Int32) = 5 by decide), if_neg (show ¬ (4 : Int32) = 6 by decide), if_neg (show ¬ (4 : Int32) = 7 by decide), if_neg (show ¬ (4 : Int32) = 8 by decide), R_i4 hs.1 ok hk]
  by_cases e5 : v2 = 5
  · obtain ⟨φ, q⟩ := S_holdingOf C.1 ok hk hh0
    refine join (iI (hh a k (wn a))) R w (SC.same w C ⟨kset st (1 + 4) φ, ?_, fre5⟩) (fun s hs => SR.rf hs ?_)
    · simp only [fX5_of, C_knot_t C h1, bnd, i00, i10, i01, i11, itT, itF, or_true, true_or, or_false, false_or, bet, hcn, if_neg hcl, if_neg e0, if_neg e1, if_neg e2, if_neg e3, if_neg e4, if_pos e5, hcn, q]
    · simp only [fX6_of, R_one_t hs h1, R_in_t h2, bnd, i00, i10, i01, i11, itT, itF, or_true, true_or, or_false, false_or, bet, if_pos e5, R_holding hs.1 ok hk hh0]
  by_cases e6 : v2 = 6
  · refine join ((100 : Int32) + iI (Sg (a (4 + k)) (wn a))) R w (SC.rf C ?_) (fun s hs => SR.rf hs ?_)
    · simp only [fX5_of, C_knot_t C h1, bnd, i00, i10, i01, i11, itT, itF, or_true, true_or, or_false, false_or, bet, hcn, if_neg hcl, if_neg e0, if_neg e1, if_neg e2, if_neg e3, if_neg e4, if_neg e5, if_pos e6, hcn, S_windNow C.1 ok hh0, S_settling (C.1.2.2.2 k hk) (ok.2.2.2.2 k hk) (Ok_wn ok)]
    · simp only [fX6_of, R_one_t hs h1, R_in_t h2, bnd, i00, i10, i01, i11, itT, itF, or_true, true_or, or_false, false_or, bet, if_neg e5, if_pos e6, R_settling hs.1 ok hk hh0]
  by_cases e7 : v2 = 7
  · refine join ((100 : Int32) + iI (Tg (a (4 + k)))) R w (SC.rf C ?_) (fun s hs => SR.rf hs ?_)
    · simp only [fX5_of, C_knot_t C h1, bnd, i00, i10, i01, i11, itT, itF, or_true, true_or, or_false, false_or, bet, hcn, if_neg hcl, if_neg e0, if_neg e1, if_neg e2, if_neg e3, if_neg e4, if_neg e5, if_neg e6, if_pos e7, hcn, S_teasing (C.1.2.2.2 k hk) (ok.2.2.2.2 k hk)]
    · simp only [fX6_of, R_one_t hs h1, R_in_t h2, bnd, i00, i10, i01, i11, itT, itF, or_true, true_or, or_false, false_or, bet, if_neg e5, if_neg e6, if_pos e7, R_teasing hs.1 ok hk]
  by_cases e8 : v2 = 8
  · obtain ⟨φ, q⟩ := S_wouldGive C.1 ok hk hh0
    have hgv : gv a k (wn a) = 0 ∨ gv a k (wn a) = 1 := Gw_rng
    refine join (iI (if a (4 + k) 4 = 1 then gv a k (wn a) else 0)) R w (SC.same w C ⟨kset st (1 + 4) φ, ?_, fre5⟩) (fun s hs => SR.rf hs ?_)
    · simp only [fX5_of, C_knot_t C h1, bnd, i00, i10, i01, i11, itT, itF, or_true, true_or, or_false, false_or, bet, hcn, if_neg hcl, if_neg e0, if_neg e1, if_neg e2, if_neg e3, if_neg e4, if_neg e5, if_neg e6, if_neg e7, if_pos e8, hcn, q]
      by_cases h9 : a (4 + k) 4 = 1
      · simp only [if_pos h9]
        simp (disch := omega) only [iI_ofNat, iI_add, iI_sub, iI_mul, iI_neg, iI_lt, iI_le, iI_eq, iI_cl]
        by_cases h8 : gv a k (wn a) = 0
        · rw [if_pos h8, h8]
        · rw [if_neg h8, show gv a k (wn a) = 1 by omega]
      · simp only [if_neg h9]
        rfl
    · have hm4 : (a (4 + k) 1).toNat < 4 := by omega
      have hst := R_strain hs.1 ok hm4 hh0
      rw [show ((a (4 + k) 1).toNat : Int) = a (4 + k) 1 by omega] at hst
      have hgi := R_isGiving hs.1 ok hk hh0 (sn_rng ok hm4 (Ok_wn ok))
      have e9 : Gw (a (4 + k)) (sn a (a (4 + k) 1).toNat (wn a)) (hh a k (wn a)) = gv a k (wn a) := rfl
      rw [e9] at hgi
      simp only [fX6_of, R_one_t hs h1, R_in_t h2, bnd, i00, i10, i01, i11, itT, itF, or_true, true_or, or_false, false_or, bet, if_neg e5, if_neg e6, if_neg e7, if_pos e8, R_i3 hs.1 ok hk, R_i1 hs.1 ok hk, hst, hgi]
      simp (disch := omega) only [iI_ofNat, iI_add, iI_sub, iI_mul, iI_neg, iI_lt, iI_le, iI_eq, iI_cl]
      by_cases h9 : a (4 + k) 4 = 1
      · rw [if_pos h9, if_pos h9]
        by_cases h8 : gv a k (wn a) = 0
        · rw [if_pos h8, h8]
        · rw [if_neg h8, show gv a k (wn a) = 1 by omega]
      · rw [if_neg h9, if_neg h9]
  exfalso
  obtain ⟨z, hz, rfl⟩ := inN 8 rfl (by omega) h2
  simp (disch := omega) only [iI_ofNat, iI_add, iI_sub, iI_mul, iI_neg, iI_lt, iI_le, iI_eq, iI_cl] at e0 e1 e2 e3 e4 e5 e6 e7 e8
  omega
theorem st_set : sp_set Iv := by
  intro st hI v1 v2 v3
  obtain ⟨a, b, x, l, w, C, R⟩ := hI
  have ok := w.1.1
  have hn := ok.n10
  by_cases h1 : nk a v1
  · exact tl1 w C R (by simp only [fX5_set, C_knot_f C h1, bnd, i00, i10, i01, i11, itT, itF, or_true, true_or, or_false, false_or, bet]) (fun s hs => by simp only [fX6_set, R_one_f hs h1, bnd, i00, i10, i01, i11, itT, itF, or_true, true_or, or_false, false_or, bet])
  obtain ⟨k, hk, rfl⟩ := inK ok h1
  obtain ⟨g0, g1, g2, g3, g4⟩ := (C.1.2.2.2 k hk).get
  have hcl : ¬ ((iI (k : Int)) < 0 ∨ 10 ≤ k) := by
    simp (disch := omega) only [iI_ofNat, iI_add, iI_sub, iI_mul, iI_neg, iI_lt, iI_le, iI_eq, iI_cl]; omega
  have hcn : (iI (k : Int)).toNatClampNeg = k := by simp (disch := omega) only [iI_cl, Int.toNat_natCast]
  by_cases e1 : v2 = 1
  · have e2 : ¬ v2 = 2 := fun e => by subst e; revert e1; decide
    have e4 : ¬ v2 = 4 := fun e => by subst e; revert e1; decide
    by_cases h3 : v3 < 0 ∨ 3 < v3
    · exact tl1 w C R (by simp only [fX5_set, fX5_set_54, fX5_set_85, C_knot_t C h1, bnd, i00, i10, i01, i11, itT, itF, or_true, true_or, or_false, false_or, bet, hcn, if_neg hcl, if_pos e1, if_neg e2, if_neg e4, C_mast_f h3]) (fun s hs => by simp only [fX6_set, fX6_isPart, R_one_t hs h1, bnd, i00, i10, i01, i11, itT, itF, or_true, true_or, or_false, false_or, bet, if_pos e1, R_mast_f h3])
    obtain ⟨z, hz, rfl⟩ := inN 3 rfl (by omega) h3
    refine join (iI (a (4 + k) 1)) R (Wok_a w (Ok_knot (k := k) (j := 1) (z := z) ok (by omega)) (by rw [ya_row (by omega)]; exact w.1.2)) (SC.yard w C ⟨_, ?_, Fr.yk (by omega), C.1.knot ok hk⟩) (fun s hs => SR.row hs ⟨_, ?_, RR.knot (k := k) (j := 1) hs.1 (by omega)⟩)
    · simp only [fX5_set, C_knot_t C h1, bnd, i00, i10, i01, i11, itT, itF, or_true, true_or, or_false, false_or, bet, hcn, if_neg hcl, if_pos e1, C_mast_t h3, hcn, g1]
    · subst e1
      simp only [fX6_set, fX6_isPart, R_one_t hs h1, bnd, i00, i10, i01, i11, itT, itF, or_true, true_or, or_false, false_or, bet, R_mast_t h3]
      rw [R_becomes (j := 22 + 5 * k + 1) (by simp only [iI_ofNat, iI_add, iI_mul]; exact congrArg iI (by omega)) (by omega), hs.1.2.2.2.2 k hk 1 (by omega)]
      rfl
  by_cases e2 : v2 = 2
  · have e4 : ¬ v2 = 4 := fun e => by subst e; revert e2; decide
    by_cases h3 : v3 < 0 ∨ 99 < v3
    · exact tl1 w C R (by simp only [fX5_set, fX5_set_54, fX5_set_85, C_knot_t C h1, bnd, i00, i10, i01, i11, itT, itF, or_true, true_or, or_false, false_or, bet, hcn, if_neg hcl, if_neg e1, if_pos e2, if_neg e4, C_in_f h3]) (fun s hs => by simp only [fX6_set, fX6_isPart, R_one_t hs h1, bnd, i00, i10, i01, i11, itT, itF, or_true, true_or, or_false, false_or, bet, if_neg e1, if_pos e2, R_in_f h3])
    obtain ⟨z, hz, rfl⟩ := inN 99 rfl (by omega) h3
    refine join (iI (a (4 + k) 2)) R (Wok_a w (Ok_knot (k := k) (j := 2) (z := z) ok (by omega)) (by rw [ya_row (by omega)]; exact w.1.2)) (SC.yard w C ⟨_, ?_, Fr.yk (by omega), C.1.knot ok hk⟩) (fun s hs => SR.row hs ⟨_, ?_, RR.knot (k := k) (j := 2) hs.1 (by omega)⟩)
    · simp only [fX5_set, fX5_set_54, C_knot_t C h1, bnd, i00, i10, i01, i11, itT, itF, or_true, true_or, or_false, false_or, bet, hcn, if_neg hcl, if_neg e1, if_pos e2, C_in_t h3, hcn, g2]
    · subst e2
      simp only [fX6_set, fX6_isPart, R_one_t hs h1, bnd, i00, i10, i01, i11, itT, itF, or_true, true_or, or_false, false_or, bet, if_neg (show ¬ (2 : Int32) = 1 by decide), R_in_t h3]
      rw [R_becomes (j := 22 + 5 * k + 2) (by simp only [iI_ofNat, iI_add, iI_mul]; exact congrArg iI (by omega)) (by omega), hs.1.2.2.2.2 k hk 2 (by omega)]
      rfl
  by_cases e4 : v2 = 4
  · by_cases h3 : v3 < 0 ∨ 9999 < v3
    · exact tl1 w C R (by simp only [fX5_set, fX5_set_54, fX5_set_85, C_knot_t C h1, bnd, i00, i10, i01, i11, itT, itF, or_true, true_or, or_false, false_or, bet, hcn, if_neg hcl, if_neg e1, if_neg e2, if_pos e4, C_in_f h3]) (fun s hs => by simp only [fX6_set, fX6_isPart, R_one_t hs h1, bnd, i00, i10, i01, i11, itT, itF, or_true, true_or, or_false, false_or, bet, if_neg e1, if_neg e2, if_pos e4, R_in_f h3])
    obtain ⟨z, hz, rfl⟩ := inN 9999 rfl (by omega) h3
    refine join (iI (a (4 + k) 3)) R (Wok_a w (Ok_knot (k := k) (j := 3) (z := z) ok (by omega)) (by rw [ya_row (by omega)]; exact w.1.2)) (SC.yard w C ⟨_, ?_, Fr.yk (by omega), C.1.knot ok hk⟩) (fun s hs => SR.row hs ⟨_, ?_, RR.knot (k := k) (j := 4) hs.1 (by omega)⟩)
    · simp only [fX5_set, fX5_set_54, fX5_set_85, C_knot_t C h1, bnd, i00, i10, i01, i11, itT, itF, or_true, true_or, or_false, false_or, bet, hcn, if_neg hcl, if_neg e1, if_neg e2, if_pos e4, C_in_t h3, hcn, g3]
    · subst e4
      simp only [fX6_set, fX6_isPart, R_one_t hs h1, bnd, i00, i10, i01, i11, itT, itF, or_true, true_or, or_false, false_or, bet, if_neg (show ¬ (4 : Int32) = 1 by decide), if_neg (show ¬ (4 : Int32) = 2 by decide), R_in_t h3]
      rw [R_becomes (j := 22 + 5 * k + 4) (by simp only [iI_ofNat, iI_add, iI_mul]; exact congrArg iI (by omega)) (by omega), hs.1.2.2.2.2 k hk 4 (by omega)]
      rfl
  exact tl1 w C R (by simp only [fX5_set, fX5_set_54, fX5_set_85, C_knot_t C h1, bnd, i00, i10, i01, i11, itT, itF, or_true, true_or, or_false, false_or, bet, hcn, if_neg hcl, if_neg e1, if_neg e2, if_neg e4]) (fun s hs => by simp only [fX6_set, fX6_isPart, R_one_t hs h1, bnd, i00, i10, i01, i11, itT, itF, or_true, true_or, or_false, false_or, bet, if_neg e1, if_neg e2, if_neg e4])
theorem st_as : sp_as Iv := by
  intro st hI v1 v2
  obtain ⟨a, b, x, l, w, C, R⟩ := hI
  have ok := w.1.1
  have hn := ok.n10
  by_cases h1 : nk a v1
  · exact tl1 w C R (by simp only [fX5_as, C_knot_f C h1, bnd, i00, i10, i01, i11, itT, itF, or_true, true_or, or_false, false_or, bet]) (fun s hs => by simp only [fX6_as, R_one_f hs h1, bnd, i00, i10, i01, i11, itT, itF, or_true, true_or, or_false, false_or, bet])
  by_cases h2 : v2 < 0 ∨ 5 < v2
  · exact tl1 w C R (by simp only [fX5_as, C_knot_t C h1, C_kind_f h2, bnd, i00, i10, i01, i11, itT, itF, or_true, true_or, or_false, false_or, bet]) (fun s hs => by simp only [fX6_as, R_one_t hs h1, R_kind_f h2, bnd, i00, i10, i01, i11, itT, itF, or_true, true_or, or_false, false_or, bet])
  obtain ⟨k, hk, rfl⟩ := inK ok h1
  obtain ⟨z, hz, rfl⟩ := inN 5 rfl (by omega) h2
  obtain ⟨o0, o1, o2, o3, o4⟩ := id (ok.2.2.2.2 k hk)
  have g2 := (C.1.2.2.2 k hk).get.2.2.1
  have hcl : ¬ ((iI (k : Int)) < 0 ∨ 10 ≤ k) := by
    simp (disch := omega) only [iI_ofNat, iI_add, iI_sub, iI_mul, iI_neg, iI_lt, iI_le, iI_eq, iI_cl]; omega
  have hcn : (iI (k : Int)).toNatClampNeg = k := by simp (disch := omega) only [iI_cl, Int.toNat_natCast]
  have hof := S_isOf (z := (z : Int)) (C.1.2.2.2 k hk) (ok.2.2.2.2 k hk) (by omega)
  by_cases h3 : (z : Int) = a (4 + k) 0 ∨ (z : Int) = 0 ∨ ((z : Int) = 1 ∧ a (4 + k) 0 = 4) ∨ ((z : Int) = 2 ∧ a (4 + k) 0 = 5)
  · rw [if_pos h3] at hof
    refine join (iI (a (4 + k) 2)) R w (SC.rf C ?_) (fun s hs => SR.rf hs ?_)
    · simp only [fX5_as, C_knot_t C h1, C_kind_t h2, bnd, i00, i10, i01, i11, itT, itF, or_true, true_or, or_false, false_or, bet, hcn, if_neg hcl, hcn, hof, g2]
    · simp only [fX6_as, fX6_as_48, fX6_as_58, fX6_as_62, fX6_as_63, R_one_t hs h1, R_kind_t h2, bnd, i00, i10, i01, i11, itT, itF, or_true, true_or, or_false, false_or, bet, R_i0 hs.1 ok hk, R_i2 hs.1 ok hk]
      simp (disch := omega) only [iI_ofNat, iI_add, iI_sub, iI_mul, iI_neg, iI_lt, iI_le, iI_eq, iI_cl]
      repeat' split
      all_goals first | rfl | (exfalso; omega)
  · rw [if_neg h3] at hof
    refine tl3 w C R ?_ (fun s hs => ?_)
    · simp only [fX5_as, C_knot_t C h1, C_kind_t h2, bnd, i00, i10, i01, i11, itT, itF, or_true, true_or, or_false, false_or, bet, hcn, if_neg hcl, hcn, hof]
    · simp only [fX6_as, fX6_as_48, fX6_as_58, fX6_as_62, fX6_as_63, R_one_t hs h1, R_kind_t h2, bnd, i00, i10, i01, i11, itT, itF, or_true, true_or, or_false, false_or, bet, R_i0 hs.1 ok hk, R_i2 hs.1 ok hk]
      simp (disch := omega) only [iI_eq, iI_ofNat]
      repeat' split
      all_goals first | rfl | (exfalso; omega)
