/-! trials -/
theorem m1 : (-1 : Int32) = iI (-1) := by rw [iI_ofNat, iI_neg]
theorem cl_k {k : Nat} (hk : k < 10) : ¬ ((iI (k : Int)) < 0 ∨ 10 ≤ k) := by
  simp (disch := omega) only [iI_ofNat, iI_add, iI_sub, iI_mul, iI_neg, iI_lt, iI_le, iI_eq, iI_cl]; omega
theorem cn_k {k : Nat} (hk : k < 2147483648) : (iI (k : Int)).toNatClampNeg = k := by
  rw [iI_cl (by omega) (by omega)]; omega
theorem st_on : sp_on Iv := by
  intro st hI v1 v2 v3
  obtain ⟨a, b, x, l, w, C, R⟩ := hI
  have ok := w.1.1
  have hb := w.1.2
  have hn := ok.n10
  by_cases h1 : nk a v1
  · exact tl1 w C R (by simp only [fX5_on, C_knot_f C h1, bnd, i00, i10, i01, i11, itT, itF, or_true, true_or, or_false, false_or, bet]) (fun s hs => by simp only [fX6_on, R_one_f hs h1, bnd, i00, i10, i01, i11, itT, itF, or_true, true_or, or_false, false_or, bet])
  by_cases h2 : v2 < 0 ∨ 200 < v2
  · exact tl1 w C R (by simp only [fX5_on, C_knot_t C h1, C_in_f h2, bnd, i00, i10, i01, i11, itT, itF, or_true, true_or, or_false, false_or, bet]) (fun s hs => by simp only [fX6_on, R_one_t hs h1, R_in_f h2, bnd, i00, i10, i01, i11, itT, itF, or_true, true_or, or_false, false_or, bet])
  by_cases h3 : v3 < 0 ∨ 2 < v3
  · exact tl1 w C R (by simp only [fX5_on, C_knot_t C h1, C_in_t h2, C_in_f h3, bnd, i00, i10, i01, i11, itT, itF, or_true, true_or, or_false, false_or, bet]) (fun s hs => by simp only [fX6_on, R_one_t hs h1, R_in_t h2, R_in_f h3, bnd, i00, i10, i01, i11, itT, itF, or_true, true_or, or_false, false_or, bet])
  obtain ⟨k, hk, rfl⟩ := inK ok h1
  obtain ⟨n, hn2, rfl⟩ := inN 200 rfl (by omega) h2
  obtain ⟨z, hz, rfl⟩ := inN 2 rfl (by omega) h3
  have oki := Ok_itr n ok
  have hki : k < nn (itr n a) := by rw [nn_itr]; exact hk
  refine join (l' := l) (iI (itr n a (4 + k) (fm (2 + z)))) R w ?_ (fun s hs => ?_)
  · obtain ⟨s1, q1, q2, q3⟩ := C_trial w C
    obtain ⟨s2, p1, p2, p3⟩ := S_passHours (n := n) q3 ok (by omega) (by omega)
    refine SC.same w C ⟨s2, ?_, q2.tr (Fr16 p2)⟩
    obtain ⟨g0, g1, g2, g3, g4⟩ := (p3.2.2.2 k hki).get
    have o4 := (oki.2.2.2.2 k hki).2.2.2.2
    simp only [fX5_on, C_knot_t C h1, C_in_t h2, C_in_t h3, bnd, i00, i10, i01, i11, itT, itF, or_true, true_or, or_false, false_or, bet, q1, p1, cn_k (show k < 2147483648 by omega), if_neg (cl_k (show k < 10 by omega)), g2, g3, g4]
    simp (disch := omega) only [iI_ofNat, iI_add, iI_sub, iI_mul, iI_neg, iI_lt, iI_le, iI_eq, iI_cl]
    have hz3 : z = 0 ∨ z = 1 ∨ z = 2 := by omega
    rcases hz3 with rfl | rfl | rfl
    · rw [if_pos (by omega)]; rfl
    · rw [if_neg (by omega), if_pos (by omega)]
      rcases o4 with e | e
      · rw [if_pos e]; show _ = some (iI (itr n a (4 + k) 4), s2); rw [e]
      · rw [if_neg (by omega)]; show _ = some (iI (itr n a (4 + k) 4), s2); rw [e]
    · rw [if_neg (by omega), if_neg (by omega)]; rfl
  · obtain ⟨t, m1, m2, m3, m4⟩ := R_trial w hs
    obtain ⟨ρ, p1, p2⟩ := R_passes (st := t) (n := n) m2.1 ok (by omega) (by omega)
    rw [kset_self] at p1
    obtain ⟨ρ2, r1, r2⟩ := R_move0 (st := t) (c := 62) (ρ := ρ) (by omega)
    refine SR.pre m4 ⟨kset t 60 ρ2, ?_, R_back w m2 m3 r2, Lo.set (by omega)⟩
    have hi := @R_its (kset t 60 ρ) k (2 + z) (by omega) (by omega)
    rw [kset_same, p2.2.2.2.2 k hki (2 + z) (by omega)] at hi
    have e2 : (2 : Int32) + iI z = iI ((2 + z : Nat) : Int) := by rw [iI_ofNat, iI_add]; exact congrArg iI (by omega)
    simp only [fX6_on, R_one_t hs h1, R_in_t h2, R_in_t h3, bnd, i00, i10, i01, i11, itT, itF, or_true, true_or, or_false, false_or, bet, m1, p1, e2, hi, r1]
theorem st_then : sp_then Iv := by
  intro st hI v1 v2
  obtain ⟨a, b, x, l, w, C, R⟩ := hI
  have ok := w.1.1
  have hb := w.1.2
  by_cases h1 : v1 < 0 ∨ 200 < v1
  · exact tl1 w C R (by simp only [fX5_then, C_in_f h1, bnd, i00, i10, i01, i11, itT, itF, or_true, true_or, or_false, false_or, bet]) (fun s hs => by simp only [fX6_then, R_in_f h1, bnd, i00, i10, i01, i11, itT, itF, or_true, true_or, or_false, false_or, bet])
  by_cases h2 : v2 < 0 ∨ 1 < v2
  · exact tl1 w C R (by simp only [fX5_then, C_in_t h1, C_in_f h2, bnd, i00, i10, i01, i11, itT, itF, or_true, true_or, or_false, false_or, bet]) (fun s hs => by simp only [fX6_then, R_in_t h1, R_in_f h2, bnd, i00, i10, i01, i11, itT, itF, or_true, true_or, or_false, false_or, bet])
  obtain ⟨n, hn2, rfl⟩ := inN 200 rfl (by omega) h1
  have oki := Ok_itr n ok
  by_cases e0 : v2 = 0
  · refine join (l' := l) (iI (um (itr n a))) R w ?_ (fun s hs => ?_)
    · obtain ⟨s1, q1, q2, q3⟩ := C_trial w C
      obtain ⟨s2, p1, p2, p3⟩ := S_passHours (n := n) q3 ok (by omega) (by omega)
      refine SC.same w C ⟨s2, ?_, q2.tr (Fr16 p2)⟩
      simp only [fX5_then, C_in_t h1, C_in_t h2, bnd, i00, i10, i01, i11, itT, itF, or_true, true_or, or_false, false_or, bet, q1, p1, if_pos e0, p3.1.2.2]
    · obtain ⟨t, m1, m2, m3, m4⟩ := R_trial w hs
      obtain ⟨ρ, p1, p2⟩ := R_passes (st := t) (n := n) m2.1 ok (by omega) (by omega)
      rw [kset_self] at p1
      obtain ⟨ρ2, r1, r2⟩ := R_move0 (st := t) (c := 62) (ρ := ρ) (by omega)
      refine SR.pre m4 ⟨kset t 60 ρ2, ?_, R_back w m2 m3 r2, Lo.set (by omega)⟩
      have hR : RR ((kset t 60 ρ).1 60) (itr n a) := by rw [kset_same]; exact p2
      simp only [fX6_then, R_in_t h1, R_in_t h2, bnd, i00, i10, i01, i11, itT, itF, or_true, true_or, or_false, false_or, bet, m1, p1, if_pos e0, R_upSet hR oki, r1]
  · refine join (l' := l) (iI (mv (pf (itr n a)) (nn (itr n a)) : Int)) R w ?_ (fun s hs => ?_)
    · obtain ⟨s1, q1, q2, q3⟩ := C_trial w C
      obtain ⟨s2, p1, p2, p3⟩ := S_passHours (n := n) q3 ok (by omega) (by omega)
      refine SC.same w C ⟨s2, ?_, q2.tr (Fr16 p2)⟩
      simp only [fX5_then, C_in_t h1, C_in_t h2, bnd, i00, i10, i01, i11, itT, itF, or_true, true_or, or_false, false_or, bet, q1, p1, if_neg e0, S_fastKnots p3 oki]
    · obtain ⟨t, m1, m2, m3, m4⟩ := R_trial w hs
      obtain ⟨ρ, p1, p2⟩ := R_passes (st := t) (n := n) m2.1 ok (by omega) (by omega)
      rw [kset_self] at p1
      obtain ⟨ρ2, r1, r2⟩ := R_move0 (st := t) (c := 62) (ρ := ρ) (by omega)
      refine SR.pre m4 ⟨kset t 60 ρ2, ?_, R_back w m2 m3 r2, Lo.set (by omega)⟩
      have hR : RR ((kset t 60 ρ).1 60) (itr n a) := by rw [kset_same]; exact p2
      simp only [fX6_then, R_in_t h1, R_in_t h2, bnd, i00, i10, i01, i11, itT, itF, or_true, true_or, or_false, false_or, bet, m1, p1, if_neg e0, R_fastSet hR oki, r1]
theorem le200 {g : Nat} (hg : g ≤ 201) : (iI (g : Int) ≤ (200 : Int32)) = (g ≤ 200) := by
  rw [iI_ofNat, iI_le (by omega) (by omega) (by omega) (by omega)]
  exact propext ⟨fun h => by omega, fun h => by omega⟩
theorem st_falls : sp_falls Iv := by
  intro st hI v1
  obtain ⟨a, b, x, l, w, C, R⟩ := hI
  have ok := w.1.1
  have hb := w.1.2
  by_cases h1 : v1 < 0 ∨ 3 < v1
  · exact tl1 w C R (by simp only [fX5_falls, C_mast_f h1, bnd, i00, i10, i01, i11, itT, itF, or_true, true_or, or_false, false_or, bet]) (fun s hs => by simp only [fX6_falls, R_mast_f h1, bnd, i00, i10, i01, i11, itT, itF, or_true, true_or, or_false, false_or, bet])
  obtain ⟨m, hm, rfl⟩ := inN 3 rfl (by omega) h1
  have hg := gone_le 3 m 201 a
  obtain ⟨s1, q1, q2, q3⟩ := C_trial w C
  obtain ⟨s2, p1, p2⟩ := S_fallen (m := m) q3 ok (by omega) (by omega)
  have eix : (14 : Int32) + (2 : Int32) * iI m + (1 : Int32) = iI ((14 + 2 * m + 1 : Nat) : Int) := by simp only [iI_ofNat, iI_add, iI_mul]; exact congrArg iI (by omega)
  have hr : ∀ s, RW s a b x l → ∃ t ρ, fX6_moveAll 1 62 s = some t ∧ fX6_goneIn (iI ((14 + 2 * m + 1 : Nat) : Int)) t = some (iI ((gone 3 m 201 a : Nat) : Int), kset t 60 ρ) ∧ RW (kset t 60 ρ) a b x l ∧ Lo s (kset t 60 ρ) := fun s hs => by
    obtain ⟨t, m1, m2, m3, m4⟩ := R_trial w hs
    obtain ⟨ρ, r1, r2⟩ := R_goneIn (st := t) (Ix_m (m := m) (by omega)) m2.1 ok (by omega)
    rw [kset_self] at r1
    exact ⟨t, ρ, m1, r1, R_back w m2 m3 r2, m4.tr (Lo.set (by omega))⟩
  by_cases h2 : gone 3 m 201 a ≤ 200
  · refine join (iI ((gone 3 m 201 a : Nat) : Int)) R w (SC.same w C ⟨s2, ?_, q2.tr (Fr16 p2)⟩) (fun s hs => ?_)
    · simp only [fX5_falls, C_mast_t h1, bnd, i00, i10, i01, i11, itT, itF, or_true, true_or, or_false, false_or, bet, q1, p1, le200 hg, if_pos h2]
    · obtain ⟨t, ρ, r1, r2, r3, r4⟩ := hr s hs
      exact ⟨_, by simp only [fX6_falls, R_mast_t h1, bnd, i00, i10, i01, i11, itT, itF, or_true, true_or, or_false, false_or, bet, r1, eix, r2, le200 hg, if_pos h2], r3, r4⟩
  · have f2 := q2.tr (Fr16 p2)
    refine join (l' := l) (-1000000004 : Int32) R (Wok_xt (i := 3) w) (SC.pre (Hi_fre f2) ?_) (fun s hs => ?_)
    · have := C_tell w 3 (e := -1000000004) (by omega) (by decide) (C.fr w f2)
      simp only [fX5_falls, C_mast_t h1, bnd, i00, i10, i01, i11, itT, itF, or_true, true_or, or_false, false_or, bet, q1, p1, le200 hg, if_neg h2]
      exact this
    · obtain ⟨t, ρ, r1, r2, r3, r4⟩ := hr s hs
      refine SR.pre r4 ?_
      have := R_finds 3 (e := -1000000004) (by omega) (by decide) r3
      simp only [fX6_falls, R_mast_t h1, bnd, i00, i10, i01, i11, itT, itF, or_true, true_or, or_false, false_or, bet, r1, eix, r2, le200 hg, if_neg h2]
      exact this
theorem st_gives : sp_gives Iv := by
  intro st hI v1
  obtain ⟨a, b, x, l, w, C, R⟩ := hI
  have ok := w.1.1
  have hb := w.1.2
  have hn := ok.n10
  by_cases h1 : nk a v1
  · exact tl1 w C R (by simp only [fX5_gives, C_knot_f C h1, bnd, i00, i10, i01, i11, itT, itF, or_true, true_or, or_false, false_or, bet]) (fun s hs => by simp only [fX6_gives, R_one_f hs h1, bnd, i00, i10, i01, i11, itT, itF, or_true, true_or, or_false, false_or, bet])
  obtain ⟨k, hk, rfl⟩ := inK ok h1
  have hg := gone_le (4 + k) 4 201 a
  obtain ⟨s1, q1, q2, q3⟩ := C_trial w C
  obtain ⟨s2, p1, p2⟩ := S_loose (x := k) q3 ok hk (by omega)
  have eix : (22 : Int32) + (5 : Int32) * iI k + (3 : Int32) = iI ((22 + 5 * k + 3 : Nat) : Int) := by simp only [iI_ofNat, iI_add, iI_mul]; exact congrArg iI (by omega)
  have hr : ∀ s, RW s a b x l → ∃ t ρ, fX6_moveAll 1 62 s = some t ∧ fX6_goneIn (iI ((22 + 5 * k + 3 : Nat) : Int)) t = some (iI ((gone (4 + k) 4 201 a : Nat) : Int), kset t 60 ρ) ∧ RW (kset t 60 ρ) a b x l ∧ Lo s (kset t 60 ρ) := fun s hs => by
    obtain ⟨t, m1, m2, m3, m4⟩ := R_trial w hs
    obtain ⟨ρ, r1, r2⟩ := R_goneIn (st := t) (Ix_k (k := k) hk hn.1) m2.1 ok (by omega)
    rw [kset_self] at r1
    exact ⟨t, ρ, m1, r1, R_back w m2 m3 r2, m4.tr (Lo.set (by omega))⟩
  by_cases h2 : gone (4 + k) 4 201 a ≤ 200
  · refine join (iI ((gone (4 + k) 4 201 a : Nat) : Int)) R w (SC.same w C ⟨s2, ?_, q2.tr (Fr16 p2)⟩) (fun s hs => ?_)
    · simp only [fX5_gives, C_knot_t C h1, bnd, i00, i10, i01, i11, itT, itF, or_true, true_or, or_false, false_or, bet, q1, cn_k (show k < 2147483648 by omega), if_neg (cl_k (show k < 10 by omega)), p1, le200 hg, if_pos h2]
    · obtain ⟨t, ρ, r1, r2, r3, r4⟩ := hr s hs
      exact ⟨_, by simp only [fX6_gives, R_one_t hs h1, bnd, i00, i10, i01, i11, itT, itF, or_true, true_or, or_false, false_or, bet, r1, eix, r2, le200 hg, if_pos h2], r3, r4⟩
  · have f2 := q2.tr (Fr16 p2)
    refine join (l' := l) (-1000000004 : Int32) R (Wok_xt (i := 3) w) (SC.pre (Hi_fre f2) ?_) (fun s hs => ?_)
    · have := C_tell w 3 (e := -1000000004) (by omega) (by decide) (C.fr w f2)
      simp only [fX5_gives, C_knot_t C h1, bnd, i00, i10, i01, i11, itT, itF, or_true, true_or, or_false, false_or, bet, q1, cn_k (show k < 2147483648 by omega), if_neg (cl_k (show k < 10 by omega)), p1, le200 hg, if_neg h2]
      exact this
    · obtain ⟨t, ρ, r1, r2, r3, r4⟩ := hr s hs
      refine SR.pre r4 ?_
      have := R_finds 3 (e := -1000000004) (by omega) (by decide) r3
      simp only [fX6_gives, R_one_t hs h1, bnd, i00, i10, i01, i11, itT, itF, or_true, true_or, or_false, false_or, bet, r1, eix, r2, le200 hg, if_neg h2]
      exact this
