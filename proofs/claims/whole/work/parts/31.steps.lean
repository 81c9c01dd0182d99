/-! the steps of a yard -/
theorem Wok_a {a a' b : kY} {x : uX} (w : Wok a b x) (ok : Ok a') (h : a' 0 0 ≤ 99999) : Wok a' b x := ⟨⟨ok, h⟩, w.2⟩
theorem st_wind : sp_wind Iv := by
  intro st hI v1 v2
  obtain ⟨a, b, x, l, w, C, R⟩ := hI
  have ok := w.1.1
  by_cases h1 : v1 < 0 ∨ 11 < v1
  · exact tl1 w C R (by simp only [fX5_wind, C_in_f h1, bnd, i00, i10, i01, i11, itT, itF, or_true, true_or, or_false, false_or, bet]) (fun s _ => by simp only [fX6_wind, R_in_f h1, bnd, i00, i10, i01, i11, itT, itF, or_true, true_or, or_false, false_or, bet])
  by_cases h2 : v2 < 0 ∨ 99 < v2
  · exact tl1 w C R (by simp only [fX5_wind, C_in_t h1, C_in_f h2, bnd, i00, i10, i01, i11, itT, itF, or_true, true_or, or_false, false_or, bet]) (fun s _ => by simp only [fX6_wind, R_in_t h1, R_in_f h2, bnd, i00, i10, i01, i11, itT, itF, or_true, true_or, or_false, false_or, bet])
  obtain ⟨k, hk, rfl⟩ := inN 11 rfl (by omega) h1
  obtain ⟨z, hz, rfl⟩ := inN 99 rfl (by omega) h2
  refine join (iI (a 1 k)) R (Wok_a w (Ok_wind (i := k) (z := z) ok (by omega)) (by rw [ya_row (by omega)]; exact w.1.2)) (SC.yard w C ⟨_, ?_, Fr.y1, C.1.wind ok⟩) (fun s hs => SR.row hs ⟨_, ?_, RR.wind hs.1 (by omega)⟩)
  · simp only [fX5_wind, C_in_t h1, C_in_t h2, bnd, i00, i10, i01, i11, itT, itF, or_true, true_or, or_false, false_or, bet]
    simp (disch := omega) only [iI_ofNat, iI_add, iI_sub, iI_mul, iI_neg, iI_lt, iI_le, iI_eq, iI_cl, Int.toNat_natCast]
    rw [if_neg (by omega), C.1.2.1 k (by omega)]
  · simp only [fX6_wind, R_in_t h1, R_in_t h2, bnd, i00, i10, i01, i11, itT, itF, or_true, true_or, or_false, false_or, bet]
    rw [R_becomes (j := 2 + k) (by rw [iI_ofNat, iI_add]; exact congrArg iI (by omega)) (by omega), hs.1.2.2.1 k (by omega)]
theorem st_weight : sp_weight Iv := by
  intro st hI v1 v2
  obtain ⟨a, b, x, l, w, C, R⟩ := hI
  have ok := w.1.1
  by_cases h1 : v1 < 0 ∨ 3 < v1
  · exact tl1 w C R (by simp only [fX5_weight, C_mast_f h1, bnd, i00, i10, i01, i11, itT, itF, or_true, true_or, or_false, false_or, bet]) (fun s _ => by simp only [fX6_weight, R_mast_f h1, bnd, i00, i10, i01, i11, itT, itF, or_true, true_or, or_false, false_or, bet])
  by_cases h2 : v2 < 0 ∨ 999 < v2
  · exact tl1 w C R (by simp only [fX5_weight, C_mast_t h1, C_in_f h2, bnd, i00, i10, i01, i11, itT, itF, or_true, true_or, or_false, false_or, bet]) (fun s _ => by simp only [fX6_weight, R_mast_t h1, R_in_f h2, bnd, i00, i10, i01, i11, itT, itF, or_true, true_or, or_false, false_or, bet])
  obtain ⟨k, hk, rfl⟩ := inN 3 rfl (by omega) h1
  obtain ⟨z, hz, rfl⟩ := inN 999 rfl (by omega) h2
  refine join (iI (a 2 k)) R (Wok_a w (Ok_weight (i := k) (z := z) ok (by omega)) (by rw [ya_row (by omega)]; exact w.1.2)) (SC.yard w C ⟨_, ?_, Fr.y2, C.1.weight ok⟩) (fun s hs => SR.row hs ⟨_, ?_, RR.weight hs.1 (by omega)⟩)
  · simp only [fX5_weight, C_mast_t h1, C_in_t h2, bnd, i00, i10, i01, i11, itT, itF, or_true, true_or, or_false, false_or, bet]
    simp (disch := omega) only [iI_ofNat, iI_add, iI_sub, iI_mul, iI_neg, iI_lt, iI_le, iI_eq, iI_cl, Int.toNat_natCast]
    rw [if_neg (by omega), C.1.2.2.1 k (by omega)]
  · simp only [fX6_weight, R_mast_t h1, R_in_t h2, bnd, i00, i10, i01, i11, itT, itF, or_true, true_or, or_false, false_or, bet]
    rw [R_becomes (j := 14 + 2 * k) (by simp only [iI_ofNat, iI_add, iI_mul]; exact congrArg iI (by omega)) (by omega), (hs.1.2.2.2.1 k (by omega)).1]
theorem st_raise : sp_raise Iv := by
  intro st hI v1
  obtain ⟨a, b, x, l, w, C, R⟩ := hI
  have ok := w.1.1
  by_cases h1 : v1 < 0 ∨ 3 < v1
  · exact tl1 w C R (by simp only [fX5_raise, C_mast_f h1, bnd, i00, i10, i01, i11, itT, itF, or_true, true_or, or_false, false_or, bet]) (fun s _ => by simp only [fX6_raise, R_mast_f h1, bnd, i00, i10, i01, i11, itT, itF, or_true, true_or, or_false, false_or, bet])
  obtain ⟨k, hk, rfl⟩ := inN 3 rfl (by omega) h1
  have hu : ∀ m, m < 4 → a 3 m = 0 ∨ a 3 m = 1 := fun m hm => (ok.2.2.2.1 m hm).2
  have hu1 := hu k (by omega)
  refine join (iI (1 - a 3 k)) R (Wok_a w (Ok_up (i := k) (z := 1) ok (by omega)) (by rw [ya_row (by omega)]; exact w.1.2)) (SC.yard w C ⟨_, ?_, Fr.y0, C.1.up ok⟩) (fun s hs => SR.row hs ⟨_, ?_, RR.up hs.1 ok (by omega)⟩)
  · simp only [fX5_raise, C_mast_t h1, bnd, i00, i10, i01, i11, itT, itF, or_true, true_or, or_false, false_or, bet, S_isUp C.1.1.2.2 hu (show k < 4 by omega), (S_putUp (m := k) C.1.1.2.2 hu (by omega)).2]
    simp (disch := omega) only [iI_ofNat, iI_add, iI_sub, iI_mul, iI_neg, iI_lt, iI_le, iI_eq, iI_cl]
    rcases hu1 with e | e
    · rw [if_pos e, e]; rfl
    · rw [if_neg (by omega), e]; rfl
  · simp only [fX6_raise, R_mast_t h1, bnd, i00, i10, i01, i11, itT, itF, or_true, true_or, or_false, false_or, bet]
    rw [R_becomes (j := 14 + 2 * k + 1) (by simp only [iI_ofNat, iI_add, iI_mul]; exact congrArg iI (by omega)) (by omega), (hs.1.2.2.2.1 k (by omega)).2, Option.bind_some]
    simp only [iI_ofNat, iI_sub]
theorem fre5 {st : kM} {φ : Nat → Int32} : Fr fre st (kset st (1 + 4) φ) := Fr.set _ (Or.inl rfl)
theorem st_mastOf : sp_mastOf Iv := by
  intro st hI v1 v2
  obtain ⟨a, b, x, l, w, C, R⟩ := hI
  have ok := w.1.1
  have hb := w.1.2
  by_cases h1 : v1 < 0 ∨ 3 < v1
  · exact tl1 w C R (by simp only [fX5_mastOf, C_mast_f h1, bnd, i00, i10, i01, i11, itT, itF, or_true, true_or, or_false, false_or, bet]) (fun s _ => by simp only [fX6_mastOf, R_mast_f h1, bnd, i00, i10, i01, i11, itT, itF, or_true, true_or, or_false, false_or, bet])
  obtain ⟨k, hk, rfl⟩ := inN 3 rfl (by omega) h1
  have hu : ∀ m, m < 4 → a 3 m = 0 ∨ a 3 m = 1 := fun m hm => (ok.2.2.2.1 m hm).2
  have hu1 := hu k (by omega)
  have hkm : 0 ≤ (k : Int) ∧ (k : Int) < 4 := by omega
  have hk4 : k < 4 := by omega
  by_cases e0 : v2 = 0
  · refine join (iI (a 2 k)) R w (SC.rf C ?_) (fun s hs => SR.rf hs ?_)
    · simp only [fX5_mastOf, C_mast_t h1, bnd, i00, i10, i01, i11, itT, itF, or_true, true_or, or_false, false_or, bet, if_pos e0]
      simp (disch := omega) only [iI_ofNat, iI_add, iI_sub, iI_mul, iI_neg, iI_lt, iI_le, iI_eq, iI_cl, Int.toNat_natCast]
      rw [if_neg (by omega), C.1.2.2.1 k (by omega)]
    · subst e0; simp only [fX6_mastOf, R_mast_t h1, bnd, i00, i10, i01, i11, itT, itF, or_true, true_or, or_false, false_or, bet, R_m0 hs.1 hk4]
  by_cases e1 : v2 = 1
  · refine join (iI (a 3 k)) R w (SC.rf C ?_) (fun s hs => SR.rf hs ?_)
    · simp only [fX5_mastOf, C_mast_t h1, bnd, i00, i10, i01, i11, itT, itF, or_true, true_or, or_false, false_or, bet, if_neg e0, if_pos e1, S_isUp C.1.1.2.2 hu hk4]
      simp (disch := omega) only [iI_ofNat, iI_add, iI_sub, iI_mul, iI_neg, iI_lt, iI_le, iI_eq, iI_cl]
      rcases hu1 with e | e
      · rw [if_pos e, e]
      · rw [if_neg (by omega), e]
    · subst e1; simp only [fX6_mastOf, R_mast_t h1, bnd, i00, i10, i01, i11, itT, itF, or_true, true_or, or_false, false_or, bet, R_m1 hs.1 hk4]
  by_cases e2 : v2 = 2
  · refine join (iI (mv (p0 a k) (nn a) : Int)) R w (SC.rf C ?_) (fun s hs => SR.rf hs ?_)
    · simp only [fX5_mastOf, C_mast_t h1, bnd, i00, i10, i01, i11, itT, itF, or_true, true_or, or_false, false_or, bet, if_neg e0, if_neg e1, if_pos e2, S_knotsOf C.1 ok hkm]
    · simp only [fX6_mastOf, R_mast_t h1, bnd, i00, i10, i01, i11, itT, itF, or_true, true_or, or_false, false_or, bet, if_neg e0, if_neg e1, if_pos e2, R_knotsOf0 hs.1 ok hkm]
  by_cases e3 : v2 = 3
  · refine join (iI (mv (pm a k) (nn a) : Int)) R w (SC.rf C ?_) (fun s hs => SR.rf hs ?_)
    · simp only [fX5_mastOf, C_mast_t h1, bnd, i00, i10, i01, i11, itT, itF, or_true, true_or, or_false, false_or, bet, if_neg e0, if_neg e1, if_neg e2, if_pos e3, S_knotsOf C.1 ok hkm, S_fastKnots C.1 ok, kf_and]
    · simp only [fX6_mastOf, R_mast_t h1, bnd, i00, i10, i01, i11, itT, itF, or_true, true_or, or_false, false_or, bet, if_neg e0, if_neg e1, if_neg e2, if_pos e3, R_knotsOf1 hs.1 ok hkm]
  by_cases e4 : v2 = 4
  · obtain ⟨φ, q⟩ := S_strainOn C.1 ok hk4 (by omega)
    refine join (iI (sn a k (wn a))) R w (SC.same w C ⟨kset st (1 + 4) φ, ?_, fre5⟩) (fun s hs => SR.rf hs ?_)
    · simp only [fX5_mastOf, C_mast_t h1, bnd, i00, i10, i01, i11, itT, itF, or_true, true_or, or_false, false_or, bet, if_neg e0, if_neg e1, if_neg e2, if_neg e3, if_pos e4, q]
    · simp only [fX6_mastOf, R_mast_t h1, bnd, i00, i10, i01, i11, itT, itF, or_true, true_or, or_false, false_or, bet, if_neg e0, if_neg e1, if_neg e2, if_neg e3, if_pos e4, R_strain hs.1 ok hk4 (show a 0 0 < 2147483648 by omega)]
  by_cases e5 : v2 = 5
  · obtain ⟨φ, q⟩ := S_allHolding C.1 ok hkm (by omega)
    refine join (iI (sm (hf a k) (nn a))) R w (SC.same w C ⟨kset st (1 + 4) φ, ?_, fre5⟩) (fun s hs => SR.rf hs ?_)
    · simp only [fX5_mastOf, C_mast_t h1, bnd, i00, i10, i01, i11, itT, itF, or_true, true_or, or_false, false_or, bet, if_neg e0, if_neg e1, if_neg e2, if_neg e3, if_neg e4, if_pos e5, q]
    · simp only [fX6_mastOf, R_mast_t h1, bnd, i00, i10, i01, i11, itT, itF, or_true, true_or, or_false, false_or, bet, if_neg e0, if_neg e1, if_neg e2, if_neg e3, if_neg e4, if_pos e5, R_heldOf hs.1 ok hkm (show a 0 0 < 2147483648 by omega)]
  exact tl1 w C R (by simp only [fX5_mastOf, C_mast_t h1, bnd, i00, i10, i01, i11, itT, itF, or_true, true_or, or_false, false_or, bet, if_neg e0, if_neg e1, if_neg e2, if_neg e3, if_neg e4, if_neg e5]) (fun s _ => by simp only [fX6_mastOf, R_mast_t h1, bnd, i00, i10, i01, i11, itT, itF, or_true, true_or, or_false, false_or, bet, if_neg e0, if_neg e1, if_neg e2, if_neg e3, if_neg e4, if_neg e5])
theorem st_now : sp_now Iv := by
  intro st hI v1
  obtain ⟨a, b, x, l, w, C, R⟩ := hI
  have ok := w.1.1
  have hb := w.1.2
  by_cases e0 : v1 = 0
  · refine join (iI (a 0 0)) R w (SC.rf C ?_) (fun s hs => SR.rf hs ?_)
    · simp only [fX5_now, if_pos e0, C.1.1.1]
    · simp only [fX6_now, if_pos e0, hs.1.1]
  by_cases e1 : v1 = 1
  · refine join (iI (a 0 0) - iI (a 0 0) / 12 * 12) R w (SC.rf C ?_) (fun s hs => SR.rf hs ?_)
    · simp only [fX5_now, fX4_place, if_neg e0, if_pos e1, C.1.1.1, bnd, i00, i10, i01, i11, itT, itF, or_true, true_or, or_false, false_or, bet]
    · simp only [fX6_now, if_neg e0, if_pos e1, hs.1.1]
  by_cases e2 : v1 = 2
  · refine join (iI (wn a)) R w (SC.rf C ?_) (fun s hs => SR.rf hs ?_)
    · simp only [fX5_now, if_neg e0, if_neg e1, if_pos e2, S_windNow C.1 ok (show a 0 0 < 2147483648 by omega), bnd, i00, i10, i01, i11, itT, itF, or_true, true_or, or_false, false_or, bet]
    · simp only [fX6_now, if_neg e0, if_neg e1, if_pos e2, R_blowing hs.1 ok (show a 0 0 < 2147483648 by omega), bnd, i00, i10, i01, i11, itT, itF, or_true, true_or, or_false, false_or, bet]
  by_cases e3 : v1 = 3
  · refine join (iI (um a)) R w (SC.rf C ?_) (fun s hs => SR.rf hs ?_)
    · simp only [fX5_now, if_neg e0, if_neg e1, if_neg e2, if_pos e3, C.1.1.2.2]
    · simp only [fX6_now, if_neg e0, if_neg e1, if_neg e2, if_pos e3, R_upSet hs.1 ok, bnd, i00, i10, i01, i11, itT, itF, or_true, true_or, or_false, false_or, bet]
  by_cases e4 : v1 = 4
  · refine join (iI (mv (pf a) (nn a) : Int)) R w (SC.rf C ?_) (fun s hs => SR.rf hs ?_)
    · simp only [fX5_now, if_neg e0, if_neg e1, if_neg e2, if_neg e3, if_pos e4, S_fastKnots C.1 ok, bnd, i00, i10, i01, i11, itT, itF, or_true, true_or, or_false, false_or, bet]
    · simp only [fX6_now, if_neg e0, if_neg e1, if_neg e2, if_neg e3, if_pos e4, R_fastSet hs.1 ok, bnd, i00, i10, i01, i11, itT, itF, or_true, true_or, or_false, false_or, bet]
  by_cases e5 : v1 = 5
  · refine join (iI (sm (fun i => a (4 + i) 2) (nn a))) R w (SC.rf C ?_) (fun s hs => SR.rf hs ?_)
    · simp only [fX5_now, if_neg e0, if_neg e1, if_neg e2, if_neg e3, if_neg e4, if_pos e5, S_allOpen C.1 ok, bnd, i00, i10, i01, i11, itT, itF, or_true, true_or, or_false, false_or, bet]
    · have := R_sumOf (j := 2) (by omega) hs.1 ok
      rw [show iI ((2 : Nat) : Int) = (2 : Int32) from rfl] at this
      simp only [fX6_now, if_neg e0, if_neg e1, if_neg e2, if_neg e3, if_neg e4, if_pos e5, this, bnd, i00, i10, i01, i11, itT, itF, or_true, true_or, or_false, false_or, bet]
      rfl
  exact tl1 w C R (by simp only [fX5_now, bnd, i00, i10, i01, i11, itT, itF, or_true, true_or, or_false, false_or, bet, if_neg e0, if_neg e1, if_neg e2, if_neg e3, if_neg e4, if_neg e5]) (fun s _ => by simp only [fX6_now, bnd, i00, i10, i01, i11, itT, itF, or_true, true_or, or_false, false_or, bet, if_neg e0, if_neg e1, if_neg e2, if_neg e3, if_neg e4, if_neg e5])
theorem st_knot : sp_knot Iv := by
  intro st hI v1 v2
  obtain ⟨a, b, x, l, w, C, R⟩ := hI
  have ok := w.1.1
  have hn := ok.n10
  by_cases h1 : v1 < 0 ∨ 5 < v1
  · exact tl1 w C R (by simp only [fX5_knot, C_kind_f h1, bnd, i00, i10, i01, i11, itT, itF, or_true, true_or, or_false, false_or, bet]) (fun s _ => by simp only [fX6_knot, R_kind_f h1, bnd, i00, i10, i01, i11, itT, itF, or_true, true_or, or_false, false_or, bet])
  by_cases h2 : v2 < 0 ∨ 3 < v2
  · exact tl1 w C R (by simp only [fX5_knot, C_kind_t h1, C_mast_f h2, bnd, i00, i10, i01, i11, itT, itF, or_true, true_or, or_false, false_or, bet]) (fun s _ => by simp only [fX6_knot, R_kind_t h1, R_mast_f h2, bnd, i00, i10, i01, i11, itT, itF, or_true, true_or, or_false, false_or, bet])
  obtain ⟨y, hy, rfl⟩ := inN 5 rfl (by omega) h1
  obtain ⟨m, hm, rfl⟩ := inN 3 rfl (by omega) h2
  by_cases h3 : nn a < 10
  · obtain ⟨s1, q1, q2, q3⟩ := S_addKnot (y := (y : Int)) (m := (m : Int)) C.1 ok h3
    refine join (iI (nn a)) R (Wok_a w (Ok_ak (y := y) (m := m) (o := 50) (f := 1) ok h3 (by omega) (by omega) (by omega) (by omega)) (by rw [ak_00]; exact w.1.2)) (SC.yard w C ⟨s1, ?_, q2, q3⟩) (fun s hs => ?_)
    · have e : fX4_isFull 1 st = some (0, st) := by
        unfold fX4_isFull
        rw [C.1.1.2.1]
        simp (disch := omega) only [iI_ofNat, iI_add, iI_sub, iI_mul, iI_neg, iI_lt, iI_le, iI_eq, iI_cl]
        rw [if_pos (by omega)]
      simp only [fX5_knot, C_kind_t h1, C_mast_t h2, e, bnd, i00, i10, i01, i11, itT, itF, or_true, true_or, or_false, false_or, bet, q1]
    · obtain ⟨ρ, p1, p2⟩ := R_adds (st := s) (y := (y : Int)) (m := (m : Int)) (o := 50) (f := 1) hs.1 ok h3
      rw [kset_self] at p1
      refine SR.row hs ⟨ρ, ?_, p2⟩
      have e : ¬ (s.1 60 1 = (10 : Int32)) := by
        rw [hs.1.2.1, iI_ofNat, iI_eq (by omega) (by omega) (by omega) (by omega)]; omega
      simp only [fX6_knot, R_kind_t h1, R_mast_t h2, if_neg e, bnd, i00, i10, i01, i11, itT, itF, or_true, true_or, or_false, false_or, bet]
      have p3 : fX6_adds (iI y) (iI m) (50 : Int32) (1 : Int32) s = some (kset s 60 ρ) := p1
      rw [p3, Option.bind_some, kset_same, p2.2.1, ak_01, iI_ofNat, iI_sub, show a 0 1 + 1 - 1 = (nn a : Int) by omega]
  · refine tl2 w C R ?_ (fun s hs => ?_)
    · have e : fX4_isFull 1 st = some (1, st) := by
        unfold fX4_isFull
        rw [C.1.1.2.1]
        simp (disch := omega) only [iI_ofNat, iI_add, iI_sub, iI_mul, iI_neg, iI_lt, iI_le, iI_eq, iI_cl]
        rw [if_neg (by omega)]
      simp only [fX5_knot, C_kind_t h1, C_mast_t h2, e, bnd, i00, i10, i01, i11, itT, itF, or_true, true_or, or_false, false_or, bet]
    · have e : s.1 60 1 = (10 : Int32) := by
        rw [hs.1.2.1, iI_ofNat]; exact congrArg iI (by omega)
      simp only [fX6_knot, R_kind_t h1, R_mast_t h2, if_pos e, bnd, i00, i10, i01, i11, itT, itF, or_true, true_or, or_false, false_or, bet]
theorem st_turn : sp_turn Iv := by
  intro st hI v1 v2
  obtain ⟨a, b, x, l, w, C, R⟩ := hI
  have ok := w.1.1
  have hn := ok.n10
  by_cases h1 : nk a v1
  · exact tl1 w C R (by simp only [fX5_turn, C_knot_f C h1, bnd, i00, i10, i01, i11, itT, itF, or_true, true_or, or_false, false_or, bet]) (fun s hs => by simp only [fX6_turn, R_one_f hs h1, bnd, i00, i10, i01, i11, itT, itF, or_true, true_or, or_false, false_or, bet])
  by_cases h2 : v2 < 0 ∨ 5 < v2
  · exact tl1 w C R (by simp only [fX5_turn, C_knot_t C h1, C_kind_f h2, bnd, i00, i10, i01, i11, itT, itF, or_true, true_or, or_false, false_or, bet]) (fun s hs => by simp only [fX6_turn, R_one_t hs h1, R_kind_f h2, bnd, i00, i10, i01, i11, itT, itF, or_true, true_or, or_false, false_or, bet])
  obtain ⟨k, hk, rfl⟩ := inK ok h1
  obtain ⟨z, hz, rfl⟩ := inN 5 rfl (by omega) h2
  refine join (iI (a (4 + k) 0)) R (Wok_a w (Ok_knot (k := k) (j := 0) (z := z) ok (by omega)) (by rw [ya_row (by omega)]; exact w.1.2)) (SC.yard w C ⟨_, ?_, Fr.yk (by omega), C.1.knot ok hk⟩) (fun s hs => SR.row hs ⟨_, ?_, RR.knot (k := k) (j := 0) hs.1 (by omega)⟩)
  · simp only [fX5_turn, C_knot_t C h1, C_kind_t h2, bnd, i00, i10, i01, i11, itT, itF, or_true, true_or, or_false, false_or, bet]
    simp (disch := omega) only [iI_ofNat, iI_add, iI_sub, iI_mul, iI_neg, iI_lt, iI_le, iI_eq, iI_cl, Int.toNat_natCast]
    rw [if_neg (by omega), (C.1.2.2.2 k hk).get.1]
  · simp only [fX6_turn, R_one_t hs h1, R_kind_t h2, bnd, i00, i10, i01, i11, itT, itF, or_true, true_or, or_false, false_or, bet]
    rw [R_becomes (j := 22 + 5 * k + 0) (by simp only [iI_ofNat, iI_add, iI_mul]; exact congrArg iI (by omega)) (by omega), hs.1.2.2.2.2 k hk 0 (by omega)]
    rfl
theorem st_tease : sp_tease Iv := by
  intro st hI v1
  obtain ⟨a, b, x, l, w, C, R⟩ := hI
  have ok := w.1.1
  have hn := ok.n10
  by_cases h1 : nk a v1
  · exact tl1 w C R (by simp only [fX5_tease, C_knot_f C h1, bnd, i00, i10, i01, i11, itT, itF, or_true, true_or, or_false, false_or, bet]) (fun s hs => by simp only [fX6_tease, R_one_f hs h1, bnd, i00, i10, i01, i11, itT, itF, or_true, true_or, or_false, false_or, bet])
  obtain ⟨k, hk, rfl⟩ := inK ok h1
  have hc := Cl_rng (a (4 + k) 2 + Tg (a (4 + k)))
  refine join (iI (Cl (a (4 + k) 2 + Tg (a (4 + k))))) R (Wok_a w (Ok_knot (k := k) (j := 2) (z := Cl (a (4 + k) 2 + Tg (a (4 + k)))) ok (by omega)) (by rw [ya_row (by omega)]; exact w.1.2)) (SC.yard w C ⟨_, ?_, Fr.yk (by omega), C.1.knot ok hk⟩) (fun s hs => ?_)
  · simp only [fX5_tease, C_knot_t C h1, bnd, i00, i10, i01, i11, itT, itF, or_true, true_or, or_false, false_or, bet]
    simp (disch := omega) only [iI_ofNat, iI_add, iI_sub, iI_mul, iI_neg, iI_lt, iI_le, iI_eq, iI_cl, Int.toNat_natCast]
    rw [if_neg (by omega), S_beTeased (C.1.2.2.2 k hk) (ok.2.2.2.2 k hk), Option.bind_some, kwr_same, up_eq]
  · obtain ⟨ρ, p1, p2⟩ := R_teases (st := s) hs.1 ok hk
    rw [kset_self] at p1
    refine SR.row hs ⟨ρ, ?_, p2⟩
    simp only [fX6_tease, R_one_t hs h1, bnd, i00, i10, i01, i11, itT, itF, or_true, true_or, or_false, false_or, bet, p1]
    have := @R_its (kset s 60 ρ) k 2 (by omega) (by omega)
    rw [kset_same, p2.2.2.2.2 k (by rw [nn_ya (by omega)]; exact hk) 2 (by omega), show fm 2 = 2 from rfl, ya_eq, if_pos ⟨rfl, rfl⟩] at this
    exact this
theorem st_tie : sp_tie Iv := by
  intro st hI v1
  obtain ⟨a, b, x, l, w, C, R⟩ := hI
  have ok := w.1.1
  have hn := ok.n10
  by_cases h1 : nk a v1
  · exact tl1 w C R (by simp only [fX5_tie, C_knot_f C h1, bnd, i00, i10, i01, i11, itT, itF, or_true, true_or, or_false, false_or, bet]) (fun s hs => by simp only [fX6_tie, R_one_f hs h1, bnd, i00, i10, i01, i11, itT, itF, or_true, true_or, or_false, false_or, bet])
  obtain ⟨k, hk, rfl⟩ := inK ok h1
  have o4 := (ok.2.2.2.2 k hk).2.2.2.2
  have g4 := (C.1.2.2.2 k hk).get.2.2.2.2
  by_cases h4 : a (4 + k) 4 = 1
  · refine tl5 w C R ?_ (fun s hs => ?_)
    · simp only [fX5_tie, C_knot_t C h1, bnd, i00, i10, i01, i11, itT, itF, or_true, true_or, or_false, false_or, bet]
      simp (disch := omega) only [iI_ofNat, iI_add, iI_sub, iI_mul, iI_neg, iI_lt, iI_le, iI_eq, iI_cl, Int.toNat_natCast, g4]
      rw [if_neg (by omega), if_neg (by omega)]
    · simp only [fX6_tie, R_one_t hs h1, bnd, i00, i10, i01, i11, itT, itF, or_true, true_or, or_false, false_or, bet, R_i3 hs.1 ok hk]
      simp (disch := omega) only [iI_ofNat, iI_add, iI_sub, iI_mul, iI_neg, iI_lt, iI_le, iI_eq, iI_cl]
      rw [if_pos h4]
  · have ok1 := Ok_knot (k := k) (j := 4) (z := 1) ok (by omega)
    have hk1 : k < nn (ya a (4 + k) 4 1) := by rw [nn_ya (by omega)]; exact hk
    refine join (1 : Int32) R (Wok_a w (Ok_knot (k := k) (j := 3) (z := 0) ok1 (by omega)) (by rw [ya_row (by omega), ya_row (by omega)]; exact w.1.2)) (SC.yard w C ⟨_, ?_, (Fr.yk (k := k) (by omega)).tr (Fr.yk (k := k) (by omega)), (C.1.knot ok hk).knot ok1 hk1⟩) (fun s hs => SR.row hs ⟨_, ?_, RR.knot (k := k) (j := 4) (RR.knot (k := k) (j := 3) hs.1 (by omega)) (by omega)⟩)
    · simp only [fX5_tie, C_knot_t C h1, bnd, i00, i10, i01, i11, itT, itF, or_true, true_or, or_false, false_or, bet]
      simp (disch := omega) only [iI_ofNat, iI_add, iI_sub, iI_mul, iI_neg, iI_lt, iI_le, iI_eq, iI_cl, Int.toNat_natCast, g4]
      rw [if_neg (by omega), if_pos (by omega)]
    · have hR := R_i3 hs.1 ok hk
      simp only [fX6_tie, R_one_t hs h1, bnd, i00, i10, i01, i11, itT, itF, or_true, true_or, or_false, false_or, bet, hR, R_p3 (show k < 10 by omega), R_p4 (show k < 10 by omega)]
      simp (disch := omega) only [iI_ofNat, iI_add, iI_sub, iI_mul, iI_neg, iI_lt, iI_le, iI_eq, iI_cl]
      rw [if_neg h4]
      show some (_, kwr (kwr s 60 _ _) 60 _ _) = _
      rw [kwr, kwr_same, kwr, kset_kset]
theorem st_cast : sp_cast Iv := by
  intro st hI v1
  obtain ⟨a, b, x, l, w, C, R⟩ := hI
  have ok := w.1.1
  have hn := ok.n10
  by_cases h1 : nk a v1
  · exact tl1 w C R (by simp only [fX5_cast, C_knot_f C h1, bnd, i00, i10, i01, i11, itT, itF, or_true, true_or, or_false, false_or, bet]) (fun s hs => by simp only [fX6_cast, R_one_f hs h1, bnd, i00, i10, i01, i11, itT, itF, or_true, true_or, or_false, false_or, bet])
  obtain ⟨k, hk, rfl⟩ := inK ok h1
  have o4 := (ok.2.2.2.2 k hk).2.2.2.2
  obtain ⟨g0, g1, g2, g3, g4⟩ := (C.1.2.2.2 k hk).get
  by_cases h4 : a (4 + k) 4 = 0
  · refine tl5 w C R ?_ (fun s hs => ?_)
    · simp only [fX5_cast, C_knot_t C h1, bnd, i00, i10, i01, i11, itT, itF, or_true, true_or, or_false, false_or, bet]
      simp (disch := omega) only [iI_ofNat, iI_add, iI_sub, iI_mul, iI_neg, iI_lt, iI_le, iI_eq, iI_cl, Int.toNat_natCast, g4]
      rw [if_neg (by omega), if_pos (by omega)]
    · simp only [fX6_cast, R_one_t hs h1, bnd, i00, i10, i01, i11, itT, itF, or_true, true_or, or_false, false_or, bet, R_i3 hs.1 ok hk]
      simp (disch := omega) only [iI_ofNat, iI_add, iI_sub, iI_mul, iI_neg, iI_lt, iI_le, iI_eq, iI_cl]
      rw [if_pos h4]
  · refine join (iI (a (4 + k) 3)) R (Wok_a w (Ok_knot (k := k) (j := 4) (z := 0) ok (by omega)) (by rw [ya_row (by omega)]; exact w.1.2)) (SC.yard w C ⟨_, ?_, Fr.yk (k := k) (by omega), C.1.knot ok hk⟩) (fun s hs => SR.row hs ⟨_, ?_, RR.knot (k := k) (j := 3) hs.1 (by omega)⟩)
    · simp only [fX5_cast, C_knot_t C h1, bnd, i00, i10, i01, i11, itT, itF, or_true, true_or, or_false, false_or, bet]
      simp (disch := omega) only [iI_ofNat, iI_add, iI_sub, iI_mul, iI_neg, iI_lt, iI_le, iI_eq, iI_cl, Int.toNat_natCast, g4, kwr_same, up_ne, g3]
      rw [if_neg (by omega), if_neg h4]
    · have hR := R_i3 hs.1 ok hk
      have i4 : ∀ v, fX6_its (iI k) 4 (kwr s 60 (22 + 5 * k + 3) v) = some (iI (a (4 + k) 3), kwr s 60 (22 + 5 * k + 3) v) := fun v => by
        have := @R_its (kwr s 60 (22 + 5 * k + 3) v) k 4 (by omega) (by omega)
        rw [kwr_same, up_ne _ _ (by omega), hs.1.2.2.2.2 k hk 4 (by omega)] at this
        exact this
      simp only [fX6_cast, R_one_t hs h1, bnd, i00, i10, i01, i11, itT, itF, or_true, true_or, or_false, false_or, bet, hR, R_p3 (show k < 10 by omega), i4]
      simp (disch := omega) only [iI_ofNat, iI_add, iI_sub, iI_mul, iI_neg, iI_lt, iI_le, iI_eq, iI_cl]
      rw [if_neg h4]
      rfl
theorem st_hours : sp_hours Iv := by
  intro st hI v1
  obtain ⟨a, b, x, l, w, C, R⟩ := hI
  have ok := w.1.1
  have hb := w.1.2
  have h0 := ok.1
  by_cases h1 : v1 < 1 ∨ 100 < v1
  · exact tl1 w C R (by simp only [fX5_hours, C_in_f h1, bnd, i00, i10, i01, i11, itT, itF, or_true, true_or, or_false, false_or, bet]) (fun s _ => by simp only [fX6_hours, R_in_f h1, bnd, i00, i10, i01, i11, itT, itF, or_true, true_or, or_false, false_or, bet])
  obtain ⟨n, hn1, hn, rfl⟩ := inN1 100 rfl (by omega) h1
  by_cases h2 : a 0 0 + n ≤ 99999
  · obtain ⟨s1, q1, q2, q3⟩ := S_passHours (n := n) C.1 ok (by omega) (by omega)
    have oki := Ok_itr n ok
    refine join (iI (um (itr n a))) R (Wok_a w oki (by rw [(itr_00 n a).1]; exact h2)) (SC.yard w C ⟨s1, ?_, q2, q3⟩) (fun s hs => ?_)
    · simp only [fX5_hours, C_in_t h1, bnd, i00, i10, i01, i11, itT, itF, or_true, true_or, or_false, false_or, bet, C.1.1.1]
      simp (disch := omega) only [iI_ofNat, iI_add, iI_sub, iI_mul, iI_neg, iI_lt, iI_le, iI_eq, iI_cl]
      rw [if_pos (by omega), q1, Option.bind_some, q3.1.2.2]
    · obtain ⟨ρ, p1, p2⟩ := R_passes (st := s) (n := n) hs.1 ok (by omega) (by omega)
      rw [kset_self] at p1
      refine SR.row hs ⟨ρ, ?_, p2⟩
      have hR : RR ((kset s 60 ρ).1 60) (itr n a) := by rw [kset_same]; exact p2
      simp only [fX6_hours, R_in_t h1, bnd, i00, i10, i01, i11, itT, itF, or_true, true_or, or_false, false_or, bet, hs.1.1, p1, R_upSet hR oki]
      simp (disch := omega) only [iI_ofNat, iI_add, iI_sub, iI_mul, iI_neg, iI_lt, iI_le, iI_eq, iI_cl]
      rw [if_pos h2]
  · refine tl5 w C R ?_ (fun s hs => ?_)
    · simp only [fX5_hours, C_in_t h1, bnd, i00, i10, i01, i11, itT, itF, or_true, true_or, or_false, false_or, bet, C.1.1.1]
      simp (disch := omega) only [iI_ofNat, iI_add, iI_sub, iI_mul, iI_neg, iI_lt, iI_le, iI_eq, iI_cl]
      rw [if_neg (by omega)]
    · simp only [fX6_hours, R_in_t h1, bnd, i00, i10, i01, i11, itT, itF, or_true, true_or, or_false, false_or, bet, hs.1.1]
      simp (disch := omega) only [iI_ofNat, iI_add, iI_sub, iI_mul, iI_neg, iI_lt, iI_le, iI_eq, iI_cl]
      rw [if_neg (by omega)]
