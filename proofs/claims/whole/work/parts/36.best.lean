/-! calm, best, open, firmest -/
theorem bst_0 {h : Nat → Int} {h0 i0 : Int} : bst h h0 i0 0 = (h0, i0) := rfl
theorem iI_n0 : iI ((0 : Nat) : Int) = 0 := rfl
def hca (a : kY) (n : Nat) (i : Nat) : Int := (ct (pf (itr n (ya a 1 i 0))) (nn a) : Nat)
theorem hca_rng {a : kY} (ok : Ok a) (n i : Nat) : 0 ≤ hca a n i ∧ hca a n i ≤ 1000 := by
  have := ct_le (pf (itr n (ya a 1 i 0))) (nn a)
  have := ok.n10
  unfold hca
  omega
theorem C_ca {a b : kY} {x : uX} {l : uL} {n : Nat} (w : Wok a b x) (hnn : n ≤ 1000) : ∀ (r i : Nat), i + r = 12 → ∀ fuel, r < fuel → ∀ s, CW s a b x l → ∃ s', fX5_calm_24 fuel (iI n) (iI (bst (hca a n) (-1) 0 i).1) (iI (bst (hca a n) (-1) 0 i).2) (iI i) s = some (iI (bst (hca a n) (-1) 0 12).2, s') ∧ Fr fre s s' := by
  intro r
  have ok := w.1.1
  have hb := w.1.2
  have hn := ok.n10
  induction r with
  | zero =>
    intro i hi fuel hf s C
    obtain ⟨f, rfl⟩ : ∃ f, fuel = f + 1 := ⟨fuel - 1, by omega⟩
    have hi' : i = 12 := by omega
    subst hi'
    refine ⟨s, ?_, Fr.rf⟩
    unfold fX5_calm_24
    rw [if_pos (show (12 : Int32) ≤ iI ((12 : Nat) : Int) by decide)]
  | succ r ih =>
    intro i hi fuel hf s C
    obtain ⟨f, rfl⟩ : ∃ f, fuel = f + 1 := ⟨fuel - 1, by omega⟩
    have hr := bst_rng (hca_rng ok n) (h0 := -1) (i0 := 0) (by omega) (by omega) i (by omega)
    have hv := hca_rng ok n i
    have e2 : iI ((i : Int) + 1) = iI ((i + 1 : Nat) : Int) := rfl
    obtain ⟨s1, q1, q2, q3⟩ := C_trial w C
    have okn := Ok_wind (i := i) (z := 0) ok (by omega)
    obtain ⟨s2, p1, p2, p3⟩ := S_passHours (n := n) (q3.wind (i := i) (z := 0) ok) okn hnn (by rw [ya_row (by omega)]; omega)
    have f2 : Fr fre s s2 := (q2.tr (Fr16 Fr.y1)).tr (Fr16 p2)
    have oki := Ok_itr n okn
    have hni : nn (itr n (ya a 1 i 0)) = nn a := by rw [nn_itr, nn_ya (by omega)]
    have hfk := S_fastKnots p3 oki
    rw [hni] at hfk
    have hbc := @S_bitCount s2 (mv (pf (itr n (ya a 1 i 0))) (nn a)) (mv_1024 _ hn.1)
    have e9 : ((ct (pf (itr n (ya a 1 i 0))) (nn a) : Nat) : Int) = hca a n i := rfl
    rw [mv_pc _ _ hn.1, e9] at hbc
    have hcl : ¬ ((iI (i : Int)) < 0 ∨ 12 ≤ i) := by simp (disch := omega) only [iI_ofNat, iI_add, iI_sub, iI_mul, iI_neg, iI_lt, iI_le, iI_eq, iI_cl]; omega
    rw [show iI 0 = (0 : Int32) from rfl, show 16 + 1 = 17 from rfl] at p1
    unfold fX5_calm_24
    simp only [q1, bnd, cn_k (show i < 2147483648 by omega), if_neg hcl, p1, hfk, hbc]
    simp (disch := omega) only [iI_ofNat, iI_add, iI_sub, iI_mul, iI_neg, iI_lt, iI_le, iI_eq, iI_cl]
    rw [if_neg (by omega), e2]
    by_cases h9 : hca a n i ≤ (bst (hca a n) (-1) 0 i).1
    · have e3 : bst (hca a n) (-1) 0 (i + 1) = bst (hca a n) (-1) 0 i := by show (if _ then _ else _) = _; rw [if_pos h9]
      obtain ⟨s3, t1, t2⟩ := ih (i + 1) (by omega) f (by omega) s2 (C.fr w f2)
      rw [e3] at t1
      exact ⟨s3, by rw [if_pos h9]; exact t1, f2.tr t2⟩
    · have e3 : bst (hca a n) (-1) 0 (i + 1) = (hca a n i, (i : Int)) := by show (if _ then _ else _) = _; rw [if_neg h9]
      obtain ⟨s3, t1, t2⟩ := ih (i + 1) (by omega) f (by omega) s2 (C.fr w f2)
      rw [e3] at t1
      exact ⟨s3, by rw [if_neg h9]; exact t1, f2.tr t2⟩
theorem R_ca {a b : kY} {x : uX} {t : kM} {n : Nat} (w : Wok a b x) (hnn : n ≤ 1000) (ht : RR (t.1 62) a) : ∀ (r i : Nat), i + r = 12 → ∀ fuel, r < fuel → ∀ ρ, RR ρ a → ∃ ρ', fX6_calm_33 fuel (iI n) (iI (bst (hca a n) (-1) 0 i).2) (iI (bst (hca a n) (-1) 0 i).1) (iI i) (kset t 60 ρ) = some (iI (bst (hca a n) (-1) 0 12).2, kset t 60 ρ') ∧ RR ρ' a := by
  intro r
  have ok := w.1.1
  have hb := w.1.2
  have hn := ok.n10
  induction r with
  | zero =>
    intro i hi fuel hf ρ h
    obtain ⟨f, rfl⟩ : ∃ f, fuel = f + 1 := ⟨fuel - 1, by omega⟩
    have hi' : i = 12 := by omega
    subst hi'
    refine ⟨ρ, ?_, h⟩
    unfold fX6_calm_33
    rw [if_pos (show (12 : Int32) ≤ iI ((12 : Nat) : Int) by decide)]
  | succ r ih =>
    intro i hi fuel hf ρ h
    obtain ⟨f, rfl⟩ : ∃ f, fuel = f + 1 := ⟨fuel - 1, by omega⟩
    have hr := bst_rng (hca_rng ok n) (h0 := -1) (i0 := 0) (by omega) (by omega) i (by omega)
    have hv := hca_rng ok n i
    have e2 : iI ((i : Int) + 1) = iI ((i + 1 : Nat) : Int) := rfl
    have okn := Ok_wind (i := i) (z := 0) ok (by omega)
    have h2 := RR.wind (m := i) (z := 0) h (by omega)
    obtain ⟨ρ2, p1, p2⟩ := R_passes (st := t) (n := n) h2 okn hnn (by rw [ya_row (by omega)]; omega)
    have oki := Ok_itr n okn
    have hni : nn (itr n (ya a 1 i 0)) = nn a := by rw [nn_itr, nn_ya (by omega)]
    have hR : RR ((kset t 60 ρ2).1 60) (itr n (ya a 1 i 0)) := by rw [kset_same]; exact p2
    have hu := R_fastSet hR oki
    rw [hni] at hu
    have hbc := @R_bits (kset t 60 ρ2) (mv (pf (itr n (ya a 1 i 0))) (nn a)) (mv_1024 _ hn.1)
    have e9 : ((ct (pf (itr n (ya a 1 i 0))) (nn a) : Nat) : Int) = hca a n i := rfl
    rw [mv_pc _ _ hn.1, e9] at hbc
    obtain ⟨ρ4, r1, r2⟩ := R_move0 (st := t) (c := 62) (ρ := ρ2) (by omega)
    have h3 : RR ρ4 a := RR.row ht ok r2
    have ei : (2 : Int32) + iI i = iI ((2 + i : Nat) : Int) := by rw [iI_ofNat, iI_add]; exact congrArg iI (by omega)
    have hcl : ¬ ((iI ((2 + i : Nat) : Int)) < 0 ∨ 72 ≤ 2 + i) := by simp (disch := omega) only [iI_ofNat, iI_add, iI_sub, iI_mul, iI_neg, iI_lt, iI_le, iI_eq, iI_cl]; omega
    rw [show iI 0 = (0 : Int32) from rfl] at p1
    unfold fX6_calm_33 fX6_calm_85
    simp only [ei, cn_k (show 2 + i < 2147483648 by omega), if_neg hcl, bnd, kwr_kset, p1, hu, hbc, r1]
    simp (disch := omega) only [iI_ofNat, iI_add, iI_sub, iI_mul, iI_neg, iI_lt, iI_le, iI_eq, iI_cl]
    rw [if_neg (by omega), e2]
    by_cases h9 : hca a n i ≤ (bst (hca a n) (-1) 0 i).1
    · have e3 : bst (hca a n) (-1) 0 (i + 1) = bst (hca a n) (-1) 0 i := by show (if _ then _ else _) = _; rw [if_pos h9]
      obtain ⟨ρ3, t1, t2⟩ := ih (i + 1) (by omega) f (by omega) ρ4 h3
      rw [e3] at t1
      exact ⟨ρ3, by rw [if_pos h9, if_pos h9]; exact t1, t2⟩
    · have e3 : bst (hca a n) (-1) 0 (i + 1) = (hca a n i, (i : Int)) := by show (if _ then _ else _) = _; rw [if_neg h9]
      obtain ⟨ρ3, t1, t2⟩ := ih (i + 1) (by omega) f (by omega) ρ4 h3
      rw [e3] at t1
      exact ⟨ρ3, by rw [if_neg h9, if_neg h9]; exact t1, t2⟩
theorem st_calm : sp_calm Iv := by
  intro st hI v1
  obtain ⟨a, b, x, l, w, C, R⟩ := hI
  have ok := w.1.1
  by_cases h2 : v1 < 1 ∨ 100 < v1
  · exact tl1 w C R (by simp only [fX5_calm, C_in_f h2, bnd, i00, i10, i01, i11, itT, itF, or_true, true_or, or_false, false_or, bet]) (fun s hs => by simp only [fX6_calm, R_in_f h2, bnd, i00, i10, i01, i11, itT, itF, or_true, true_or, or_false, false_or, bet])
  obtain ⟨n, hn1, hn, rfl⟩ := inN1 100 rfl (by omega) h2
  refine join (l' := l) (iI (bst (hca a n) (-1) 0 12).2) R w ?_ (fun s hs => ?_)
  · obtain ⟨s1, q1, q2⟩ := C_ca (l := l) (n := n) w (by omega) 12 0 (by omega) kfu (by unfold kfu; omega) st C
    refine SC.same w C ⟨s1, ?_, q2⟩
    unfold fX5_calm
    rw [C_in_t h2, Option.bind_some, m1]
    simp only [i10, itF]
    exact q1
  · obtain ⟨t, m1', m2, m3, m4⟩ := R_trial w hs
    obtain ⟨ρ, p1, p2⟩ := R_ca (t := t) (n := n) w (by omega) m3 12 0 (by omega) kfu (by unfold kfu; omega) (t.1 60) m2.1
    rw [kset_self] at p1
    refine SR.pre m4 ⟨kset t 60 ρ, ?_, m2.row p2, Lo.set (by omega)⟩
    unfold fX6_calm
    rw [R_in_t h2, Option.bind_some, m1', m1]
    simp only [i10, itF, bnd]
    exact p1
-- best
def hbe (a : kY) (m : Nat) (i : Nat) : Int := (gone 3 m 201 (ya a (4 + i) 2 (Cl (a (4 + i) 2 + Tg (a (4 + i))))) : Nat)
theorem hbe_rng (a : kY) (m i : Nat) : 0 ≤ hbe a m i ∧ hbe a m i ≤ 1000 := by
  have := gone_le 3 m 201 (ya a (4 + i) 2 (Cl (a (4 + i) 2 + Tg (a (4 + i)))))
  unfold hbe
  omega
theorem C_be {a b : kY} {x : uX} {l : uL} {m : Nat} {g : Int} (w : Wok a b x) (hm : m < 4) (hg : 0 ≤ g ∧ g ≤ 1000) : ∀ (r i : Nat), i + r = nn a → ∀ fuel, r < fuel → ∀ s, CW s a b x l → ∃ s', fX5_best_39 fuel (iI m) (iI (bst (hbe a m) g (-1) i).1) (iI (bst (hbe a m) g (-1) i).2) (iI i) s = (if 0 ≤ iI (bst (hbe a m) g (-1) (nn a)).2 then some (iI (bst (hbe a m) g (-1) (nn a)).2, s') else fX5_tell (-1000000004) s') ∧ Fr fre s s' := by
  intro r
  have ok := w.1.1
  have hb := w.1.2
  have hn := ok.n10
  induction r with
  | zero =>
    intro i hi fuel hf s C
    obtain ⟨f, rfl⟩ : ∃ f, fuel = f + 1 := ⟨fuel - 1, by omega⟩
    have hi' : i = nn a := by omega
    subst hi'
    refine ⟨s, ?_, Fr.rf⟩
    have hc : iI (a 0 1) ≤ iI (nn a) := by rw [iI_le (by omega) (by omega) (by omega) (by omega)]; omega
    unfold fX5_best_39
    rw [C.1.1.2.1, if_pos hc, bet]
  | succ r ih =>
    intro i hi fuel hf s C
    obtain ⟨f, rfl⟩ : ∃ f, fuel = f + 1 := ⟨fuel - 1, by omega⟩
    have hr := bst_rng (hbe_rng a m) (h0 := g) (i0 := -1) (by omega) (by omega) i (by omega)
    have hv := hbe_rng a m i
    have e2 : iI (i : Int) + 1 = iI ((i + 1 : Nat) : Int) := by rw [iI_ofNat, iI_add]; rfl
    obtain ⟨s1, q1, q2, q3⟩ := C_trial w C
    have hc9 := Cl_rng (a (4 + i) 2 + Tg (a (4 + i)))
    have okn := Ok_knot (k := i) (j := 2) (z := Cl (a (4 + i) 2 + Tg (a (4 + i)))) ok (by omega)
    obtain ⟨s2, p1, p2⟩ := S_fallen (m := m) (q3.knot (k := i) (j := 2) (z := Cl (a (4 + i) 2 + Tg (a (4 + i)))) ok (by omega)) okn hm (by rw [ya_row (by omega)]; omega)
    have f2 : Fr fre s s2 := (q2.tr (Fr16 (Fr.yk (k := i) (by omega)))).tr (Fr16 p2)
    have e9 : ((gone 3 m 201 (ya a (4 + i) 2 (Cl (a (4 + i) 2 + Tg (a (4 + i))))) : Nat) : Int) = hbe a m i := rfl
    rw [e9] at p1
    have hc : ¬ (iI (a 0 1) ≤ iI (i : Int)) := by rw [iI_le (by omega) (by omega) (by omega) (by omega)]; omega
    unfold fX5_best_39
    simp only [C.1.1.2.1, if_neg hc, q1, bnd, cn_k (show i < 2147483648 by omega), if_neg (cl_k (show i < 10 by omega)), S_beTeased (q3.2.2.2 i (by omega)) (ok.2.2.2.2 i (by omega)), p1, e2]
    simp only [iI_le (show -2147483648 ≤ hbe a m i by omega) (show hbe a m i < 2147483648 by omega) (show -2147483648 ≤ (bst (hbe a m) g (-1) i).1 by omega) (show (bst (hbe a m) g (-1) i).1 < 2147483648 by omega)]
    by_cases h9 : hbe a m i ≤ (bst (hbe a m) g (-1) i).1
    · have e3 : bst (hbe a m) g (-1) (i + 1) = bst (hbe a m) g (-1) i := by show (if _ then _ else _) = _; rw [if_pos h9]
      obtain ⟨s3, t1, t2⟩ := ih (i + 1) (by omega) f (by omega) s2 (C.fr w f2)
      rw [e3] at t1
      exact ⟨s3, by rw [if_pos h9]; exact t1, f2.tr t2⟩
    · have e3 : bst (hbe a m) g (-1) (i + 1) = (hbe a m i, (i : Int)) := by show (if _ then _ else _) = _; rw [if_neg h9]
      obtain ⟨s3, t1, t2⟩ := ih (i + 1) (by omega) f (by omega) s2 (C.fr w f2)
      rw [e3] at t1
      exact ⟨s3, by rw [if_neg h9]; exact t1, f2.tr t2⟩
theorem R_be {a b : kY} {x : uX} {t : kM} {m : Nat} {g : Int} (w : Wok a b x) (hm : m < 4) (hg : 0 ≤ g ∧ g ≤ 1000) (ht : RR (t.1 62) a) : ∀ (r i : Nat), i + r = nn a → ∀ fuel, r < fuel → ∀ ρ, RR ρ a → ∃ ρ', fX6_best_41 fuel (iI m) (iI (bst (hbe a m) g (-1) i).2) (iI (bst (hbe a m) g (-1) i).1) (iI i) (kset t 60 ρ) = (if 0 ≤ iI (bst (hbe a m) g (-1) (nn a)).2 then some (iI (bst (hbe a m) g (-1) (nn a)).2, kset t 60 ρ') else fX6_finds (-1000000004) (kset t 60 ρ')) ∧ RR ρ' a := by
  intro r
  have ok := w.1.1
  have hb := w.1.2
  have hn := ok.n10
  have eix : (14 : Int32) + (2 : Int32) * iI m + (1 : Int32) = iI ((14 + 2 * m + 1 : Nat) : Int) := by simp only [iI_ofNat, iI_add, iI_mul]; exact congrArg iI (by omega)
  induction r with
  | zero =>
    intro i hi fuel hf ρ h
    obtain ⟨f, rfl⟩ : ∃ f, fuel = f + 1 := ⟨fuel - 1, by omega⟩
    have hi' : i = nn a := by omega
    subst hi'
    refine ⟨ρ, ?_, h⟩
    have hc : iI (a 0 1) ≤ iI (nn a) := by rw [iI_le (by omega) (by omega) (by omega) (by omega)]; omega
    unfold fX6_best_41
    rw [kset_same, h.2.1, if_pos hc, bet]
  | succ r ih =>
    intro i hi fuel hf ρ h
    obtain ⟨f, rfl⟩ : ∃ f, fuel = f + 1 := ⟨fuel - 1, by omega⟩
    have hr := bst_rng (hbe_rng a m) (h0 := g) (i0 := -1) (by omega) (by omega) i (by omega)
    have hv := hbe_rng a m i
    have e2 : iI (i : Int) + 1 = iI ((i + 1 : Nat) : Int) := by rw [iI_ofNat, iI_add]; rfl
    have hc9 := Cl_rng (a (4 + i) 2 + Tg (a (4 + i)))
    have okn := Ok_knot (k := i) (j := 2) (z := Cl (a (4 + i) 2 + Tg (a (4 + i)))) ok (by omega)
    obtain ⟨ρ1, o1, o2⟩ := R_teases (st := t) h ok (k := i) (by omega)
    obtain ⟨ρ2, p1, p2⟩ := R_goneIn (st := t) (Ix_m (m := m) hm) o2 okn (by rw [ya_row (by omega)]; omega)
    have h3 : RR ρ2 a := RR.row ht ok p2
    have e9 : ((gone 3 m 201 (ya a (4 + i) 2 (Cl (a (4 + i) 2 + Tg (a (4 + i))))) : Nat) : Int) = hbe a m i := rfl
    rw [e9] at p1
    have hc : ¬ (iI (a 0 1) ≤ iI (i : Int)) := by rw [iI_le (by omega) (by omega) (by omega) (by omega)]; omega
    unfold fX6_best_41 fX6_best_84
    simp only [kset_same, h.2.1, if_neg hc, o1, bnd, eix, p1, e2]
    simp only [iI_le (show -2147483648 ≤ hbe a m i by omega) (show hbe a m i < 2147483648 by omega) (show -2147483648 ≤ (bst (hbe a m) g (-1) i).1 by omega) (show (bst (hbe a m) g (-1) i).1 < 2147483648 by omega)]
    by_cases h9 : hbe a m i ≤ (bst (hbe a m) g (-1) i).1
    · have e3 : bst (hbe a m) g (-1) (i + 1) = bst (hbe a m) g (-1) i := by show (if _ then _ else _) = _; rw [if_pos h9]
      obtain ⟨ρ3, t1, t2⟩ := ih (i + 1) (by omega) f (by omega) ρ2 h3
      rw [e3] at t1
      exact ⟨ρ3, by rw [if_pos h9, if_pos h9]; exact t1, t2⟩
    · have e3 : bst (hbe a m) g (-1) (i + 1) = (hbe a m i, (i : Int)) := by show (if _ then _ else _) = _; rw [if_neg h9]
      obtain ⟨ρ3, t1, t2⟩ := ih (i + 1) (by omega) f (by omega) ρ2 h3
      rw [e3] at t1
      exact ⟨ρ3, by rw [if_neg h9, if_neg h9]; exact t1, t2⟩
theorem st_best : sp_best Iv := by
  intro st hI v1
  obtain ⟨a, b, x, l, w, C, R⟩ := hI
  have ok := w.1.1
  have hb := w.1.2
  have hn := ok.n10
  by_cases h1 : v1 < 0 ∨ 3 < v1
  · exact tl1 w C R (by simp only [fX5_best, C_mast_f h1, bnd, i00, i10, i01, i11, itT, itF, or_true, true_or, or_false, false_or, bet]) (fun s hs => by simp only [fX6_best, R_mast_f h1, bnd, i00, i10, i01, i11, itT, itF, or_true, true_or, or_false, false_or, bet])
  obtain ⟨m, hm, rfl⟩ := inN 3 rfl (by omega) h1
  have hgl := gone_le 3 m 201 a
  have eix : (14 : Int32) + (2 : Int32) * iI m + (1 : Int32) = iI ((14 + 2 * m + 1 : Nat) : Int) := by simp only [iI_ofNat, iI_add, iI_mul]; exact congrArg iI (by omega)
  obtain ⟨s1, q1, q2, q3⟩ := C_trial w C
  obtain ⟨s2, p1, p2⟩ := S_fallen (m := m) q3 ok (by omega) (by omega)
  have f2 := q2.tr (Fr16 p2)
  obtain ⟨s3, k1, k2⟩ := C_be (l := l) (m := m) (g := ((gone 3 m 201 a : Nat) : Int)) w (by omega) (by omega) (nn a) 0 (by omega) kfu (by unfold kfu; omega) s2 (C.fr w f2)
  have f3 := f2.tr k2
  have ce : fX5_best (iI m) st = (if 0 ≤ iI (bst (hbe a m) ((gone 3 m 201 a : Nat) : Int) (-1) (nn a)).2 then some (iI (bst (hbe a m) ((gone 3 m 201 a : Nat) : Int) (-1) (nn a)).2, s3) else fX5_tell (-1000000004) s3) := by
    unfold fX5_best
    rw [C_mast_t h1, Option.bind_some, q1, m1]
    simp only [i10, itF, bnd, p1]
    simp only [bst_0, iI_n0] at k1
    exact k1
  have re : ∀ s, RW s a b x l → ∃ t ρ, fX6_best (iI m) s = (if 0 ≤ iI (bst (hbe a m) ((gone 3 m 201 a : Nat) : Int) (-1) (nn a)).2 then some (iI (bst (hbe a m) ((gone 3 m 201 a : Nat) : Int) (-1) (nn a)).2, kset t 60 ρ) else fX6_finds (-1000000004) (kset t 60 ρ)) ∧ RW (kset t 60 ρ) a b x l ∧ Lo s (kset t 60 ρ) := fun s hs => by
    obtain ⟨t, m1', m2, m3, m4⟩ := R_trial w hs
    obtain ⟨ρ, r1, r2⟩ := R_goneIn (st := t) (Ix_m (m := m) (by omega)) m2.1 ok (by omega)
    rw [kset_self] at r1
    obtain ⟨ρ2, k3, k4⟩ := R_be (t := t) (m := m) (g := ((gone 3 m 201 a : Nat) : Int)) w (by omega) (by omega) m3 (nn a) 0 (by omega) kfu (by unfold kfu; omega) ρ (RR.row m3 ok r2)
    refine ⟨t, ρ2, ?_, m2.row k4, m4.tr (Lo.set (by omega))⟩
    unfold fX6_best
    rw [R_mast_t h1, Option.bind_some, m1', m1]
    simp only [i10, itF, bnd, eix, r1]
    simp only [bst_0, iI_n0] at k3
    exact k3
  by_cases h9 : 0 ≤ iI (bst (hbe a m) ((gone 3 m 201 a : Nat) : Int) (-1) (nn a)).2
  · rw [if_pos h9] at ce
    refine join (l' := l) (iI (bst (hbe a m) ((gone 3 m 201 a : Nat) : Int) (-1) (nn a)).2) R w (SC.same w C ⟨s3, ce, f3⟩) (fun s hs => ?_)
    obtain ⟨t, ρ, e1, e2, e3⟩ := re s hs
    rw [if_pos h9] at e1
    exact ⟨_, e1, e2, e3⟩
  · rw [if_neg h9] at ce
    refine join (l' := l) (-1000000004 : Int32) R (Wok_xt (i := 3) w) (SC.pre (Hi_fre f3) ?_) (fun s hs => ?_)
    · rw [ce]; exact C_tell w 3 (e := -1000000004) (by omega) (by decide) (C.fr w f3)
    · obtain ⟨t, ρ, e1, e2, e3⟩ := re s hs
      rw [if_neg h9] at e1
      refine SR.pre e3 ?_
      rw [e1]; exact R_finds 3 (e := -1000000004) (by omega) (by decide) e2
