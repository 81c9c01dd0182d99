/-! the best of many -/
def bst (h : Nat → Int) (h0 i0 : Int) : Nat → Int × Int
  | 0 => (h0, i0)
  | k + 1 => if h k ≤ (bst h h0 i0 k).1 then bst h h0 i0 k else (h k, k)
theorem bst_rng {h : Nat → Int} {h0 i0 : Int} (hh : ∀ k, 0 ≤ h k ∧ h k ≤ 1000) (a0 : -1 ≤ h0 ∧ h0 ≤ 1000) (a1 : -1 ≤ i0 ∧ i0 ≤ 1000) : ∀ k : Nat, k ≤ 1000 → (-1 ≤ (bst h h0 i0 k).1 ∧ (bst h h0 i0 k).1 ≤ 1000) ∧ (-1 ≤ (bst h h0 i0 k).2 ∧ (bst h h0 i0 k).2 ≤ 1000)
  | 0, _ => ⟨a0, a1⟩
  | k + 1, hk => by
    have ih := bst_rng hh a0 a1 k (by omega)
    have := hh k
    unfold bst
    split
    · exact ih
    · exact ⟨⟨by show -1 ≤ h k; omega, this.2⟩, ⟨by show -1 ≤ (k : Int); omega, by show (k : Int) ≤ 1000; omega⟩⟩
-- kind
def hkd (a : kY) (k : Nat) (i : Nat) : Int := (gone (4 + k) 4 201 (ya a (4 + k) 0 i) : Nat)
theorem hkd_rng (a : kY) (k i : Nat) : 0 ≤ hkd a k i ∧ hkd a k i ≤ 1000 := by
  have := gone_le (4 + k) 4 201 (ya a (4 + k) 0 i)
  unfold hkd
  omega
theorem C_kd {a b : kY} {x : uX} {l : uL} {k : Nat} (w : Wok a b x) (hk : k < nn a) : ∀ (r i : Nat), i + r = 6 → ∀ fuel, r < fuel → ∀ s, CW s a b x l → ∃ s', fX5_kind_22 fuel (iI k) (iI (bst (hkd a k) (-1) 0 i).1) (iI (bst (hkd a k) (-1) 0 i).2) (iI i) s = some (iI (bst (hkd a k) (-1) 0 6).2, s') ∧ Fr fre s s' := by
  intro r
  have ok := w.1.1
  have hb := w.1.2
  have hn := ok.n10
  induction r with
  | zero =>
    intro i hi fuel hf s C
    obtain ⟨f, rfl⟩ : ∃ f, fuel = f + 1 := ⟨fuel - 1, by omega⟩
    have hi' : i = 6 := by omega
    subst hi'
    refine ⟨s, ?_, Fr.rf⟩
    unfold fX5_kind_22
    rw [if_pos (show (6 : Int32) ≤ iI ((6 : Nat) : Int) by decide)]
  | succ r ih =>
    intro i hi fuel hf s C
    obtain ⟨f, rfl⟩ : ∃ f, fuel = f + 1 := ⟨fuel - 1, by omega⟩
    have hr := bst_rng (hkd_rng a k) (h0 := -1) (i0 := 0) (by omega) (by omega) i (by omega)
    have hv := hkd_rng a k i
    have e2 : iI ((i : Int) + 1) = iI ((i + 1 : Nat) : Int) := rfl
    obtain ⟨s1, q1, q2, q3⟩ := C_trial w C
    have okn := Ok_knot (k := k) (j := 0) (z := (i : Int)) ok (by omega)
    obtain ⟨s2, p1, p2⟩ := S_loose (x := k) (q3.knot (j := 0) (z := (i : Int)) ok hk) okn (by rw [nn_ya (by omega)]; exact hk) (by rw [ya_row (by omega)]; omega)
    have f2 : Fr fre s s2 := (q2.tr (Fr16 (Fr.yk (by omega)))).tr (Fr16 p2)
    have e9 : ((gone (4 + k) 4 201 (ya a (4 + k) 0 i) : Nat) : Int) = hkd a k i := rfl
    rw [e9] at p1
    unfold fX5_kind_22
    simp only [q1, Option.bind_some, cn_k (show k < 2147483648 by omega), if_neg (cl_k (show k < 10 by omega)), p1]
    simp (disch := omega) only [iI_ofNat, iI_add, iI_sub, iI_mul, iI_neg, iI_lt, iI_le, iI_eq, iI_cl]
    rw [if_neg (by omega), e2]
    by_cases h9 : hkd a k i ≤ (bst (hkd a k) (-1) 0 i).1
    · have e3 : bst (hkd a k) (-1) 0 (i + 1) = bst (hkd a k) (-1) 0 i := by show (if _ then _ else _) = _; rw [if_pos h9]
      obtain ⟨s3, t1, t2⟩ := ih (i + 1) (by omega) f (by omega) s2 (C.fr w f2)
      rw [e3] at t1
      exact ⟨s3, by rw [if_pos h9]; exact t1, f2.tr t2⟩
    · have e3 : bst (hkd a k) (-1) 0 (i + 1) = (hkd a k i, (i : Int)) := by show (if _ then _ else _) = _; rw [if_neg h9]
      obtain ⟨s3, t1, t2⟩ := ih (i + 1) (by omega) f (by omega) s2 (C.fr w f2)
      rw [e3] at t1
      exact ⟨s3, by rw [if_neg h9]; exact t1, f2.tr t2⟩
theorem R_kd {a b : kY} {x : uX} {t : kM} {k : Nat} (w : Wok a b x) (hk : k < nn a) (ht : RR (t.1 62) a) : ∀ (r i : Nat), i + r = 6 → ∀ fuel, r < fuel → ∀ ρ, RR ρ a → ∃ ρ', fX6_kind_31 fuel (iI k) (iI (bst (hkd a k) (-1) 0 i).2) (iI (bst (hkd a k) (-1) 0 i).1) (iI i) (kset t 60 ρ) = some (iI (bst (hkd a k) (-1) 0 6).2, kset t 60 ρ') ∧ RR ρ' a := by
  intro r
  have ok := w.1.1
  have hb := w.1.2
  have hn := ok.n10
  have eix : (22 : Int32) + (5 : Int32) * iI k + (3 : Int32) = iI ((22 + 5 * k + 3 : Nat) : Int) := by simp only [iI_ofNat, iI_add, iI_mul]; exact congrArg iI (by omega)
  induction r with
  | zero =>
    intro i hi fuel hf ρ h
    obtain ⟨f, rfl⟩ : ∃ f, fuel = f + 1 := ⟨fuel - 1, by omega⟩
    have hi' : i = 6 := by omega
    subst hi'
    refine ⟨ρ, ?_, h⟩
    unfold fX6_kind_31
    rw [if_pos (show (5 : Int32) < iI ((6 : Nat) : Int) by decide)]
  | succ r ih =>
    intro i hi fuel hf ρ h
    obtain ⟨f, rfl⟩ : ∃ f, fuel = f + 1 := ⟨fuel - 1, by omega⟩
    have hr := bst_rng (hkd_rng a k) (h0 := -1) (i0 := 0) (by omega) (by omega) i (by omega)
    have hv := hkd_rng a k i
    have e2 : iI ((i : Int) + 1) = iI ((i + 1 : Nat) : Int) := rfl
    have okn := Ok_knot (k := k) (j := 0) (z := (i : Int)) ok (by omega)
    have h2 := RR.knot (k := k) (j := 0) (z := (i : Int)) h (by omega)
    rw [show fm 0 = 0 from rfl] at h2
    obtain ⟨ρ2, p1, p2⟩ := R_goneIn (st := t) (Ix_k (k := k) (N := nn (ya a (4 + k) 0 i)) (by rw [nn_ya (by omega)]; exact hk) (by rw [nn_ya (by omega)]; exact hn.1)) h2 okn (by rw [ya_row (by omega)]; omega)
    have h3 : RR ρ2 a := RR.row ht ok p2
    have e9 : ((gone (4 + k) 4 201 (ya a (4 + k) 0 i) : Nat) : Int) = hkd a k i := rfl
    rw [e9] at p1
    unfold fX6_kind_31 fX6_kind_71
    simp only [R_p0 (show k < 10 by omega), Option.bind_some, kwr_kset, eix, p1]
    simp (disch := omega) only [iI_ofNat, iI_add, iI_sub, iI_mul, iI_neg, iI_lt, iI_le, iI_eq, iI_cl]
    rw [if_neg (by omega), e2]
    by_cases h9 : hkd a k i ≤ (bst (hkd a k) (-1) 0 i).1
    · have e3 : bst (hkd a k) (-1) 0 (i + 1) = bst (hkd a k) (-1) 0 i := by show (if _ then _ else _) = _; rw [if_pos h9]
      obtain ⟨ρ3, t1, t2⟩ := ih (i + 1) (by omega) f (by omega) ρ2 h3
      rw [e3] at t1
      exact ⟨ρ3, by rw [if_pos h9, if_pos h9]; exact t1, t2⟩
    · have e3 : bst (hkd a k) (-1) 0 (i + 1) = (hkd a k i, (i : Int)) := by show (if _ then _ else _) = _; rw [if_neg h9]
      obtain ⟨ρ3, t1, t2⟩ := ih (i + 1) (by omega) f (by omega) ρ2 h3
      rw [e3] at t1
      exact ⟨ρ3, by rw [if_neg h9, if_neg h9]; exact t1, t2⟩
theorem st_kind : sp_kind Iv := by
  intro st hI v1
  obtain ⟨a, b, x, l, w, C, R⟩ := hI
  have ok := w.1.1
  by_cases h1 : nk a v1
  · exact tl1 w C R (by simp only [fX5_kind, C_knot_f C h1, bnd, i00, i10, i01, i11, itT, itF, or_true, true_or, or_false, false_or, bet]) (fun s hs => by simp only [fX6_kind, R_one_f hs h1, bnd, i00, i10, i01, i11, itT, itF, or_true, true_or, or_false, false_or, bet])
  obtain ⟨k, hk, rfl⟩ := inK ok h1
  refine join (l' := l) (iI (bst (hkd a k) (-1) 0 6).2) R w ?_ (fun s hs => ?_)
  · obtain ⟨s1, q1, q2⟩ := C_kd (l := l) w hk 6 0 (by omega) kfu (by unfold kfu; omega) st C
    refine SC.same w C ⟨s1, ?_, q2⟩
    unfold fX5_kind
    rw [C_knot_t C h1, Option.bind_some, m1]
    simp only [i10, if_false]
    exact q1
  · obtain ⟨t, m1', m2, m3, m4⟩ := R_trial w hs
    obtain ⟨ρ, p1, p2⟩ := R_kd (t := t) w hk m3 6 0 (by omega) kfu (by unfold kfu; omega) (t.1 60) m2.1
    rw [kset_self] at p1
    refine SR.pre m4 ⟨kset t 60 ρ, ?_, m2.row p2, Lo.set (by omega)⟩
    unfold fX6_kind
    rw [R_one_t hs h1, Option.bind_some, m1', m1]
    simp only [i10, if_false, Option.bind_some]
    exact p1
-- move
def hmv (a : kY) (k n : Nat) (i : Nat) : Int := (ct (pu (itr n (ya a (4 + k) 1 i))) 4 : Nat)
theorem hmv_rng (a : kY) (k n i : Nat) : 0 ≤ hmv a k n i ∧ hmv a k n i ≤ 1000 := by
  have := ct_le (pu (itr n (ya a (4 + k) 1 i))) 4
  unfold hmv
  omega
theorem C_mv {a b : kY} {x : uX} {l : uL} {k n : Nat} (w : Wok a b x) (hk : k < nn a) (hnn : n ≤ 1000) : ∀ (r i : Nat), i + r = 4 → ∀ fuel, r < fuel → ∀ s, CW s a b x l → ∃ s', fX5_move_33 fuel (iI k) (iI n) (iI (bst (hmv a k n) (-1) 0 i).1) (iI (bst (hmv a k n) (-1) 0 i).2) (iI i) s = some (iI (bst (hmv a k n) (-1) 0 4).2, s') ∧ Fr fre s s' := by
  intro r
  have ok := w.1.1
  have hb := w.1.2
  have hn := ok.n10
  induction r with
  | zero =>
    intro i hi fuel hf s C
    obtain ⟨f, rfl⟩ : ∃ f, fuel = f + 1 := ⟨fuel - 1, by omega⟩
    have hi' : i = 4 := by omega
    subst hi'
    refine ⟨s, ?_, Fr.rf⟩
    unfold fX5_move_33
    rw [if_pos (show (4 : Int32) ≤ iI ((4 : Nat) : Int) by decide)]
  | succ r ih =>
    intro i hi fuel hf s C
    obtain ⟨f, rfl⟩ : ∃ f, fuel = f + 1 := ⟨fuel - 1, by omega⟩
    have hr := bst_rng (hmv_rng a k n) (h0 := -1) (i0 := 0) (by omega) (by omega) i (by omega)
    have hv := hmv_rng a k n i
    have e2 : iI ((i : Int) + 1) = iI ((i + 1 : Nat) : Int) := rfl
    obtain ⟨s1, q1, q2, q3⟩ := C_trial w C
    have okn := Ok_knot (k := k) (j := 1) (z := (i : Int)) ok (by omega)
    obtain ⟨s2, p1, p2, p3⟩ := S_passHours (n := n) (q3.knot (j := 1) (z := (i : Int)) ok hk) okn hnn (by rw [ya_row (by omega)]; omega)
    have f2 : Fr fre s s2 := (q2.tr (Fr16 (Fr.yk (by omega)))).tr (Fr16 p2)
    have hbc := @S_bitCount s2 (mv (pu (itr n (ya a (4 + k) 1 i))) 4) (mv_1024 _ (by omega))
    have e9 : ((ct (pu (itr n (ya a (4 + k) 1 i))) 4 : Nat) : Int) = hmv a k n i := rfl
    rw [mv_pc _ _ (by omega), e9] at hbc
    have hu := p3.1.2.2
    rw [um_mv (Ok_itr n okn)] at hu
    unfold fX5_move_33
    simp only [q1, Option.bind_some, cn_k (show k < 2147483648 by omega), if_neg (cl_k (show k < 10 by omega)), p1, hu, hbc]
    simp (disch := omega) only [iI_ofNat, iI_add, iI_sub, iI_mul, iI_neg, iI_lt, iI_le, iI_eq, iI_cl]
    rw [if_neg (by omega), e2]
    by_cases h9 : hmv a k n i ≤ (bst (hmv a k n) (-1) 0 i).1
    · have e3 : bst (hmv a k n) (-1) 0 (i + 1) = bst (hmv a k n) (-1) 0 i := by show (if _ then _ else _) = _; rw [if_pos h9]
      obtain ⟨s3, t1, t2⟩ := ih (i + 1) (by omega) f (by omega) s2 (C.fr w f2)
      rw [e3] at t1
      exact ⟨s3, by rw [if_pos h9]; exact t1, f2.tr t2⟩
    · have e3 : bst (hmv a k n) (-1) 0 (i + 1) = (hmv a k n i, (i : Int)) := by show (if _ then _ else _) = _; rw [if_neg h9]
      obtain ⟨s3, t1, t2⟩ := ih (i + 1) (by omega) f (by omega) s2 (C.fr w f2)
      rw [e3] at t1
      exact ⟨s3, by rw [if_neg h9]; exact t1, f2.tr t2⟩
theorem R_mvv {a b : kY} {x : uX} {t : kM} {k n : Nat} (w : Wok a b x) (hk : k < nn a) (hnn : n ≤ 1000) (ht : RR (t.1 62) a) : ∀ (r i : Nat), i + r = 4 → ∀ fuel, r < fuel → ∀ ρ, RR ρ a → ∃ ρ', fX6_move_42 fuel (iI k) (iI n) (iI (bst (hmv a k n) (-1) 0 i).2) (iI (bst (hmv a k n) (-1) 0 i).1) (iI i) (kset t 60 ρ) = some (iI (bst (hmv a k n) (-1) 0 4).2, kset t 60 ρ') ∧ RR ρ' a := by
  intro r
  have ok := w.1.1
  have hb := w.1.2
  have hn := ok.n10
  induction r with
  | zero =>
    intro i hi fuel hf ρ h
    obtain ⟨f, rfl⟩ : ∃ f, fuel = f + 1 := ⟨fuel - 1, by omega⟩
    have hi' : i = 4 := by omega
    subst hi'
    refine ⟨ρ, ?_, h⟩
    unfold fX6_move_42
    rw [if_pos (show (4 : Int32) ≤ iI ((4 : Nat) : Int) by decide)]
  | succ r ih =>
    intro i hi fuel hf ρ h
    obtain ⟨f, rfl⟩ : ∃ f, fuel = f + 1 := ⟨fuel - 1, by omega⟩
    have hr := bst_rng (hmv_rng a k n) (h0 := -1) (i0 := 0) (by omega) (by omega) i (by omega)
    have hv := hmv_rng a k n i
    have e2 : iI ((i : Int) + 1) = iI ((i + 1 : Nat) : Int) := rfl
    have okn := Ok_knot (k := k) (j := 1) (z := (i : Int)) ok (by omega)
    have h2 := RR.knot (k := k) (j := 1) (z := (i : Int)) h (by omega)
    rw [show fm 1 = 1 from rfl] at h2
    obtain ⟨ρ2, p1, p2⟩ := R_passes (st := t) (n := n) h2 okn hnn (by rw [ya_row (by omega)]; omega)
    have oki := Ok_itr n okn
    have hR : RR ((kset t 60 ρ2).1 60) (itr n (ya a (4 + k) 1 i)) := by rw [kset_same]; exact p2
    have hu := R_upSet hR oki
    rw [um_mv oki] at hu
    have hbc := @R_bits (kset t 60 ρ2) (mv (pu (itr n (ya a (4 + k) 1 i))) 4) (mv_1024 _ (by omega))
    have e9 : ((ct (pu (itr n (ya a (4 + k) 1 i))) 4 : Nat) : Int) = hmv a k n i := rfl
    rw [mv_pc _ _ (by omega), e9] at hbc
    obtain ⟨ρ4, r1, r2⟩ := R_move0 (st := t) (c := 62) (ρ := ρ2) (by omega)
    have h3 : RR ρ4 a := RR.row ht ok r2
    unfold fX6_move_42 fX6_move_92
    simp only [R_p1 (show k < 10 by omega), Option.bind_some, kwr_kset, p1, hu, hbc, r1]
    simp (disch := omega) only [iI_ofNat, iI_add, iI_sub, iI_mul, iI_neg, iI_lt, iI_le, iI_eq, iI_cl]
    rw [if_neg (by omega), e2]
    by_cases h9 : hmv a k n i ≤ (bst (hmv a k n) (-1) 0 i).1
    · have e3 : bst (hmv a k n) (-1) 0 (i + 1) = bst (hmv a k n) (-1) 0 i := by show (if _ then _ else _) = _; rw [if_pos h9]
      obtain ⟨ρ3, t1, t2⟩ := ih (i + 1) (by omega) f (by omega) ρ4 h3
      rw [e3] at t1
      exact ⟨ρ3, by rw [if_pos h9, if_pos h9]; exact t1, t2⟩
    · have e3 : bst (hmv a k n) (-1) 0 (i + 1) = (hmv a k n i, (i : Int)) := by show (if _ then _ else _) = _; rw [if_neg h9]
      obtain ⟨ρ3, t1, t2⟩ := ih (i + 1) (by omega) f (by omega) ρ4 h3
      rw [e3] at t1
      exact ⟨ρ3, by rw [if_neg h9, if_neg h9]; exact t1, t2⟩
theorem st_move : sp_move Iv := by
  intro st hI v1 v2
  obtain ⟨a, b, x, l, w, C, R⟩ := hI
  have ok := w.1.1
  by_cases h1 : nk a v1
  · exact tl1 w C R (by simp only [fX5_move, C_knot_f C h1, bnd, i00, i10, i01, i11, itT, itF, or_true, true_or, or_false, false_or, bet]) (fun s hs => by simp only [fX6_move, R_one_f hs h1, bnd, i00, i10, i01, i11, itT, itF, or_true, true_or, or_false, false_or, bet])
  by_cases h2 : v2 < 1 ∨ 100 < v2
  · exact tl1 w C R (by simp only [fX5_move, C_knot_t C h1, C_in_f h2, bnd, i00, i10, i01, i11, itT, itF, or_true, true_or, or_false, false_or, bet]) (fun s hs => by simp only [fX6_move, R_one_t hs h1, R_in_f h2, bnd, i00, i10, i01, i11, itT, itF, or_true, true_or, or_false, false_or, bet])
  obtain ⟨k, hk, rfl⟩ := inK ok h1
  obtain ⟨n, hn1, hn, rfl⟩ := inN1 100 rfl (by omega) h2
  refine join (l' := l) (iI (bst (hmv a k n) (-1) 0 4).2) R w ?_ (fun s hs => ?_)
  · obtain ⟨s1, q1, q2⟩ := C_mv (l := l) (n := n) w hk (by omega) 4 0 (by omega) kfu (by unfold kfu; omega) st C
    refine SC.same w C ⟨s1, ?_, q2⟩
    unfold fX5_move
    rw [C_knot_t C h1, Option.bind_some, C_in_t h2, Option.bind_some, m1]
    simp only [i10, if_false]
    exact q1
  · obtain ⟨t, m1', m2, m3, m4⟩ := R_trial w hs
    obtain ⟨ρ, p1, p2⟩ := R_mvv (t := t) (n := n) w hk (by omega) m3 4 0 (by omega) kfu (by unfold kfu; omega) (t.1 60) m2.1
    rw [kset_self] at p1
    refine SR.pre m4 ⟨kset t 60 ρ, ?_, m2.row p2, Lo.set (by omega)⟩
    unfold fX6_move
    rw [R_one_t hs h1, Option.bind_some, R_in_t h2, Option.bind_some, m1', m1]
    simp only [i10, if_false, Option.bind_some]
    exact p1
