/-! the hour of the reference -/
def bm (a : kY) (m : Nat) : kY := fun i j => if 4 ≤ i ∧ i < 4 + nn a ∧ j = 4 ∧ a i 1 < m then f1 a (wn a) (i - 4) else if i = 3 ∧ j < m ∧ cnt (lg a (wn a)) j (nn a) = 0 then 0 else a i j
theorem bm_lo {a : kY} {m i : Nat} (h : i < 3) : bm a m i = a i := by funext j; unfold bm; rw [if_neg (by omega), if_neg (by omega)]
theorem bm_j {a : kY} {m i j : Nat} (h : j ≠ 4) : bm a m (4 + i) j = a (4 + i) j := by unfold bm; rw [if_neg (by omega), if_neg (by omega)]
theorem bm_4 {a : kY} {m i : Nat} (h : i < nn a) : bm a m (4 + i) 4 = if a (4 + i) 1 < m then f1 a (wn a) i else a (4 + i) 4 := by
  unfold bm
  by_cases e : a (4 + i) 1 < m
  · rw [if_pos ⟨by omega, by omega, rfl, e⟩, if_pos e, show 4 + i - 4 = i by omega]
  · rw [if_neg (fun q => e q.2.2.2), if_neg (by omega), if_neg e]
theorem bm_3 {a : kY} {m j : Nat} : bm a m 3 j = if j < m ∧ cnt (lg a (wn a)) j (nn a) = 0 then 0 else a 3 j := by
  unfold bm
  rw [if_neg (by omega)]
  by_cases e : j < m ∧ cnt (lg a (wn a)) j (nn a) = 0
  · rw [if_pos ⟨rfl, e⟩, if_pos e]
  · rw [if_neg (fun q => e q.2), if_neg e]
theorem bm_same {a : kY} {m i : Nat} (h : ¬ a (4 + i) 1 < m) : bm a m (4 + i) = a (4 + i) := by
  funext j
  unfold bm; rw [if_neg (fun q => h q.2.2.2), if_neg (by omega)]
theorem nn_bm {a : kY} {m : Nat} : nn (bm a m) = nn a := by unfold nn; rw [bm_lo (by omega)]
theorem wn_bm {a : kY} {m : Nat} : wn (bm a m) = wn a := by unfold wn; rw [bm_lo (by omega), bm_lo (by omega)]
theorem Ok_bm {a : kY} {m : Nat} (ok : Ok a) : Ok (bm a m) := by
  refine ⟨by rw [bm_lo (by omega)]; exact ok.1, by rw [bm_lo (by omega)]; exact ok.2.1, by rw [bm_lo (by omega)]; exact ok.2.2.1, fun j hj => ⟨by rw [bm_lo (by omega)]; exact (ok.2.2.2.1 j hj).1, ?_⟩, fun i hi => ?_⟩
  · have := (ok.2.2.2.1 j hj).2
    rw [bm_3]
    split <;> omega
  · rw [nn_bm] at hi
    obtain ⟨o0, o1, o2, o3, o4⟩ := ok.2.2.2.2 i hi
    have hf := f1_rng (w := wn a) ok hi
    refine ⟨by rw [bm_j (by omega)]; exact o0, by rw [bm_j (by omega)]; exact o1, by rw [bm_j (by omega)]; exact o2, by rw [bm_j (by omega)]; exact o3, ?_⟩
    rw [bm_4 hi]
    split <;> omega
theorem cnt_bm {a : kY} {m : Nat} : cnt (bm a m) m (nn a) = cnt a m (nn a) := by
  refine cnt_cong (fun i hi => ?_)
  by_cases e : a (4 + i) 1 < m
  · rw [bm_j (by omega)]
    exact propext ⟨fun q => absurd q.1 (by omega), fun q => absurd q.1 (by omega)⟩
  · rw [bm_same e]
theorem sn_bm {a : kY} {m : Nat} {w : Int} : sn (bm a m) m w = sn a m w := by
  unfold sn
  rw [nn_bm, cnt_bm, bm_lo (by omega)]
theorem pg_bm {a : kY} {m i : Nat} (h : a (4 + i) 1 = m) : pg (bm a m) m i = decide (a (4 + i) 4 = 1 ∧ gv a i (wn a) = 1) := by
  unfold pg gv hh
  rw [nn_bm, wn_bm, sn_bm, bm_same (by omega), h, cnt_bm, show ((m : Int)).toNat = m by omega]
  simp
theorem pg_no {a : kY} {m i : Nat} (h : a (4 + i) 1 ≠ m) : pg (bm a m) m i = false := by
  unfold pg
  rw [bm_j (by omega)]
  simp [h]
/-- the mast's knots after its pull -/
theorem pl_kn {a : kY} {m i : Nat} (ok : Ok a) (hi : i < nn a) (hu : a 3 m = 1) : plk (bm a m) (pg (bm a m) m) (nn a) (4 + i) 4 = if a (4 + i) 1 < ((m + 1 : Nat) : Int) then f1 a (wn a) i else a (4 + i) 4 := by
  have e0 : 4 + i - 4 = i := by omega
  unfold plk
  rw [e0]
  by_cases e : a (4 + i) 1 = m
  · rw [pg_bm e, bm_same (by omega), if_pos (show a (4 + i) 1 < ((m + 1 : Nat) : Int) by omega)]
    unfold f1
    rw [e, show ((m : Int)).toNat = m by omega]
    by_cases h1 : a (4 + i) 4 = 1 ∧ gv a i (wn a) = 1
    · rw [if_pos ⟨by omega, by omega, rfl, by simp [h1]⟩, if_pos ⟨h1.1, hu, h1.2⟩]
    · rw [if_neg (fun q => h1 (of_decide_eq_true q.2.2.2)), if_neg (fun q => h1 ⟨q.1, q.2.2⟩)]
  · rw [pg_no e, if_neg (by simp), bm_4 hi]
    by_cases h1 : a (4 + i) 1 < m
    · rw [if_pos h1, if_pos (by omega)]
    · rw [if_neg h1, if_neg (by omega)]
theorem lg_kn {a : kY} {w : Int} {i : Nat} (hi : i < nn a) : lg a w (4 + i) = va_up (a (4 + i)) 4 (f1 a w i) := lgk_in hi
theorem cnt_pl {a : kY} {m : Nat} (ok : Ok a) (hu : a 3 m = 1) : cnt (plk (bm a m) (pg (bm a m) m) (nn a)) m (nn a) = cnt (lg a (wn a)) m (nn a) := by
  refine cnt_cong (fun i hi => ?_)
  rw [plk_j (by omega), bm_j (by omega), pl_kn ok hi hu, lg_kn hi, up_ne _ _ (by omega), up_eq]
  by_cases e : a (4 + i) 1 = m
  · rw [if_pos (by omega)]
  · exact propext ⟨fun q => absurd q.1 e, fun q => absurd q.1 e⟩
theorem bm_step {a : kY} {m : Nat} {ρ : Nat → Int32} (ok : Ok a) (hm : m < 4) (hu : a 3 m = 1) (h : RR ρ (pl (bm a m) m)) : RR ρ (bm a (m + 1)) := by
  have hc := cnt_pl ok hu
  unfold pl at h
  rw [nn_bm, hc] at h
  by_cases h9 : cnt (lg a (wn a)) m (nn a) = 0
  · rw [if_pos h9] at h
    refine h.cong ?_ ?_ ?_ ?_ ?_
    · rw [ya_row (by omega), plk_lo (by omega), bm_lo (by omega), bm_lo (by omega)]
    · rw [ya_row (by omega), plk_lo (by omega), bm_lo (by omega), bm_lo (by omega)]
    · intro i hi; rw [ya_row (by omega), plk_lo (by omega), bm_lo (by omega), bm_lo (by omega)]
    · intro i hi
      refine ⟨by rw [ya_row (by omega), plk_lo (by omega), bm_lo (by omega), bm_lo (by omega)], ?_⟩
      rw [ya_eq, plk_lo (by omega), bm_3, bm_3]
      by_cases e : i = m
      · subst e; rw [if_pos ⟨by omega, h9⟩, if_pos ⟨rfl, rfl⟩]
      · rw [if_neg (show ¬ (3 = 3 ∧ i = m) by omega)]
        by_cases e2 : i < m ∧ cnt (lg a (wn a)) i (nn a) = 0
        · rw [if_pos e2, if_pos ⟨by omega, e2.2⟩]
        · rw [if_neg e2, if_neg (fun q => e2 ⟨by omega, q.2⟩)]
    · intro i hi j hj
      have hi' : i < nn a := by unfold nn at hi ⊢; rw [ya_row (by omega), plk_lo (by omega), bm_lo (by omega)] at hi; exact hi
      rw [ya_row (by omega)]
      by_cases e : j = 4
      · subst e; rw [pl_kn ok hi' hu, bm_4 hi']
      · rw [plk_j e, bm_j e, bm_j e]
  · rw [if_neg h9] at h
    refine h.cong ?_ ?_ ?_ ?_ ?_
    · rw [plk_lo (by omega), bm_lo (by omega), bm_lo (by omega)]
    · rw [plk_lo (by omega), bm_lo (by omega), bm_lo (by omega)]
    · intro i hi; rw [plk_lo (by omega), bm_lo (by omega), bm_lo (by omega)]
    · intro i hi
      refine ⟨by rw [plk_lo (by omega), bm_lo (by omega), bm_lo (by omega)], ?_⟩
      rw [plk_lo (by omega), bm_3, bm_3]
      by_cases e2 : i < m ∧ cnt (lg a (wn a)) i (nn a) = 0
      · rw [if_pos e2, if_pos ⟨by omega, e2.2⟩]
      · rw [if_neg e2, if_neg (fun q => by
          have : i = m ∨ i < m := by omega
          rcases this with e3 | e3
          · subst e3; exact h9 q.2
          · exact e2 ⟨e3, q.2⟩)]
    · intro i hi j hj
      have hi' : i < nn a := by unfold nn at hi ⊢; rw [plk_lo (by omega), bm_lo (by omega)] at hi; exact hi
      by_cases e : j = 4
      · subst e; rw [pl_kn ok hi' hu, bm_4 hi']
      · rw [plk_j e, bm_j e, bm_j e]
theorem bm_skip {a : kY} {m : Nat} {ρ : Nat → Int32} (ok : Ok a) (hm : m < 4) (hu : a 3 m = 0) (h : RR ρ (bm a m)) : RR ρ (bm a (m + 1)) := by
  refine h.cong ?_ ?_ ?_ ?_ ?_
  · rw [bm_lo (by omega), bm_lo (by omega)]
  · rw [bm_lo (by omega), bm_lo (by omega)]
  · intro i hi; rw [bm_lo (by omega), bm_lo (by omega)]
  · intro i hi
    refine ⟨by rw [bm_lo (by omega), bm_lo (by omega)], ?_⟩
    rw [bm_3, bm_3]
    by_cases e2 : i < m ∧ cnt (lg a (wn a)) i (nn a) = 0
    · rw [if_pos e2, if_pos ⟨by omega, e2.2⟩]
    · rw [if_neg e2]
      by_cases e3 : i = m
      · subst e3; rw [hu]; split <;> rfl
      · rw [if_neg (fun q => e2 ⟨by omega, q.2⟩)]
  · intro i hi j hj
    rw [nn_bm] at hi
    by_cases e : j = 4
    · subst e
      rw [bm_4 hi, bm_4 hi]
      by_cases e2 : a (4 + i) 1 = m
      · rw [if_pos (by omega), if_neg (by omega)]
        unfold f1
        rw [if_neg (fun q => by have := q.2.1; rw [e2, show ((m : Int)).toNat = m by omega] at this; omega)]
      · by_cases e3 : a (4 + i) 1 < m
        · rw [if_pos e3, if_pos (by omega)]
        · rw [if_neg e3, if_neg (by omega)]
    · rw [bm_j e, bm_j e]
theorem bm_end {a : kY} {ρ : Nat → Int32} (ok : Ok a) (h : RR ρ (bm a 4)) : RR ρ (dmk (lg a (wn a)) 4) := by
  refine h.cong ?_ ?_ ?_ ?_ ?_
  · rw [bm_lo (by omega), dmk_ne (by omega), lg, lgk_lo (by omega)]
  · rw [bm_lo (by omega), dmk_ne (by omega), lg, lgk_lo (by omega)]
  · intro i hi; rw [bm_lo (by omega), dmk_ne (by omega), lg, lgk_lo (by omega)]
  · intro i hi
    refine ⟨by rw [bm_lo (by omega), dmk_ne (by omega), lg, lgk_lo (by omega)], ?_⟩
    rw [bm_3]
    unfold dmk
    rw [nn_lg]
    by_cases e : i < 4 ∧ cnt (lg a (wn a)) i (nn a) = 0
    · rw [if_pos e, if_pos ⟨rfl, e⟩]
    · rw [if_neg e, if_neg (fun q => e q.2), lg, lgk_lo (by omega)]
  · intro i hi j hj
    rw [nn_bm] at hi
    have o1 := (ok.2.2.2.2 i hi).2.1
    rw [dmk_ne (by omega), lg_kn hi]
    by_cases e : j = 4
    · subst e; rw [up_eq, bm_4 hi, if_pos (by omega)]
    · rw [up_ne _ _ e, bm_j e]
theorem R_oh30 {st : kM} {b : kY} {w : Int} (ok : Ok b) (hw : w = wn b) (hh0 : b 0 0 < 2000000000) : ∀ (r k : Nat), k + r = nn b → ∀ fuel, r < fuel → ∀ ρ, RR ρ (skk b w k) → ∃ ρ', fX6_oneHour_30 fuel (iI k) (kset st 60 ρ) = some (kset st 60 ρ') ∧ RR ρ' (ya (skk b w (nn b)) 0 0 (b 0 0 + 1)) := by
  intro r
  subst hw
  have hn := ok.n10
  have hw9 := Ok_wn ok
  have hb0 := ok.1
  induction r with
  | zero =>
    intro k hk fuel hf ρ h
    obtain ⟨f, rfl⟩ : ∃ f, fuel = f + 1 := ⟨fuel - 1, by omega⟩
    have hk' : k = nn b := by omega
    subst hk'
    unfold fX6_oneHour_30
    rw [kset_same, h.1, h.2.1, skk_lo (by omega)]
    simp only [Option.bind_some, kwr_kset]
    simp only [iI_ofNat]
    simp (disch := omega) only [iI_ofNat, iI_add, iI_sub, iI_mul, iI_neg, iI_lt, iI_le, iI_eq, iI_cl]
    rw [if_pos (by omega)]
    exact ⟨_, rfl, RR.hour h⟩
  | succ r ih =>
    intro k hk fuel hf ρ h
    obtain ⟨f, rfl⟩ : ∃ f, fuel = f + 1 := ⟨fuel - 1, by omega⟩
    have oks : Ok (skk b (wn b) k) := Ok_skk ok
    have hns : nn (skk b (wn b) k) = nn b := by unfold nn; rw [skk_lo (by omega)]
    have hws : wn (skk b (wn b) k) = wn b := by unfold wn; rw [skk_lo (by omega), skk_lo (by omega)]
    have hks : skk b (wn b) k (4 + k) = b (4 + k) := skk_lo (by omega)
    have hR : RR ((kset st 60 ρ).1 60) (skk b (wn b) k) := by rw [kset_same]; exact h
    obtain ⟨o0, o1, o2, o3, o4⟩ := ok.2.2.2.2 k (by omega)
    have e2 : iI ((k : Int) + 1) = iI ((k + 1 : Nat) : Int) := rfl
    have i3 := R_i3 (k := k) hR oks (by omega)
    have i2 := R_i2 (k := k) hR oks (by omega)
    have s9 := R_settling (k := k) hR oks (by omega) (by rw [skk_lo (by omega)]; omega)
    rw [hks] at i3 i2 s9
    rw [hws] at s9
    have hsr := @Sg_rng (b (4 + k)) (wn b) hw9
    have hd1 := @R_held (kset st 60 ρ) (b (4 + k) 2 + -Sg (b (4 + k)) (wn b)) (by omega)
    have es : iI (b (4 + k) 2) - iI (Sg (b (4 + k)) (wn b)) = iI (b (4 + k) 2 + -Sg (b (4 + k)) (wn b)) := by rw [iI_sub]; congr 1
    have p2 := @R_p2 (kset st 60 ρ) k (iI (Cl (b (4 + k) 2 + -Sg (b (4 + k)) (wn b)))) (by omega)
    rw [kwr_kset] at p2
    have h2 := RR.knot (k := k) (j := 2) (z := Cl (b (4 + k) 2 + -Sg (b (4 + k)) (wn b))) h (by omega)
    have hR2 : RR ((kset st 60 (va_up ρ (22 + 5 * k + 2) (iI (Cl (b (4 + k) 2 + -Sg (b (4 + k)) (wn b)))))).1 60) (ya (skk b (wn b) k) (4 + k) (fm 2) (Cl (b (4 + k) 2 + -Sg (b (4 + k)) (wn b)))) := by rw [kset_same]; exact h2
    have i4 : fX6_its (iI k) 4 (kset st 60 (va_up ρ (22 + 5 * k + 2) (iI (Cl (b (4 + k) 2 + -Sg (b (4 + k)) (wn b)))))) = some (iI (b (4 + k) 3), kset st 60 (va_up ρ (22 + 5 * k + 2) (iI (Cl (b (4 + k) 2 + -Sg (b (4 + k)) (wn b)))))) := by
      have := @R_its (kset st 60 (va_up ρ (22 + 5 * k + 2) (iI (Cl (b (4 + k) 2 + -Sg (b (4 + k)) (wn b)))))) k 4 (by omega) (by omega)
      rw [kset_same, up_ne _ _ (by omega), h.2.2.2.2 k (by omega) 4 (by omega), hks] at this
      exact this
    have hd2 := @R_heldA (kset st 60 (va_up ρ (22 + 5 * k + 2) (iI (Cl (b (4 + k) 2 + -Sg (b (4 + k)) (wn b)))))) (b (4 + k) 3 + 1) (by omega)
    have ea : iI (b (4 + k) 3) + 1 = iI (b (4 + k) 3 + 1) := by rw [iI_ofNat, iI_add]
    have p4 := @R_p4 (kset st 60 (va_up ρ (22 + 5 * k + 2) (iI (Cl (b (4 + k) 2 + -Sg (b (4 + k)) (wn b)))))) k (iI (Ag (b (4 + k) 3 + 1))) (by omega)
    rw [kwr_kset] at p4
    have h4 := RR.knot (k := k) (j := 4) (z := Ag (b (4 + k) 3 + 1)) h2 (by omega)
    unfold fX6_oneHour_30
    rw [kset_same, h.2.1, skk_lo (by omega)]
    simp only [i3, i2, s9, Option.bind_some, es, hd1, p2, i4, ea, hd2, p4]
    simp only [iI_ofNat]
    simp (disch := omega) only [iI_ofNat, iI_add, iI_sub, iI_mul, iI_neg, iI_lt, iI_le, iI_eq, iI_cl]
    rw [e2, if_neg (by omega)]
    by_cases h5 : b (4 + k) 4 = 1
    · rw [if_pos h5]
      refine ih (k + 1) (by omega) f (by omega) _ ?_
      refine h4.cong ?_ ?_ ?_ ?_ ?_
      · rw [ya_row (by omega), ya_row (by omega), skk_lo (by omega), skk_lo (by omega)]
      · rw [ya_row (by omega), ya_row (by omega), skk_lo (by omega), skk_lo (by omega)]
      · intro i hi; rw [ya_row (by omega), ya_row (by omega), skk_lo (by omega), skk_lo (by omega)]
      · intro i hi; rw [ya_row (by omega), ya_row (by omega), ya_row (by omega), ya_row (by omega), skk_lo (by omega), skk_lo (by omega), skk_lo (by omega), skk_lo (by omega)]; exact ⟨rfl, rfl⟩
      · intro i hi j hj
        by_cases e : i = k
        · subst e
          rw [ya_eq, ya_eq, hks]
          have : skk b (wn b) (i + 1) (4 + i) = sz (b (4 + i)) (wn b) := by unfold skk; rw [if_pos ⟨by omega, by omega, h5⟩]
          rw [this]
          unfold sz
          simp only [va_up, show fm 4 = 3 from rfl, show fm 2 = 2 from rfl, true_and]
        · rw [ya_row (by omega), ya_row (by omega)]
          unfold skk
          by_cases e3 : 4 ≤ 4 + i ∧ 4 + i < 4 + k ∧ b (4 + i) 4 = 1
          · rw [if_pos e3, if_pos ⟨e3.1, by omega, e3.2.2⟩]
          · rw [if_neg e3, if_neg (fun q => e3 ⟨q.1, by omega, q.2.2⟩)]
    · rw [if_neg h5]
      refine ih (k + 1) (by omega) f (by omega) _ ?_
      have : skk b (wn b) (k + 1) = skk b (wn b) k := by
        funext i
        unfold skk
        by_cases h9 : i = 4 + k
        · subst h9; rw [if_neg (by omega), if_neg (by omega)]
        · by_cases h8 : 4 ≤ i ∧ i < 4 + k ∧ b i 4 = 1
          · rw [if_pos h8, if_pos (by omega)]
          · rw [if_neg h8, if_neg (by omega)]
      rw [this]; exact h
theorem R_oh2 {st : kM} {a : kY} (ok : Ok a) (hh0 : a 0 0 < 2000000000) : ∀ (r m : Nat), m + r = 4 → ∀ fuel, r < fuel → ∀ ρ, RR ρ (bm a m) → ∃ ρ', fX6_oneHour_2 fuel (iI m) (kset st 60 ρ) = some (kset st 60 ρ') ∧ RR ρ' (hour a) := by
  intro r
  have hn := ok.n10
  induction r with
  | zero =>
    intro m hk fuel hf ρ h
    obtain ⟨f, rfl⟩ : ∃ f, fuel = f + 1 := ⟨fuel - 1, by omega⟩
    have hk' : m = 4 := by omega
    subst hk'
    have h2 := bm_end ok h
    have ok4 : Ok (dmk (lg a (wn a)) 4) := Ok_dmk (Ok_lg ok)
    have n4 : nn (dmk (lg a (wn a)) 4) = nn a := by unfold nn; rw [dmk_ne (by omega), lg, lgk_lo (by omega)]
    have w4 : wn a = wn (dmk (lg a (wn a)) 4) := by
      have e0 : dmk (lg a (wn a)) 4 0 = a 0 := by rw [dmk_ne (by omega), lg, lgk_lo (by omega)]
      have e1 : dmk (lg a (wn a)) 4 1 = a 1 := by rw [dmk_ne (by omega), lg, lgk_lo (by omega)]
      show a 1 (a 0 0 % 12).toNat = (dmk (lg a (wn a)) 4) 1 ((dmk (lg a (wn a)) 4) 0 0 % 12).toNat
      rw [e0, e1]
    have e00 : dmk (lg a (wn a)) 4 0 0 = a 0 0 := by rw [dmk_ne (by omega), lg, lgk_lo (by omega)]
    have e : skk (dmk (lg a (wn a)) 4) (wn a) 0 = dmk (lg a (wn a)) 4 := by funext i; unfold skk; rw [if_neg (by omega)]
    have := R_oh30 (st := st) ok4 w4 (by omega) (nn a) 0 (by omega) kfu (by unfold kfu; omega) ρ (by rw [e]; exact h2)
    rw [n4, e00] at this
    unfold fX6_oneHour_2
    rw [if_pos (by decide)]
    exact this
  | succ r ih =>
    intro m hk fuel hf ρ h
    obtain ⟨f, rfl⟩ : ∃ f, fuel = f + 1 := ⟨fuel - 1, by omega⟩
    have hR : RR ((kset st 60 ρ).1 60) (bm a m) := by rw [kset_same]; exact h
    have hu := (ok.2.2.2.1 m (by omega)).2
    have hm1 := R_m1 (m := m) hR (by omega)
    rw [bm_3, if_neg (by omega)] at hm1
    have e2 : iI ((m : Int) + 1) = iI ((m + 1 : Nat) : Int) := rfl
    obtain ⟨ρ2, p1, p2⟩ := R_pulls (st := st) (m := m) h (Ok_bm ok) (by omega) (by rw [bm_lo (by omega)]; omega)
    unfold fX6_oneHour_2
    simp only [hm1, Option.bind_some, p1]
    simp only [iI_ofNat]
    simp (disch := omega) only [iI_ofNat, iI_add, iI_sub, iI_mul, iI_neg, iI_lt, iI_le, iI_eq, iI_cl]
    rw [e2, if_neg (by omega)]
    by_cases h5 : a 3 m = 1
    · rw [if_pos h5]
      exact ih (m + 1) (by omega) f (by omega) ρ2 (bm_step ok (by omega) h5 p2)
    · rw [if_neg h5]
      exact ih (m + 1) (by omega) f (by omega) ρ (bm_skip ok (by omega) (by omega) h)
theorem R_oneHour {st : kM} {a : kY} {ρ : Nat → Int32} (h : RR ρ a) (ok : Ok a) (hh0 : a 0 0 < 2000000000) : ∃ ρ', fX6_oneHour (kset st 60 ρ) = some (kset st 60 ρ') ∧ RR ρ' (hour a) := by
  have h0 : RR ρ (bm a 0) := by
    have := ok.n10
    refine h.cong ?_ ?_ ?_ ?_ ?_
    · rw [bm_lo (by omega)]
    · rw [bm_lo (by omega)]
    · intro i hi; rw [bm_lo (by omega)]
    · intro i hi
      refine ⟨by rw [bm_lo (by omega)], ?_⟩
      rw [bm_3, if_neg (by omega)]
    · intro i hi j hj
      have o1 := (ok.2.2.2.2 i hi).2.1
      rw [bm_same (by omega)]
  exact R_oh2 ok hh0 4 0 (by omega) kfu (by unfold kfu; omega) ρ h0
