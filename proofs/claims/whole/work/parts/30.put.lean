/-! one number of a yard anew -/
theorem CY.wind {st : kM} {c i : Nat} {a : kY} {z : Int} (h : CY st c a) (ok : Ok a) : CY (kwr st (c + 1) i (iI z)) c (ya a 1 i z) := by
  have hn := ok.n10
  have ne : ∀ x, x ≠ c + 1 → (kwr st (c + 1) i (iI z)).1 x = st.1 x := fun x hx => kwr_ne _ _ _ hx
  have hnn : nn (ya a 1 i z) = nn a := by unfold nn; rw [ya_row (by omega)]
  refine ⟨?_, fun j hj => ?_, fun j hj => ?_, fun j hj => ?_⟩
  · rw [ne _ (by omega), ya_row (by omega)]; unfold um; rw [ya_row (by omega)]; exact h.1
  · rw [kwr_same, ya_eq]
    by_cases e : j = i
    · subst e; rw [up_eq, if_pos ⟨rfl, rfl⟩]
    · rw [up_ne _ _ e, if_neg (by omega)]; exact h.2.1 j hj
  · rw [ne _ (by omega), ya_row (by omega)]; exact h.2.2.1 j hj
  · rw [hnn] at hj
    rw [ya_row (by omega)]
    exact (h.2.2.2 j hj).cong (ne _ (by omega)) (fun _ _ => rfl)
theorem CY.weight {st : kM} {c i : Nat} {a : kY} {z : Int} (h : CY st c a) (ok : Ok a) : CY (kwr st (c + 2) i (iI z)) c (ya a 2 i z) := by
  have hn := ok.n10
  have ne : ∀ x, x ≠ c + 2 → (kwr st (c + 2) i (iI z)).1 x = st.1 x := fun x hx => kwr_ne _ _ _ hx
  have hnn : nn (ya a 2 i z) = nn a := by unfold nn; rw [ya_row (by omega)]
  refine ⟨?_, fun j hj => ?_, fun j hj => ?_, fun j hj => ?_⟩
  · rw [ne _ (by omega), ya_row (by omega)]; unfold um; rw [ya_row (by omega)]; exact h.1
  · rw [ne _ (by omega), ya_row (by omega)]; exact h.2.1 j hj
  · rw [kwr_same, ya_eq]
    by_cases e : j = i
    · subst e; rw [up_eq, if_pos ⟨rfl, rfl⟩]
    · rw [up_ne _ _ e, if_neg (by omega)]; exact h.2.2.1 j hj
  · rw [hnn] at hj
    rw [ya_row (by omega)]
    exact (h.2.2.2 j hj).cong (ne _ (by omega)) (fun _ _ => rfl)
theorem CY.up {st : kM} {c i : Nat} {a : kY} {z : Int} (h : CY st c a) (ok : Ok a) : CY (kwr st c 2 (iI (um (ya a 3 i z)))) c (ya a 3 i z) := by
  have hn := ok.n10
  have ne : ∀ x, x ≠ c → (kwr st c 2 (iI (um (ya a 3 i z)))).1 x = st.1 x := fun x hx => kwr_ne _ _ _ hx
  have hnn : nn (ya a 3 i z) = nn a := by unfold nn; rw [ya_row (by omega)]
  refine ⟨⟨?_, ?_, ?_⟩, fun j hj => ?_, fun j hj => ?_, fun j hj => ?_⟩
  · rw [kwr_same, up_ne _ _ (by omega), ya_row (by omega)]; exact h.1.1
  · rw [kwr_same, up_ne _ _ (by omega), ya_row (by omega)]; exact h.1.2.1
  · rw [kwr_same, up_eq]
  · rw [ne _ (by omega), ya_row (by omega)]; exact h.2.1 j hj
  · rw [ne _ (by omega), ya_row (by omega)]; exact h.2.2.1 j hj
  · rw [hnn] at hj
    rw [ya_row (by omega)]
    exact (h.2.2.2 j hj).cong (ne _ (by omega)) (fun _ _ => rfl)
theorem CY.knot {st : kM} {c k j : Nat} {a : kY} {z : Int} (h : CY st c a) (ok : Ok a) (hk : k < nn a) : CY (kwr st (c + 5 + k) j (iI z)) c (ya a (4 + k) j z) := by
  have hn := ok.n10
  have ne : ∀ x, x ≠ c + 5 + k → (kwr st (c + 5 + k) j (iI z)).1 x = st.1 x := fun x hx => kwr_ne _ _ _ hx
  have hnn : nn (ya a (4 + k) j z) = nn a := by unfold nn; rw [ya_row (by omega)]
  refine ⟨?_, fun j hj => ?_, fun j hj => ?_, fun i hi => ?_⟩
  · rw [ne _ (by omega), ya_row (by omega)]; unfold um; rw [ya_row (by omega)]; exact h.1
  · rw [ne _ (by omega), ya_row (by omega)]; exact h.2.1 j hj
  · rw [ne _ (by omega), ya_row (by omega)]; exact h.2.2.1 j hj
  · rw [hnn] at hi
    by_cases e : i = k
    · subst e
      refine ((h.2.2.2 i hi).wr (j := j) (z := z)).cong rfl (fun l _ => ?_)
      rw [ya_eq]
      by_cases e2 : l = j
      · subst e2; rw [if_pos ⟨rfl, rfl⟩, up_eq]
      · rw [if_neg (by omega), up_ne _ _ e2]
    · rw [ya_row (by omega)]
      exact (h.2.2.2 i hi).cong (ne _ (by omega)) (fun _ _ => rfl)
theorem Fr.y1 {st : kM} {c j : Nat} {v : Int32} : Fr (yc c) st (kwr st (c + 1) j v) := Fr.wr _ _ (by unfold yc; omega)
theorem Fr.y2 {st : kM} {c j : Nat} {v : Int32} : Fr (yc c) st (kwr st (c + 2) j v) := Fr.wr _ _ (by unfold yc; omega)
theorem Fr.y0 {st : kM} {c j : Nat} {v : Int32} : Fr (yc c) st (kwr st c j v) := Fr.wr _ _ (by unfold yc; omega)
theorem Fr.yk {st : kM} {c j k : Nat} {v : Int32} (hk : k < 10) : Fr (yc c) st (kwr st (c + 5 + k) j v) := Fr.wr _ _ (by unfold yc; omega)
theorem nn_ya {a : kY} {i j : Nat} {z : Int} (h : i ≠ 0) : nn (ya a i j z) = nn a := by unfold nn; rw [ya_row (Ne.symm h)]
theorem Ok_wind {a : kY} {i : Nat} {z : Int} (ok : Ok a) (hz : 0 ≤ z ∧ z ≤ 99) : Ok (ya a 1 i z) := by
  refine ⟨by rw [ya_row (by omega)]; exact ok.1, by rw [ya_row (by omega)]; exact ok.2.1, fun j hj => ?_, fun j hj => by rw [ya_row (by omega), ya_row (by omega)]; exact ok.2.2.2.1 j hj, fun k hk => by rw [nn_ya (by omega)] at hk; rw [ya_row (by omega)]; exact ok.2.2.2.2 k hk⟩
  rw [ya_eq]
  split
  · exact hz
  · exact ok.2.2.1 j hj
theorem Ok_weight {a : kY} {i : Nat} {z : Int} (ok : Ok a) (hz : 0 ≤ z ∧ z ≤ 999) : Ok (ya a 2 i z) := by
  refine ⟨by rw [ya_row (by omega)]; exact ok.1, by rw [ya_row (by omega)]; exact ok.2.1, by rw [ya_row (by omega)]; exact ok.2.2.1, fun j hj => ⟨?_, by rw [ya_row (by omega)]; exact (ok.2.2.2.1 j hj).2⟩, fun k hk => by rw [nn_ya (by omega)] at hk; rw [ya_row (by omega)]; exact ok.2.2.2.2 k hk⟩
  rw [ya_eq]
  split
  · exact hz
  · exact (ok.2.2.2.1 j hj).1
theorem Ok_up {a : kY} {i : Nat} {z : Int} (ok : Ok a) (hz : z = 0 ∨ z = 1) : Ok (ya a 3 i z) := by
  refine ⟨by rw [ya_row (by omega)]; exact ok.1, by rw [ya_row (by omega)]; exact ok.2.1, by rw [ya_row (by omega)]; exact ok.2.2.1, fun j hj => ⟨by rw [ya_row (by omega)]; exact (ok.2.2.2.1 j hj).1, ?_⟩, fun k hk => by rw [nn_ya (by omega)] at hk; rw [ya_row (by omega)]; exact ok.2.2.2.2 k hk⟩
  rw [ya_eq]
  split
  · exact hz
  · exact (ok.2.2.2.1 j hj).2
theorem Ok_knot {a : kY} {k j : Nat} {z : Int} (ok : Ok a) (hz : (j = 0 ∧ 0 ≤ z ∧ z ≤ 5) ∨ (j = 1 ∧ 0 ≤ z ∧ z ≤ 3) ∨ (j = 2 ∧ 0 ≤ z ∧ z ≤ 99) ∨ (j = 3 ∧ 0 ≤ z ∧ z ≤ 9999) ∨ (j = 4 ∧ (z = 0 ∨ z = 1))) : Ok (ya a (4 + k) j z) := by
  refine ⟨by rw [ya_row (by omega)]; exact ok.1, by rw [ya_row (by omega)]; exact ok.2.1, by rw [ya_row (by omega)]; exact ok.2.2.1, fun j hj => by rw [ya_row (by omega), ya_row (by omega)]; exact ok.2.2.2.1 j hj, fun i hi => ?_⟩
  rw [nn_ya (by omega)] at hi
  obtain ⟨o0, o1, o2, o3, o4⟩ := ok.2.2.2.2 i hi
  unfold Kok
  simp only [ya_eq]
  refine ⟨?_, ?_, ?_, ?_, ?_⟩
  all_goals (split <;> omega)
-- a knot more
def ak (a : kY) (y m o f : Int) : kY := fun i j => if i = 0 ∧ j = 1 then a 0 1 + 1 else if i = 4 + nn a then (if j = 0 then y else if j = 1 then m else if j = 2 then o else if j = 4 then f else 0) else a i j
theorem ak_row {a : kY} {y m o f : Int} {i : Nat} (h0 : i ≠ 0) (h1 : i ≠ 4 + nn a) : ak a y m o f i = a i := by funext j; unfold ak; rw [if_neg (by omega), if_neg h1]
theorem ak_00 {a : kY} {y m o f : Int} : ak a y m o f 0 0 = a 0 0 := by unfold ak; rw [if_neg (by omega), if_neg (by omega)]
theorem ak_01 {a : kY} {y m o f : Int} : ak a y m o f 0 1 = a 0 1 + 1 := by unfold ak; rw [if_pos ⟨rfl, rfl⟩]
theorem ak_n {a : kY} {y m o f : Int} : ak a y m o f (4 + nn a) = fun j => if j = 0 then y else if j = 1 then m else if j = 2 then o else if j = 4 then f else 0 := by funext j; unfold ak; rw [if_neg (by omega), if_pos rfl]
theorem nn_ak {a : kY} {y m o f : Int} (ok : Ok a) : nn (ak a y m o f) = nn a + 1 := by
  have := ok.n10
  unfold nn
  rw [ak_01]
  unfold nn at this
  omega
theorem Ok_ak {a : kY} {y m o f : Int} (ok : Ok a) (hn : nn a < 10) (hy : 0 ≤ y ∧ y ≤ 5) (hm : 0 ≤ m ∧ m ≤ 3) (ho : 0 ≤ o ∧ o ≤ 99) (hf : f = 0 ∨ f = 1) : Ok (ak a y m o f) := by
  have h1 := ok.n10
  refine ⟨by rw [ak_00]; exact ok.1, by rw [ak_01]; omega, by rw [ak_row (by omega) (by omega)]; exact ok.2.2.1, fun j hj => by rw [ak_row (by omega) (by omega), ak_row (by omega) (by omega)]; exact ok.2.2.2.1 j hj, fun k hk => ?_⟩
  rw [nn_ak ok] at hk
  by_cases e : k = nn a
  · subst e
    rw [ak_n]
    exact ⟨hy, hm, ho, by show (0 : Int) ≤ 0 ∧ (0 : Int) ≤ 9999; omega, hf⟩
  · rw [ak_row (by omega) (by omega)]
    exact ok.2.2.2.2 k (by omega)
theorem S_addKnot {st : kM} {c : Nat} {a : kY} {y m : Int} (h : CY st c a) (ok : Ok a) (hn : nn a < 10) : ∃ st', fX4_addKnot c (iI y) (iI m) st = some (iI (nn a), st') ∧ Fr (yc c) st st' ∧ CY st' c (ak a y m 50 1) := by
  have h1 := ok.n10
  obtain ⟨s2, q1, q2, q3⟩ := S_begin st (c + 5 + nn a) y m
  unfold fX4_addKnot
  rw [h.1.2.1]
  simp (disch := omega) only [iI_ofNat, iI_add, iI_sub, iI_mul, iI_neg, iI_lt, iI_le, iI_eq, iI_cl]
  rw [if_neg (by omega), show (a 0 1).toNat = nn a from rfl, q1, Option.bind_some]
  have e1 : s2.1 c 1 = iI (a 0 1) := by rw [q2.2 _ (by omega)]; exact h.1.2.1
  simp only [Option.bind_some, kwr_same, up_eq, e1]
  simp (disch := omega) only [iI_ofNat, iI_add, iI_sub, iI_mul, iI_neg, iI_lt, iI_le, iI_eq, iI_cl]
  refine ⟨kwr s2 c 1 (iI (a 0 1 + 1)), ?_, ?_, ?_⟩
  · rw [show a 0 1 + 1 - 1 = (nn a : Int) by omega]
  · exact (q2.mono (fun b hb => by unfold yc; omega)).tr Fr.y0
  · have ne : ∀ x, x ≠ c → x ≠ c + 5 + nn a → (kwr s2 c 1 (iI (a 0 1 + 1))).1 x = st.1 x := fun x hx hy => by rw [kwr_ne _ _ _ hx, q2.2 _ hy]
    refine ⟨⟨?_, ?_, ?_⟩, fun j hj => ?_, fun j hj => ?_, fun j hj => ?_⟩
    · rw [kwr_same, up_ne _ _ (by omega), q2.2 _ (by omega), ak_00]; exact h.1.1
    · rw [kwr_same, up_eq, ak_01]
    · rw [kwr_same, up_ne _ _ (by omega), q2.2 _ (by omega)]; unfold um; rw [ak_row (by omega) (by omega)]; exact h.1.2.2
    · rw [ne _ (by omega) (by omega), ak_row (by omega) (by omega)]; exact h.2.1 j hj
    · rw [ne _ (by omega) (by omega), ak_row (by omega) (by omega)]; exact h.2.2.1 j hj
    · rw [nn_ak ok] at hj
      by_cases e : j = nn a
      · subst e
        rw [ak_n]
        exact q3.cong (kwr_ne _ _ _ (by omega)) (fun _ _ => rfl)
      · rw [ak_row (by omega) (by omega)]
        exact (h.2.2.2 j (by omega)).cong (ne _ (by omega) (by omega)) (fun _ _ => rfl)
theorem R_adds {st : kM} {a : kY} {ρ : Nat → Int32} {y m o f : Int} (h : RR ρ a) (ok : Ok a) (hn : nn a < 10) : ∃ ρ', fX6_adds (iI y) (iI m) (iI o) (iI f) (kset st 60 ρ) = some (kset st 60 ρ') ∧ RR ρ' (ak a y m o f) := by
  have h1 := ok.n10
  have e0 : (kset st 60 ρ).1 60 1 = iI (nn a) := by rw [kset_same, h.2.1, h1.2]
  unfold fX6_adds
  rw [e0, Option.bind_some]
  simp only [R_p0 hn, R_p1 hn, R_p2 hn, R_p3 hn, R_p4 hn, Option.bind_some, kwr_kset, kset_same]
  refine ⟨_, rfl, ?_⟩
  refine ⟨?_, ?_, fun i hi => ?_, fun i hi => ⟨?_, ?_⟩, fun k hk j hj => ?_⟩
  · simp (disch := omega) only [up_ne]
    rw [ak_00]; exact h.1
  · rw [up_eq]
    simp (disch := omega) only [up_ne]
    rw [ak_01, h.2.1, iI_ofNat, iI_add]
  · simp (disch := omega) only [up_ne]
    rw [ak_row (by omega) (by omega)]; exact h.2.2.1 i hi
  · simp (disch := omega) only [up_ne]
    rw [ak_row (by omega) (by omega)]; exact (h.2.2.2.1 i hi).1
  · simp (disch := omega) only [up_ne]
    rw [ak_row (by omega) (by omega)]; exact (h.2.2.2.1 i hi).2
  · rw [nn_ak ok] at hk
    by_cases e : k = nn a
    · subst e
      rw [ak_n, up_ne _ _ (by omega)]
      match j, hj with
      | 0, _ => simp (disch := omega) only [up_ne, up_eq]; rfl
      | 1, _ => simp (disch := omega) only [up_ne, up_eq]; rfl
      | 2, _ => simp (disch := omega) only [up_ne, up_eq]; rfl
      | 3, _ => simp (disch := omega) only [up_ne, up_eq]; rfl
      | 4, _ => simp (disch := omega) only [up_eq]; rfl
      | j + 5, hh => omega
    · simp (disch := omega) only [up_ne]
      rw [ak_row (by omega) (by omega)]; exact h.2.2.2.2 k (by omega) j hj
theorem R_teases {st : kM} {a : kY} {ρ : Nat → Int32} {k : Nat} (h : RR ρ a) (ok : Ok a) (hk : k < nn a) : ∃ ρ', fX6_teases (iI k) (kset st 60 ρ) = some (kset st 60 ρ') ∧ RR ρ' (ya a (4 + k) 2 (Cl (a (4 + k) 2 + Tg (a (4 + k))))) := by
  have hn := ok.n10
  have hR : RR ((kset st 60 ρ).1 60) a := by rw [kset_same]; exact h
  obtain ⟨o0, o1, o2, o3, o4⟩ := ok.2.2.2.2 k hk
  have ht := @Tg_rng (a (4 + k))
  unfold fX6_teases
  rw [R_i2 hR ok hk, Option.bind_some, R_teasing hR ok hk, Option.bind_some, iI_add, R_held (by omega), Option.bind_some, R_p2 (by omega), kwr_kset, Option.bind_some]
  exact ⟨_, rfl, RR.knot (j := 2) h (by omega)⟩
theorem R_becomes {st : kM} {x v : Int32} {j : Nat} (hx : x = iI (j : Int)) (hj : j < 72) : fX6_becomes x v st = some (st.1 60 j, kset st 60 (va_up (st.1 60) j v)) := by
  subst hx
  unfold fX6_becomes
  simp (disch := omega) only [iI_ofNat, iI_add, iI_sub, iI_mul, iI_neg, iI_lt, iI_le, iI_eq, iI_cl, Int.toNat_natCast]
  rw [if_neg (by omega), Option.bind_some, Option.bind_some]
  rfl
