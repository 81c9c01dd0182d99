/-! sets and sums -/
def p0 (a : kY) (m : Int) (i : Nat) : Bool := decide (a (4 + i) 1 = m)
def pf (a : kY) (i : Nat) : Bool := decide (a (4 + i) 4 = 1)
def pu (a : kY) (m : Nat) : Bool := decide (a 3 m = 1)
def sm (f : Nat → Int) : Nat → Int
  | 0 => 0
  | k + 1 => sm f k + f k
theorem S_ko4 {st : kM} {c : Nat} {a : kY} {m : Int} (h : CY st c a) (ok : Ok a) (hm : 0 ≤ m ∧ m < 4) : ∀ (r k : Nat), k + r = nn a → ∀ fuel, r < fuel → fX4_knotsOf_4 c fuel (iI m) (iI (mv (p0 a m) k : Int)) (iI k) st = some (iI (mv (p0 a m) (nn a) : Int), st) := by
  intro r
  have hn := ok.n10
  induction r with
  | zero =>
    intro k hk fuel hf
    obtain ⟨f, rfl⟩ : ∃ f, fuel = f + 1 := ⟨fuel - 1, by omega⟩
    have hk' : k = nn a := by omega
    subst hk'
    unfold fX4_knotsOf_4
    rw [h.1.2.1]
    simp (disch := omega) only [iI_ofNat, iI_add, iI_sub, iI_mul, iI_neg, iI_lt, iI_le, iI_eq, iI_cl]
    rw [if_pos (by omega)]
  | succ r ih =>
    intro k hk fuel hf
    obtain ⟨f, rfl⟩ : ∃ f, fuel = f + 1 := ⟨fuel - 1, by omega⟩
    obtain ⟨o0, o1, o2, o3, o4⟩ := ok.2.2.2.2 k (by omega)
    obtain ⟨g0, g1, g2, g3, g4⟩ := (h.2.2.2 k (by omega)).get
    have e2 : iI ((k : Int) + 1) = iI ((k + 1 : Nat) : Int) := rfl
    have hs := @mk_step (p0 a m) k (by omega)
    unfold fX4_knotsOf_4
    simp only [h.1.2.1, Option.bind_some]
    simp only [iI_ofNat] at ih hs ⊢
    simp (disch := omega) only [iI_ofNat, iI_add, iI_sub, iI_mul, iI_neg, iI_lt, iI_le, iI_eq, iI_cl, Int.toNat_natCast]
    rw [g1]
    simp (disch := omega) only [iI_ofNat, iI_add, iI_sub, iI_mul, iI_neg, iI_lt, iI_le, iI_eq, iI_cl]
    rw [e2, if_neg (by omega), if_neg (by omega)]
    by_cases h1 : a (4 + k) 1 = m
    · rw [if_pos h1, hs.1 (by simp [p0, h1])]
      exact ih (k + 1) (by omega) f (by omega)
    · rw [if_neg h1, hs.2 (by simp [p0, h1])]
      exact ih (k + 1) (by omega) f (by omega)
theorem S_knotsOf {st : kM} {c : Nat} {a : kY} {m : Int} (h : CY st c a) (ok : Ok a) (hm : 0 ≤ m ∧ m < 4) : fX4_knotsOf c (iI m) st = some (iI (mv (p0 a m) (nn a) : Int), st) := by
  have hn := ok.n10
  exact S_ko4 h ok hm (nn a) 0 (by omega) kfu (by unfold kfu; omega)
theorem S_fk4 {st : kM} {c : Nat} {a : kY} (h : CY st c a) (ok : Ok a) : ∀ (r k : Nat), k + r = nn a → ∀ fuel, r < fuel → fX4_fastKnots_4 c fuel (iI (mv (pf a) k : Int)) (iI k) st = some (iI (mv (pf a) (nn a) : Int), st) := by
  intro r
  have hn := ok.n10
  induction r with
  | zero =>
    intro k hk fuel hf
    obtain ⟨f, rfl⟩ : ∃ f, fuel = f + 1 := ⟨fuel - 1, by omega⟩
    have hk' : k = nn a := by omega
    subst hk'
    unfold fX4_fastKnots_4
    rw [h.1.2.1]
    simp (disch := omega) only [iI_ofNat, iI_add, iI_sub, iI_mul, iI_neg, iI_lt, iI_le, iI_eq, iI_cl]
    rw [if_pos (by omega)]
  | succ r ih =>
    intro k hk fuel hf
    obtain ⟨f, rfl⟩ : ∃ f, fuel = f + 1 := ⟨fuel - 1, by omega⟩
    obtain ⟨o0, o1, o2, o3, o4⟩ := ok.2.2.2.2 k (by omega)
    obtain ⟨g0, g1, g2, g3, g4⟩ := (h.2.2.2 k (by omega)).get
    have e2 : iI ((k : Int) + 1) = iI ((k + 1 : Nat) : Int) := rfl
    have hs := @mk_step (pf a) k (by omega)
    unfold fX4_fastKnots_4
    simp only [h.1.2.1, Option.bind_some]
    simp only [iI_ofNat] at ih hs ⊢
    simp (disch := omega) only [iI_ofNat, iI_add, iI_sub, iI_mul, iI_neg, iI_lt, iI_le, iI_eq, iI_cl, Int.toNat_natCast]
    rw [g4]
    simp (disch := omega) only [iI_ofNat, iI_add, iI_sub, iI_mul, iI_neg, iI_lt, iI_le, iI_eq, iI_cl]
    rw [e2, if_neg (by omega), if_neg (by omega)]
    by_cases h1 : a (4 + k) 4 = 1
    · rw [if_neg (by omega), hs.1 (by simp [pf, h1])]
      exact ih (k + 1) (by omega) f (by omega)
    · rw [if_pos (by omega), hs.2 (by simp [pf, h1])]
      exact ih (k + 1) (by omega) f (by omega)
theorem S_fastKnots {st : kM} {c : Nat} {a : kY} (h : CY st c a) (ok : Ok a) : fX4_fastKnots c st = some (iI (mv (pf a) (nn a) : Int), st) := by
  have hn := ok.n10
  exact S_fk4 h ok (nn a) 0 (by omega) kfu (by unfold kfu; omega)
theorem S_ao4 {st : kM} {c : Nat} {a : kY} (h : CY st c a) (ok : Ok a) : ∀ (r k : Nat), k + r = nn a → ∀ fuel, r < fuel → fX4_allOpen_4 c fuel (iI (sm (fun i => a (4 + i) 2) k)) (iI k) st = some (iI (sm (fun i => a (4 + i) 2) (nn a)), st) := by
  intro r
  have hn := ok.n10
  induction r with
  | zero =>
    intro k hk fuel hf
    obtain ⟨f, rfl⟩ : ∃ f, fuel = f + 1 := ⟨fuel - 1, by omega⟩
    have hk' : k = nn a := by omega
    subst hk'
    unfold fX4_allOpen_4
    rw [h.1.2.1]
    simp (disch := omega) only [iI_ofNat, iI_add, iI_sub, iI_mul, iI_neg, iI_lt, iI_le, iI_eq, iI_cl]
    rw [if_pos (by omega)]
  | succ r ih =>
    intro k hk fuel hf
    obtain ⟨f, rfl⟩ : ∃ f, fuel = f + 1 := ⟨fuel - 1, by omega⟩
    obtain ⟨g0, g1, g2, g3, g4⟩ := (h.2.2.2 k (by omega)).get
    have e2 : iI ((k : Int) + 1) = iI ((k + 1 : Nat) : Int) := rfl
    have e3 : sm (fun i => a (4 + i) 2) k + a (4 + k) 2 = sm (fun i => a (4 + i) 2) (k + 1) := rfl
    unfold fX4_allOpen_4
    simp only [h.1.2.1, Option.bind_some]
    simp (disch := omega) only [iI_ofNat, iI_add, iI_sub, iI_mul, iI_neg, iI_lt, iI_le, iI_eq, iI_cl, Int.toNat_natCast]
    rw [g2]
    simp (disch := omega) only [iI_ofNat, iI_add, iI_sub, iI_mul, iI_neg, iI_lt, iI_le, iI_eq, iI_cl]
    rw [e2, e3, if_neg (by omega), if_neg (by omega)]
    exact ih (k + 1) (by omega) f (by omega)
theorem S_allOpen {st : kM} {c : Nat} {a : kY} (h : CY st c a) (ok : Ok a) : fX4_allOpen c st = some (iI (sm (fun i => a (4 + i) 2) (nn a)), st) := by
  have hn := ok.n10
  exact S_ao4 h ok (nn a) 0 (by omega) kfu (by unfold kfu; omega)
theorem S_aa4 {st : kM} {c : Nat} {a : kY} (h : CY st c a) (ok : Ok a) : ∀ (r k : Nat), k + r = nn a → ∀ fuel, r < fuel → fX4_allAges_4 c fuel (iI (sm (fun i => a (4 + i) 3) k)) (iI k) st = some (iI (sm (fun i => a (4 + i) 3) (nn a)), st) := by
  intro r
  have hn := ok.n10
  induction r with
  | zero =>
    intro k hk fuel hf
    obtain ⟨f, rfl⟩ : ∃ f, fuel = f + 1 := ⟨fuel - 1, by omega⟩
    have hk' : k = nn a := by omega
    subst hk'
    unfold fX4_allAges_4
    rw [h.1.2.1]
    simp (disch := omega) only [iI_ofNat, iI_add, iI_sub, iI_mul, iI_neg, iI_lt, iI_le, iI_eq, iI_cl]
    rw [if_pos (by omega)]
  | succ r ih =>
    intro k hk fuel hf
    obtain ⟨f, rfl⟩ : ∃ f, fuel = f + 1 := ⟨fuel - 1, by omega⟩
    obtain ⟨g0, g1, g2, g3, g4⟩ := (h.2.2.2 k (by omega)).get
    have e2 : iI ((k : Int) + 1) = iI ((k + 1 : Nat) : Int) := rfl
    have e3 : sm (fun i => a (4 + i) 3) k + a (4 + k) 3 = sm (fun i => a (4 + i) 3) (k + 1) := rfl
    unfold fX4_allAges_4
    simp only [h.1.2.1, Option.bind_some]
    simp (disch := omega) only [iI_ofNat, iI_add, iI_sub, iI_mul, iI_neg, iI_lt, iI_le, iI_eq, iI_cl, Int.toNat_natCast]
    rw [g3]
    simp (disch := omega) only [iI_ofNat, iI_add, iI_sub, iI_mul, iI_neg, iI_lt, iI_le, iI_eq, iI_cl]
    rw [e2, e3, if_neg (by omega), if_neg (by omega)]
    exact ih (k + 1) (by omega) f (by omega)
theorem S_allAges {st : kM} {c : Nat} {a : kY} (h : CY st c a) (ok : Ok a) : fX4_allAges c st = some (iI (sm (fun i => a (4 + i) 3) (nn a)), st) := by
  have hn := ok.n10
  exact S_aa4 h ok (nn a) 0 (by omega) kfu (by unfold kfu; omega)
theorem S_aw4 {st : kM} {c : Nat} {a : kY} (h : CY st c a) : ∀ (r k : Nat), k + r = 4 → ∀ fuel, r < fuel → fX4_allWeights_4 c fuel (iI (sm (fun i => a 2 i) k)) (iI k) st = some (iI (sm (fun i => a 2 i) 4), st) := by
  intro r
  induction r with
  | zero =>
    intro k hk fuel hf
    obtain ⟨f, rfl⟩ : ∃ f, fuel = f + 1 := ⟨fuel - 1, by omega⟩
    have hk' : k = 4 := by omega
    subst hk'
    unfold fX4_allWeights_4
    rw [if_pos (by decide)]
  | succ r ih =>
    intro k hk fuel hf
    obtain ⟨f, rfl⟩ : ∃ f, fuel = f + 1 := ⟨fuel - 1, by omega⟩
    have e2 : iI ((k : Int) + 1) = iI ((k + 1 : Nat) : Int) := rfl
    have e3 : sm (fun i => a 2 i) k + a 2 k = sm (fun i => a 2 i) (k + 1) := rfl
    unfold fX4_allWeights_4
    simp only [Option.bind_some]
    simp (disch := omega) only [iI_ofNat, iI_add, iI_sub, iI_mul, iI_neg, iI_lt, iI_le, iI_eq, iI_cl, Int.toNat_natCast]
    rw [h.2.2.1 k (by omega)]
    simp (disch := omega) only [iI_ofNat, iI_add, iI_sub, iI_mul, iI_neg, iI_lt, iI_le, iI_eq, iI_cl]
    rw [e2, e3, if_neg (by omega), if_neg (by omega)]
    exact ih (k + 1) (by omega) f (by omega)
theorem S_allWeights {st : kM} {c : Nat} {a : kY} (h : CY st c a) : fX4_allWeights c st = some (iI (sm (fun i => a 2 i) 4), st) :=
  S_aw4 h 4 0 (by omega) kfu (by unfold kfu; omega)
theorem S_strainOn {st : kM} {c m : Nat} {a : kY} (h : CY st c a) (ok : Ok a) (hm : m < 4) (hh : a 0 0 < 2147483648) : ∃ φ, fX4_strainOn c (iI m) st = some (iI (sn a m (wn a)), kset st (c + 4) φ) := by
  obtain ⟨φ, e1, p1⟩ := S_countFast h ok
  have h2 := h.set4 ok φ
  refine ⟨φ, ?_⟩
  unfold fX4_strainOn
  rw [e1, Option.bind_some, S_windNow h2 ok hh, Option.bind_some, S_strain ok hm (Ok_wn ok) (h2.2.2.1 m hm) (by rw [kset_same]; exact p1 m hm), Option.bind_some]
theorem S_holdingOf {st : kM} {c k : Nat} {a : kY} (h : CY st c a) (ok : Ok a) (hk : k < nn a) (hh0 : a 0 0 < 2147483648) : ∃ φ, fX4_holdingOf c (c + 5 + k) st = some (iI (hh a k (wn a)), kset st (c + 4) φ) := by
  obtain ⟨φ, e1, p1⟩ := S_countFast h ok
  have h2 := h.set4 ok φ
  refine ⟨φ, ?_⟩
  unfold fX4_holdingOf
  rw [e1, Option.bind_some, S_windNow h2 ok hh0, Option.bind_some, S_heldBy ok hk (Ok_wn ok) (h2.2.2.2 k hk) (fun m hm => by rw [kset_same]; exact p1 m hm), Option.bind_some]
theorem S_wouldGive {st : kM} {c k : Nat} {a : kY} (h : CY st c a) (ok : Ok a) (hk : k < nn a) (hh0 : a 0 0 < 2147483648) : ∃ φ, fX4_wouldGive c (c + 5 + k) st = some (iI (if a (4 + k) 4 = 1 then gv a k (wn a) else 0), kset st (c + 4) φ) := by
  obtain ⟨φ, e1, p1⟩ := S_countFast h ok
  have h2 := h.set4 ok φ
  obtain ⟨o0, o1, o2, o3, o4⟩ := id (ok.2.2.2.2 k hk)
  obtain ⟨g0, g1, g2, g3, g4⟩ := (h2.2.2.2 k hk).get
  have hw := Ok_wn ok
  have hs := @S_strain (kset st (c + 4) φ) c a (a (4 + k) 1).toNat (wn a) ok (by omega) hw (h2.2.2.1 _ (by omega)) (by rw [kset_same]; exact p1 _ (by omega))
  rw [show ((a (4 + k) 1).toNat : Int) = a (4 + k) 1 by omega] at hs
  have hb := S_heldBy ok hk hw (h2.2.2.2 k hk) (fun m hm => by rw [kset_same]; exact p1 m hm)
  have hg := S_givesWay (h2.2.2.2 k hk) (ok.2.2.2.2 k hk) (sn_rng ok (m := (a (4 + k) 1).toNat) (by omega) hw) (hh_rng (k := k) ok hk hw)
  have hgv : gv a k (wn a) = 0 ∨ gv a k (wn a) = 1 := Gw_rng
  refine ⟨φ, ?_⟩
  unfold fX4_wouldGive
  rw [S_windNow h ok hh0, Option.bind_some, e1, Option.bind_some, g4, g1, hs, Option.bind_some, hb, Option.bind_some, hg, Option.bind_some]
  have e9 : Gw (a (4 + k)) (sn a (a (4 + k) 1).toNat (wn a)) (hh a k (wn a)) = gv a k (wn a) := rfl
  rw [e9]
  simp (disch := omega) only [iI_ofNat, iI_add, iI_sub, iI_mul, iI_neg, iI_lt, iI_le, iI_eq, iI_cl]
  by_cases h4 : a (4 + k) 4 = 1
  · rw [if_neg (by omega), if_pos h4]
    by_cases h5 : gv a k (wn a) = 0
    · rw [if_pos h5, h5]
    · rw [if_neg h5, show gv a k (wn a) = 1 by omega]
  · rw [if_pos (by omega), if_neg h4]
/-- what the knots of mast m hold -/
def hf (a : kY) (m : Int) (i : Nat) : Int := if a (4 + i) 1 = m then hh a i (wn a) else 0
theorem S_ah4 {c : Nat} {a : kY} {m : Int} (ok : Ok a) (hm : 0 ≤ m ∧ m < 4) (hh0 : a 0 0 < 2147483648) : ∀ (r k : Nat), k + r = nn a → ∀ fuel, r < fuel → ∀ st, CY st c a → ∃ φ, fX4_allHolding_4 c fuel (iI m) (iI (sm (hf a m) k)) (iI k) st = some (iI (sm (hf a m) (nn a)), kset st (c + 4) φ) := by
  intro r
  have hn := ok.n10
  induction r with
  | zero =>
    intro k hk fuel hf st h
    obtain ⟨f, rfl⟩ : ∃ f, fuel = f + 1 := ⟨fuel - 1, by omega⟩
    have hk' : k = nn a := by omega
    subst hk'
    refine ⟨st.1 (c + 4), ?_⟩
    unfold fX4_allHolding_4
    rw [h.1.2.1, kset_self]
    simp (disch := omega) only [iI_ofNat, iI_add, iI_sub, iI_mul, iI_neg, iI_lt, iI_le, iI_eq, iI_cl]
    rw [if_pos (by omega)]
  | succ r ih =>
    intro k hk fuel hfu st h
    obtain ⟨f, rfl⟩ : ∃ f, fuel = f + 1 := ⟨fuel - 1, by omega⟩
    obtain ⟨o0, o1, o2, o3, o4⟩ := ok.2.2.2.2 k (by omega)
    obtain ⟨g0, g1, g2, g3, g4⟩ := (h.2.2.2 k (by omega)).get
    obtain ⟨φ, e1⟩ := S_holdingOf h ok (k := k) (by omega) hh0
    have e2 : iI ((k : Int) + 1) = iI ((k + 1 : Nat) : Int) := rfl
    unfold fX4_allHolding_4
    simp only [h.1.2.1, Option.bind_some]
    simp (disch := omega) only [iI_ofNat, iI_add, iI_sub, iI_mul, iI_neg, iI_lt, iI_le, iI_eq, iI_cl, Int.toNat_natCast]
    rw [g1, e1, Option.bind_some]
    simp (disch := omega) only [iI_ofNat, iI_add, iI_sub, iI_mul, iI_neg, iI_lt, iI_le, iI_eq, iI_cl]
    rw [e2, if_neg (by omega), if_neg (by omega)]
    by_cases h1 : a (4 + k) 1 = m
    · rw [if_pos h1]
      have e3 : sm (hf a m) k + hh a k (wn a) = sm (hf a m) (k + 1) := by show _ = sm (hf a m) k + hf a m k; unfold hf; rw [if_pos h1]
      rw [e3]
      obtain ⟨ψ, e4⟩ := ih (k + 1) (by omega) f (by omega) _ (h.set4 ok φ)
      exact ⟨ψ, by rw [e4, kset_kset]⟩
    · rw [if_neg h1]
      have e3 : sm (hf a m) k + 0 = sm (hf a m) (k + 1) := by show _ = sm (hf a m) k + hf a m k; unfold hf; rw [if_neg h1]
      rw [e3]
      exact ih (k + 1) (by omega) f (by omega) st h
theorem S_allHolding {st : kM} {c : Nat} {a : kY} {m : Int} (h : CY st c a) (ok : Ok a) (hm : 0 ≤ m ∧ m < 4) (hh0 : a 0 0 < 2147483648) : ∃ φ, fX4_allHolding c (iI m) st = some (iI (sm (hf a m) (nn a)), kset st (c + 4) φ) := by
  have hn := ok.n10
  exact S_ah4 ok hm hh0 (nn a) 0 (by omega) kfu (by unfold kfu; omega) st h
-- the reference
theorem R_ko0 {st : kM} {a : kY} {m : Int} (h : RR (st.1 60) a) (ok : Ok a) (hm : 0 ≤ m ∧ m < 4) : ∀ (r k : Nat), k + r = nn a → ∀ fuel, r < fuel → fX6_knotsOf_5 fuel (iI m) 0 (iI (mv (p0 a m) k : Int)) (iI k) st = some (iI (mv (p0 a m) (nn a) : Int), st) := by
  intro r
  have hn := ok.n10
  induction r with
  | zero =>
    intro k hk fuel hf
    obtain ⟨f, rfl⟩ : ∃ f, fuel = f + 1 := ⟨fuel - 1, by omega⟩
    have hk' : k = nn a := by omega
    subst hk'
    unfold fX6_knotsOf_5
    rw [h.2.1]
    simp (disch := omega) only [iI_ofNat, iI_add, iI_sub, iI_mul, iI_neg, iI_lt, iI_le, iI_eq, iI_cl]
    rw [if_pos (by omega)]
  | succ r ih =>
    intro k hk fuel hf
    obtain ⟨f, rfl⟩ : ∃ f, fuel = f + 1 := ⟨fuel - 1, by omega⟩
    obtain ⟨o0, o1, o2, o3, o4⟩ := ok.2.2.2.2 k (by omega)
    have e2 : iI ((k : Int) + 1) = iI ((k + 1 : Nat) : Int) := rfl
    have hs := @mk_step (p0 a m) k (by omega)
    unfold fX6_knotsOf_5
    have i1 := R_i1 (k := k) h ok (by omega)
    simp only [i1, Option.bind_some, h.2.1]
    simp only [iI_ofNat] at ih hs
    simp (disch := omega) only [iI_ofNat, iI_add, iI_sub, iI_mul, iI_neg, iI_lt, iI_le, iI_eq, iI_cl]
    rw [e2, if_neg (by omega), if_pos trivial]
    by_cases h1 : a (4 + k) 1 = m
    · rw [if_pos h1, hs.1 (by simp [p0, h1])]
      exact ih (k + 1) (by omega) f (by omega)
    · rw [if_neg h1, hs.2 (by simp [p0, h1])]
      exact ih (k + 1) (by omega) f (by omega)
theorem R_knotsOf0 {st : kM} {a : kY} {m : Int} (h : RR (st.1 60) a) (ok : Ok a) (hm : 0 ≤ m ∧ m < 4) : fX6_knotsOf (iI m) 0 st = some (iI (mv (p0 a m) (nn a) : Int), st) := by
  have hn := ok.n10
  exact R_ko0 h ok hm (nn a) 0 (by omega) kfu (by unfold kfu; omega)
theorem sh0 : ∀ k : Nat, k < 10 → (0 : Int32) <<< (iI (k : Int) &&& 31) = 0 := by decide +kernel
theorem mk_sh {p : Nat → Bool} {k : Nat} {z : Int} (hk : k < 10) (hz : z = 0 ∨ z = 1) (hp : p k = decide (z = 1)) : iI (mv p k : Int) ||| (iI z <<< (iI (k : Int) &&& 31)) = iI (mv p (k + 1) : Int) := by
  have hs := @mk_step p k hk
  rcases hz with rfl | rfl
  · have e : iI (0 : Int) <<< (iI (k : Int) &&& 31) = 0 := sh0 k hk
    rw [e]
    exact hs.2 (by rw [hp]; decide)
  · exact hs.1 (by rw [hp]; decide)
theorem R_fs4 {st : kM} {a : kY} (h : RR (st.1 60) a) (ok : Ok a) : ∀ (r k : Nat), k + r = nn a → ∀ fuel, r < fuel → fX6_fastSet_4 fuel (iI (mv (pf a) k : Int)) (iI k) st = some (iI (mv (pf a) (nn a) : Int), st) := by
  intro r
  have hn := ok.n10
  induction r with
  | zero =>
    intro k hk fuel hf
    obtain ⟨f, rfl⟩ : ∃ f, fuel = f + 1 := ⟨fuel - 1, by omega⟩
    have hk' : k = nn a := by omega
    subst hk'
    unfold fX6_fastSet_4
    rw [h.2.1]
    simp (disch := omega) only [iI_ofNat, iI_add, iI_sub, iI_mul, iI_neg, iI_lt, iI_le, iI_eq, iI_cl]
    rw [if_pos (by omega)]
  | succ r ih =>
    intro k hk fuel hf
    obtain ⟨f, rfl⟩ : ∃ f, fuel = f + 1 := ⟨fuel - 1, by omega⟩
    have o4 := (ok.2.2.2.2 k (by omega)).2.2.2.2
    have e2 : iI ((k : Int) + 1) = iI ((k + 1 : Nat) : Int) := rfl
    have hs := @mk_sh (pf a) k (a (4 + k) 4) (by omega) o4 rfl
    unfold fX6_fastSet_4
    have i3 := R_i3 (k := k) h ok (by omega)
    simp only [i3, Option.bind_some, h.2.1, hs]
    simp (disch := omega) only [iI_ofNat, iI_add, iI_sub, iI_mul, iI_neg, iI_lt, iI_le, iI_eq, iI_cl]
    rw [e2, if_neg (by omega)]
    exact ih (k + 1) (by omega) f (by omega)
theorem R_fastSet {st : kM} {a : kY} (h : RR (st.1 60) a) (ok : Ok a) : fX6_fastSet st = some (iI (mv (pf a) (nn a) : Int), st) := by
  have hn := ok.n10
  exact R_fs4 h ok (nn a) 0 (by omega) kfu (by unfold kfu; omega)
theorem R_us4 {st : kM} {a : kY} (h : RR (st.1 60) a) (ok : Ok a) : ∀ (r k : Nat), k + r = 4 → ∀ fuel, r < fuel → fX6_upSet_4 fuel (iI (mv (pu a) k : Int)) (iI k) st = some (iI (mv (pu a) 4 : Int), st) := by
  intro r
  induction r with
  | zero =>
    intro k hk fuel hf
    obtain ⟨f, rfl⟩ : ∃ f, fuel = f + 1 := ⟨fuel - 1, by omega⟩
    have hk' : k = 4 := by omega
    subst hk'
    unfold fX6_upSet_4
    rw [if_pos (by decide)]
  | succ r ih =>
    intro k hk fuel hf
    obtain ⟨f, rfl⟩ : ∃ f, fuel = f + 1 := ⟨fuel - 1, by omega⟩
    have o4 := (ok.2.2.2.1 k (by omega)).2
    have e2 : iI ((k : Int) + 1) = iI ((k + 1 : Nat) : Int) := rfl
    have hs := @mk_sh (pu a) k (a 3 k) (by omega) o4 rfl
    unfold fX6_upSet_4
    have i3 := R_m1 (m := k) h (by omega)
    simp only [i3, Option.bind_some, hs]
    simp (disch := omega) only [iI_ofNat, iI_add, iI_sub, iI_mul, iI_neg, iI_lt, iI_le, iI_eq, iI_cl]
    rw [e2, if_neg (by omega)]
    exact ih (k + 1) (by omega) f (by omega)
theorem um_mv {a : kY} (ok : Ok a) : um a = (mv (pu a) 4 : Int) := by
  have h0 := (ok.2.2.2.1 0 (by omega)).2
  have h1 := (ok.2.2.2.1 1 (by omega)).2
  have h2 := (ok.2.2.2.1 2 (by omega)).2
  have h3 := (ok.2.2.2.1 3 (by omega)).2
  unfold um
  simp only [mv, pu, decide_eq_true_eq]
  rcases h0 with e0 | e0 <;> rcases h1 with e1 | e1 <;> rcases h2 with e2 | e2 <;> rcases h3 with e3 | e3 <;> rw [e0, e1, e2, e3] <;> rfl
theorem R_upSet {st : kM} {a : kY} (h : RR (st.1 60) a) (ok : Ok a) : fX6_upSet st = some (iI (um a), st) := by
  rw [um_mv ok]
  exact R_us4 h ok 4 0 (by omega) kfu (by unfold kfu; omega)
theorem R_so4 {st : kM} {a : kY} {j : Nat} (hj : j < 5) (h : RR (st.1 60) a) (ok : Ok a) : ∀ (r k : Nat), k + r = nn a → ∀ fuel, r < fuel → fX6_sumOf_4 fuel (iI j) (iI (sm (fun i => a (4 + i) (fm j)) k)) (iI k) st = some (iI (sm (fun i => a (4 + i) (fm j)) (nn a)), st) := by
  intro r
  have hn := ok.n10
  induction r with
  | zero =>
    intro k hk fuel hf
    obtain ⟨f, rfl⟩ : ∃ f, fuel = f + 1 := ⟨fuel - 1, by omega⟩
    have hk' : k = nn a := by omega
    subst hk'
    unfold fX6_sumOf_4
    rw [h.2.1]
    simp (disch := omega) only [iI_ofNat, iI_add, iI_sub, iI_mul, iI_neg, iI_lt, iI_le, iI_eq, iI_cl]
    rw [if_pos (by omega)]
  | succ r ih =>
    intro k hk fuel hf
    obtain ⟨f, rfl⟩ : ∃ f, fuel = f + 1 := ⟨fuel - 1, by omega⟩
    have e2 : iI ((k : Int) + 1) = iI ((k + 1 : Nat) : Int) := rfl
    have e3 : sm (fun i => a (4 + i) (fm j)) k + a (4 + k) (fm j) = sm (fun i => a (4 + i) (fm j)) (k + 1) := rfl
    unfold fX6_sumOf_4
    have i3 := @R_its st k j (by omega) hj
    rw [h.2.2.2.2 k (by omega) j hj] at i3
    simp only [i3, Option.bind_some, h.2.1]
    simp (disch := omega) only [iI_ofNat, iI_add, iI_sub, iI_mul, iI_neg, iI_lt, iI_le, iI_eq, iI_cl]
    rw [e2, e3, if_neg (by omega)]
    exact ih (k + 1) (by omega) f (by omega)
theorem R_sumOf {st : kM} {a : kY} {j : Nat} (hj : j < 5) (h : RR (st.1 60) a) (ok : Ok a) : fX6_sumOf (iI j) st = some (iI (sm (fun i => a (4 + i) (fm j)) (nn a)), st) := by
  have hn := ok.n10
  exact R_so4 hj h ok (nn a) 0 (by omega) kfu (by unfold kfu; omega)
theorem R_we4 {st : kM} {a : kY} (h : RR (st.1 60) a) : ∀ (r k : Nat), k + r = 4 → ∀ fuel, r < fuel → fX6_weights_4 fuel (iI (sm (fun i => a 2 i) k)) (iI k) st = some (iI (sm (fun i => a 2 i) 4), st) := by
  intro r
  induction r with
  | zero =>
    intro k hk fuel hf
    obtain ⟨f, rfl⟩ : ∃ f, fuel = f + 1 := ⟨fuel - 1, by omega⟩
    have hk' : k = 4 := by omega
    subst hk'
    unfold fX6_weights_4
    rw [if_pos (by decide)]
  | succ r ih =>
    intro k hk fuel hf
    obtain ⟨f, rfl⟩ : ∃ f, fuel = f + 1 := ⟨fuel - 1, by omega⟩
    have e2 : iI ((k : Int) + 1) = iI ((k + 1 : Nat) : Int) := rfl
    have e3 : sm (fun i => a 2 i) k + a 2 k = sm (fun i => a 2 i) (k + 1) := rfl
    unfold fX6_weights_4
    have i3 := R_m0 (m := k) h (by omega)
    simp only [i3, Option.bind_some]
    simp (disch := omega) only [iI_ofNat, iI_add, iI_sub, iI_mul, iI_neg, iI_lt, iI_le, iI_eq, iI_cl]
    rw [e2, e3, if_neg (by omega)]
    exact ih (k + 1) (by omega) f (by omega)
theorem R_weights {st : kM} {a : kY} (h : RR (st.1 60) a) : fX6_weights st = some (iI (sm (fun i => a 2 i) 4), st) :=
  R_we4 h 4 0 (by omega) kfu (by unfold kfu; omega)
theorem R_ho4 {st : kM} {a : kY} {m : Int} (h : RR (st.1 60) a) (ok : Ok a) (hm : 0 ≤ m ∧ m < 4) (hh0 : a 0 0 < 2147483648) : ∀ (r k : Nat), k + r = nn a → ∀ fuel, r < fuel → fX6_heldOf_4 fuel (iI m) (iI (sm (hf a m) k)) (iI k) st = some (iI (sm (hf a m) (nn a)), st) := by
  intro r
  have hn := ok.n10
  induction r with
  | zero =>
    intro k hk fuel hf
    obtain ⟨f, rfl⟩ : ∃ f, fuel = f + 1 := ⟨fuel - 1, by omega⟩
    have hk' : k = nn a := by omega
    subst hk'
    unfold fX6_heldOf_4
    rw [h.2.1]
    simp (disch := omega) only [iI_ofNat, iI_add, iI_sub, iI_mul, iI_neg, iI_lt, iI_le, iI_eq, iI_cl]
    rw [if_pos (by omega)]
  | succ r ih =>
    intro k hk fuel hfu
    obtain ⟨f, rfl⟩ : ∃ f, fuel = f + 1 := ⟨fuel - 1, by omega⟩
    obtain ⟨o0, o1, o2, o3, o4⟩ := ok.2.2.2.2 k (by omega)
    have e2 : iI ((k : Int) + 1) = iI ((k + 1 : Nat) : Int) := rfl
    unfold fX6_heldOf_4
    have i1 := R_i1 (k := k) h ok (by omega)
    simp only [i1, Option.bind_some, h.2.1, R_holding (k := k) h ok (by omega) hh0]
    simp (disch := omega) only [iI_ofNat, iI_add, iI_sub, iI_mul, iI_neg, iI_lt, iI_le, iI_eq, iI_cl]
    rw [e2, if_neg (by omega)]
    by_cases h1 : a (4 + k) 1 = m
    · rw [if_pos h1]
      have e3 : sm (hf a m) k + hh a k (wn a) = sm (hf a m) (k + 1) := by show _ = sm (hf a m) k + hf a m k; unfold hf; rw [if_pos h1]
      rw [e3]
      exact ih (k + 1) (by omega) f (by omega)
    · rw [if_neg h1]
      have e3 : sm (hf a m) k + 0 = sm (hf a m) (k + 1) := by show _ = sm (hf a m) k + hf a m k; unfold hf; rw [if_neg h1]
      rw [e3]
      exact ih (k + 1) (by omega) f (by omega)
theorem R_heldOf {st : kM} {a : kY} {m : Int} (h : RR (st.1 60) a) (ok : Ok a) (hm : 0 ≤ m ∧ m < 4) (hh0 : a 0 0 < 2147483648) : fX6_heldOf (iI m) st = some (iI (sm (hf a m) (nn a)), st) := by
  have hn := ok.n10
  exact R_ho4 h ok hm hh0 (nn a) 0 (by omega) kfu (by unfold kfu; omega)
-- two sets
theorem mv_tb (p : Nat → Bool) (n i : Nat) : (mv p n).testBit i = (decide (i < n) && p i) := by
  by_cases h : i < n
  · rw [Nat.testBit_eq_decide_div_mod_eq, mv_bit p h]
    cases p i <;> simp [h]
  · rw [Nat.testBit_lt_two_pow (Nat.lt_of_lt_of_le (mv_lt p n) (Nat.pow_le_pow_right (by omega) (by omega)))]
    simp [h]
theorem mv_and (p q : Nat → Bool) (n : Nat) : mv p n &&& mv q n = mv (fun i => p i && q i) n := by
  apply Nat.eq_of_testBit_eq
  intro i
  rw [Nat.testBit_and, mv_tb, mv_tb, mv_tb]
  cases decide (i < n) <;> simp
theorem iI_and (x y : Nat) : iI (x : Int) &&& iI (y : Int) = iI ((x &&& y : Nat) : Int) := by
  rw [iI_nI, iI_nI, iI_nI]
  apply Int32.toBitVec_inj.mp
  rw [Int32.toBitVec_and]
  show BitVec.ofNat 32 x &&& BitVec.ofNat 32 y = BitVec.ofNat 32 (x &&& y)
  rw [BitVec.ofNat_and]
theorem kf_and (a : kY) (m : Int) : iI (mv (p0 a m) (nn a) : Int) &&& iI (mv (pf a) (nn a) : Int) = iI (mv (pm a m) (nn a) : Int) := by
  rw [iI_and, mv_and]
  congr 2
  refine mv_cong (fun i _ => ?_)
  unfold p0 pf pm
  simp
