/-! an hour -/
theorem kn_ne {c i : Nat} (b : Nat) (h : b < c + 5 ∨ c + 15 ≤ b) (hi : i < 10) : b ≠ c + 5 + i := by omega
theorem S_lg2 {c : Nat} {a : kY} {w : Int} (ok : Ok a) (hw : 0 ≤ w ∧ w ≤ 99) : ∀ (r k : Nat), k + r = nn a → ∀ (fuel : Nat), r < fuel → ∀ st : kM, CY st c (lgk a w k) → (∀ m : Nat, m < 4 → st.1 (c + 4) m = iI (cnt a m (nn a))) → ∃ st', fX4_letGo_2 c fuel (iI w) (iI k) st = some st' ∧ Fr (fun b => c + 5 ≤ b ∧ b < c + 15) st st' ∧ CY st' c (lgk a w (nn a)) := by
  intro r
  have hn := ok.n10
  induction r with
  | zero =>
    intro k hk fuel hf st h h4
    obtain ⟨f, rfl⟩ : ∃ f, fuel = f + 1 := ⟨fuel - 1, by omega⟩
    have hk' : k = nn a := by omega
    subst hk'
    refine ⟨st, ?_, Fr.rf, h⟩
    unfold fX4_letGo_2
    rw [h.1.2.1, lgk_lo (by omega)]
    simp (disch := omega) only [iI_ofNat, iI_add, iI_sub, iI_mul, iI_neg, iI_lt, iI_le, iI_eq, iI_cl]
    rw [if_pos (by omega)]
  | succ r ih =>
    intro k hk fuel hf st h h4
    obtain ⟨f, rfl⟩ : ∃ f, fuel = f + 1 := ⟨fuel - 1, by omega⟩
    have hnk : nn (lgk a w k) = nn a := by unfold nn; rw [lgk_lo (by omega)]
    have hkr := h.2.2.2 k (by omega)
    rw [lgk_hi (Nat.le_refl _)] at hkr
    have hko := ok.2.2.2.2 k (by omega)
    obtain ⟨g0, g1, g2, g3, g4⟩ := hkr.get
    obtain ⟨o0, o1, o2, o3, o4⟩ := id hko
    have hum : um (lgk a w k) = um a := by unfold um; rw [lgk_lo (by omega)]
    have hu : ∀ m, m < 4 → a 3 m = 0 ∨ a 3 m = 1 := fun m hm => (ok.2.2.2.1 m hm).2
    have hup := @S_isUp st c a (a (4 + k) 1).toNat (by rw [h.1.2.2, hum]) hu (by omega)
    have hst := @S_strain st c a (a (4 + k) 1).toNat w ok (by omega) hw (by rw [h.2.2.1 _ (by omega), lgk_lo (by omega)]) (h4 _ (by omega))
    have hhb := @S_heldBy st c a k w ok (by omega) hw hkr h4
    have hgw := S_givesWay hkr hko (sn_rng ok (m := (a (4 + k) 1).toNat) (by omega) hw) (hh_rng (k := k) ok (by omega) hw)
    have em : ((a (4 + k) 1).toNat : Int) = a (4 + k) 1 := by omega
    rw [em] at hup hst
    have e2 : iI ((k : Int) + 1) = iI ((k + 1 : Nat) : Int) := rfl
    have hgr : Gw (a (4 + k)) (sn a (a (4 + k) 1).toNat w) (hh a k w) = gv a k w := rfl
    rw [hgr] at hgw
    have hgv : gv a k w = 0 ∨ gv a k w = 1 := Gw_rng
    have hu1 := hu (a (4 + k) 1).toNat (by omega)
    unfold fX4_letGo_2
    rw [h.1.2.1, lgk_lo (by omega)]
    simp (disch := omega) only [iI_ofNat, iI_add, iI_sub, iI_mul, iI_neg, iI_lt, iI_le, iI_eq, iI_cl, Int.toNat_natCast]
    rw [if_neg (by omega), if_neg (by omega)]
    simp only [g4, g1, hup, Option.bind_some, hst, hhb, hgw]
    simp (disch := omega) only [iI_ofNat, iI_add, iI_sub, iI_mul, iI_neg, iI_lt, iI_le, iI_eq, iI_cl]
    rw [e2]
    -- the same knots, one more told
    have keep : f1 a w k = a (4 + k) 4 → CY st c (lgk a w (k + 1)) := by
      intro e
      have : lgk a w (k + 1) = lgk a w k := by
        funext i j
        by_cases h9 : i = 4 + k ∧ j = 4
        · obtain ⟨rfl, rfl⟩ := h9
          unfold lgk
          rw [if_pos ⟨by omega, by omega, rfl⟩, if_neg (by omega), show 4 + k - 4 = k by omega, e]
        · unfold lgk
          by_cases h8 : 4 ≤ i ∧ i < 4 + k ∧ j = 4
          · rw [if_pos h8, if_pos (by omega)]
          · rw [if_neg h8, if_neg (by omega)]
      rw [this]; exact h
    by_cases h5 : a (4 + k) 4 = 0
    · rw [if_pos h5]
      exact ih (k + 1) (by omega) f (by omega) st (keep (by unfold f1; rw [if_neg (by omega)])) h4
    · rw [if_neg h5]
      by_cases h6 : a 3 (a (4 + k) 1).toNat = 0
      · rw [if_pos h6]
        exact ih (k + 1) (by omega) f (by omega) st (keep (by unfold f1; rw [if_neg (by omega)])) h4
      · rw [if_neg h6]
        by_cases h7 : gv a k w = 0
        · rw [if_pos h7]
          exact ih (k + 1) (by omega) f (by omega) st (keep (by unfold f1; rw [if_neg (by omega)])) h4
        · rw [if_neg h7]
          have hfz : f1 a w k = 0 := by unfold f1; rw [if_pos (by omega)]
          have hcy : CY (kwr st (c + 5 + k) 4 (iI 0)) c (lgk a w (k + 1)) := by
            have hne : ∀ b, b < c + 5 → (kwr st (c + 5 + k) 4 (iI 0)).1 b = st.1 b := fun b hb => kwr_ne _ _ _ (by omega)
            have hum1 : um (lgk a w (k + 1)) = um a := by unfold um; rw [lgk_lo (by omega)]
            refine ⟨?_, ?_, ?_, ?_⟩
            · rw [hne _ (by omega), lgk_lo (by omega), hum1, ← hum]
              have := h.1
              rw [lgk_lo (by omega)] at this
              exact this
            · intro i hi
              rw [hne _ (by omega), h.2.1 i hi, lgk_lo (by omega), lgk_lo (by omega)]
            · intro i hi
              rw [hne _ (by omega), h.2.2.1 i hi, lgk_lo (by omega), lgk_lo (by omega)]
            · intro i hi
              have hi' : i < nn a := by unfold nn at hi ⊢; rw [lgk_lo (by omega)] at hi; exact hi
              by_cases e : i = k
              · subst e
                rw [lgk_in (by omega), hfz]
                exact hkr.wr
              · refine (h.2.2.2 i (by omega)).cong (kwr_ne _ _ _ (by omega)) (fun j _ => ?_)
                by_cases h8 : i < k
                · rw [lgk_in h8, lgk_in (by omega)]
                · rw [lgk_hi (by omega), lgk_hi (by omega)]
          obtain ⟨st', q1, q2, q3⟩ := ih (k + 1) (by omega) f (by omega) _ hcy (fun m hm => by rw [kwr_ne _ _ _ (by omega)]; exact h4 m hm)
          exact ⟨st', q1, (Fr.wr 4 _ (by omega)).tr q2, q3⟩
/-- all that give way are gone -/
def lg (a : kY) (w : Int) : kY := lgk a w (nn a)
theorem nn_lg {a : kY} {w : Int} : nn (lg a w) = nn a := by unfold lg nn; rw [lgk_lo (by omega)]
theorem S_letGo {st : kM} {c : Nat} {a : kY} {w : Int} (ok : Ok a) (hw : 0 ≤ w ∧ w ≤ 99) (h : CY st c a) (h4 : ∀ m : Nat, m < 4 → st.1 (c + 4) m = iI (cnt a m (nn a))) : ∃ st', fX4_letGo c (iI w) st = some st' ∧ Fr (fun b => c + 5 ≤ b ∧ b < c + 15) st st' ∧ CY st' c (lg a w) := by
  have hn := ok.n10
  have e : lgk a w 0 = a := by funext i j; unfold lgk; rw [if_neg (by omega)]
  exact S_lg2 ok hw (nn a) 0 (by omega) kfu (by unfold kfu; omega) st (by rw [e]; exact h) h4
/-- masts that no knot holds are down -/
def dmk (b : kY) (m : Nat) : kY := fun i j => if i = 3 ∧ j < m ∧ cnt b j (nn b) = 0 then 0 else b i j
theorem dmk_ne {b : kY} {m i : Nat} (h : i ≠ 3) : dmk b m i = b i := by funext j; unfold dmk; rw [if_neg (by omega)]
theorem Ok_dmk {b : kY} {m : Nat} (ok : Ok b) : Ok (dmk b m) := by
  refine ⟨by rw [dmk_ne (by omega)]; exact ok.1, by rw [dmk_ne (by omega)]; exact ok.2.1, by rw [dmk_ne (by omega)]; exact ok.2.2.1, fun j hj => ?_, fun k hk => ?_⟩
  · rw [dmk_ne (by omega)]
    refine ⟨(ok.2.2.2.1 j hj).1, ?_⟩
    have := (ok.2.2.2.1 j hj).2
    unfold dmk
    split <;> omega
  · rw [dmk_ne (by omega)]
    exact ok.2.2.2.2 k (by unfold nn at hk ⊢; rw [dmk_ne (by omega)] at hk; exact hk)
theorem um_cong {a b : kY} (h : ∀ m, m < 4 → a 3 m = b 3 m) : um a = um b := by
  unfold um
  rw [h 0 (by omega), h 1 (by omega), h 2 (by omega), h 3 (by omega)]
theorem S_dm2 {c : Nat} {b : kY} (ok : Ok b) : ∀ (r k : Nat), k + r = 4 → ∀ (fuel : Nat), r < fuel → ∀ st : kM, CY st c (dmk b k) → (∀ m : Nat, m < 4 → st.1 (c + 4) m = iI (cnt b m (nn b))) → ∃ st', fX4_dropMasts_2 c fuel (iI k) st = some st' ∧ Fr (fun x => x = c) st st' ∧ CY st' c (dmk b 4) := by
  intro r
  have hn := ok.n10
  induction r with
  | zero =>
    intro k hk fuel hf st h h4
    obtain ⟨f, rfl⟩ : ∃ f, fuel = f + 1 := ⟨fuel - 1, by omega⟩
    have hk' : k = 4 := by omega
    subst hk'
    refine ⟨st, ?_, Fr.rf, h⟩
    unfold fX4_dropMasts_2
    simp (disch := omega) only [iI_ofNat, iI_add, iI_sub, iI_mul, iI_neg, iI_lt, iI_le, iI_eq, iI_cl]
    rw [if_pos (by omega)]
  | succ r ih =>
    intro k hk fuel hf st h h4
    obtain ⟨f, rfl⟩ : ∃ f, fuel = f + 1 := ⟨fuel - 1, by omega⟩
    have hc := cnt_rng b k (nn b)
    have okd := Ok_dmk (m := k) ok
    have e2 : iI ((k : Int) + 1) = iI ((k + 1 : Nat) : Int) := rfl
    have hp := (S_putUp (m := k) h.1.2.2 (fun m hm => (okd.2.2.2.1 m hm).2) (by omega)).1
    unfold fX4_dropMasts_2
    simp (disch := omega) only [iI_ofNat, iI_add, iI_sub, iI_mul, iI_neg, iI_lt, iI_le, iI_eq, iI_cl, Int.toNat_natCast]
    rw [if_neg (by omega), if_neg (by omega), h4 k (by omega)]
    have e0 : (iI 0 : Int32) = 0 := rfl
    rw [e0, hp, Option.bind_some]
    rw [← e0]
    simp (disch := omega) only [iI_ofNat, iI_add, iI_sub, iI_mul, iI_neg, iI_lt, iI_le, iI_eq, iI_cl]
    rw [e2]
    by_cases h5 : cnt b k (nn b) = 0
    · rw [if_pos h5]
      have hya : ya (dmk b k) 3 k 0 = dmk b (k + 1) := by
        funext i j
        rw [ya_eq]
        unfold dmk
        by_cases h8 : i = 3 ∧ j = k
        · obtain ⟨rfl, rfl⟩ := h8
          rw [if_pos ⟨rfl, rfl⟩, if_pos ⟨rfl, by omega, h5⟩]
        · rw [if_neg h8]
          by_cases h9 : i = 3 ∧ j < k ∧ cnt b j (nn b) = 0
          · rw [if_pos h9, if_pos ⟨h9.1, by omega, h9.2.2⟩]
          · rw [if_neg h9, if_neg (fun q => h9 ⟨q.1, by omega, q.2.2⟩)]
      rw [hya]
      have hcy : CY (kwr st c 2 (iI (um (dmk b (k + 1))))) c (dmk b (k + 1)) := by
        refine ⟨⟨?_, ?_, ?_⟩, ?_, ?_, ?_⟩
        · rw [kwr_same, up_ne _ _ (by omega), dmk_ne (by omega)]; have := h.1.1; rw [dmk_ne (by omega)] at this; exact this
        · rw [kwr_same, up_ne _ _ (by omega), dmk_ne (by omega)]; have := h.1.2.1; rw [dmk_ne (by omega)] at this; exact this
        · rw [kwr_same, up_eq]
        · intro i hi; rw [kwr_ne _ _ _ (by omega), h.2.1 i hi, dmk_ne (by omega), dmk_ne (by omega)]
        · intro i hi; rw [kwr_ne _ _ _ (by omega), h.2.2.1 i hi, dmk_ne (by omega), dmk_ne (by omega)]
        · intro i hi
          have hi' : i < nn b := by unfold nn at hi ⊢; rw [dmk_ne (by omega)] at hi; exact hi
          have := h.2.2.2 i (by unfold nn at hi' ⊢; rw [dmk_ne (by omega)]; exact hi')
          refine this.cong (kwr_ne _ _ _ (by omega)) (fun j _ => ?_)
          rw [dmk_ne (by omega), dmk_ne (by omega)]
      obtain ⟨st', q1, q2, q3⟩ := ih (k + 1) (by omega) f (by omega) _ hcy (fun m hm => by rw [kwr_ne _ _ _ (by omega)]; exact h4 m hm)
      exact ⟨st', q1, (Fr.wr (P := fun x => x = c) 2 _ rfl).tr q2, q3⟩
    · rw [if_neg h5]
      have : dmk b (k + 1) = dmk b k := by
        funext i j
        unfold dmk
        by_cases h9 : i = 3 ∧ j < k ∧ cnt b j (nn b) = 0
        · rw [if_pos h9, if_pos ⟨h9.1, by omega, h9.2.2⟩]
        · rw [if_neg h9, if_neg (fun q => by
            have hjk : j = k ∨ j < k := by omega
            rcases hjk with e | e
            · subst e; exact h5 q.2.2
            · exact h9 ⟨q.1, e, q.2.2⟩)]
      exact ih (k + 1) (by omega) f (by omega) st (by rw [this]; exact h) h4
theorem S_dropMasts {st : kM} {c : Nat} {b : kY} (ok : Ok b) (h : CY st c b) (h4 : ∀ m : Nat, m < 4 → st.1 (c + 4) m = iI (cnt b m (nn b))) : ∃ st', fX4_dropMasts c st = some st' ∧ Fr (fun x => x = c) st st' ∧ CY st' c (dmk b 4) := by
  have e : dmk b 0 = b := by funext i j; unfold dmk; rw [if_neg (by omega)]
  exact S_dm2 ok 4 0 (by omega) kfu (by unfold kfu; omega) st (by rw [e]; exact h) h4
/-- the fast settle -/
def skk (b : kY) (w : Int) (k : Nat) : kY := fun i => if 4 ≤ i ∧ i < 4 + k ∧ b i 4 = 1 then sz (b i) w else b i
theorem skk_lo {b : kY} {w : Int} {k i : Nat} (h : i < 4 ∨ 4 + k ≤ i) : skk b w k i = b i := by unfold skk; rw [if_neg (by omega)]
theorem Ok_skk {b : kY} {w : Int} {k : Nat} (ok : Ok b) : Ok (skk b w k) := by
  refine ⟨by rw [skk_lo (by omega)]; exact ok.1, by rw [skk_lo (by omega)]; exact ok.2.1, by rw [skk_lo (by omega)]; exact ok.2.2.1, fun j hj => by rw [skk_lo (by omega), skk_lo (by omega)]; exact ok.2.2.2.1 j hj, fun i hi => ?_⟩
  have hi' : i < nn b := by unfold nn at hi ⊢; rw [skk_lo (by omega)] at hi; exact hi
  have := ok.2.2.2.2 i hi'
  unfold skk
  split
  · exact Kok_sz this
  · exact this
theorem S_sk2 {c : Nat} {b : kY} {w : Int} (ok : Ok b) (hw : 0 ≤ w ∧ w ≤ 99) : ∀ (r k : Nat), k + r = nn b → ∀ (fuel : Nat), r < fuel → ∀ st : kM, CY st c (skk b w k) → ∃ st', fX4_settleKnots_2 c fuel (iI w) (iI k) st = some st' ∧ Fr (fun x => c + 5 ≤ x ∧ x < c + 15) st st' ∧ CY st' c (skk b w (nn b)) := by
  intro r
  have hn := ok.n10
  induction r with
  | zero =>
    intro k hk fuel hf st h
    obtain ⟨f, rfl⟩ : ∃ f, fuel = f + 1 := ⟨fuel - 1, by omega⟩
    have hk' : k = nn b := by omega
    subst hk'
    refine ⟨st, ?_, Fr.rf, h⟩
    unfold fX4_settleKnots_2
    rw [h.1.2.1, skk_lo (by omega)]
    simp (disch := omega) only [iI_ofNat, iI_add, iI_sub, iI_mul, iI_neg, iI_lt, iI_le, iI_eq, iI_cl]
    rw [if_pos (by omega)]
  | succ r ih =>
    intro k hk fuel hf st h
    obtain ⟨f, rfl⟩ : ∃ f, fuel = f + 1 := ⟨fuel - 1, by omega⟩
    have hkr := h.2.2.2 k (by unfold nn; rw [skk_lo (by omega)]; unfold nn at hk; omega)
    rw [skk_lo (by omega)] at hkr
    have hko := ok.2.2.2.2 k (by omega)
    obtain ⟨g0, g1, g2, g3, g4⟩ := hkr.get
    have o4 := hko.2.2.2.2
    have e2 : iI ((k : Int) + 1) = iI ((k + 1 : Nat) : Int) := rfl
    unfold fX4_settleKnots_2
    rw [h.1.2.1, skk_lo (by omega)]
    simp (disch := omega) only [iI_ofNat, iI_add, iI_sub, iI_mul, iI_neg, iI_lt, iI_le, iI_eq, iI_cl, Int.toNat_natCast]
    rw [if_neg (by omega), if_neg (by omega), g4, S_settle hkr hko hw, Option.bind_some]
    simp (disch := omega) only [iI_ofNat, iI_add, iI_sub, iI_mul, iI_neg, iI_lt, iI_le, iI_eq, iI_cl]
    rw [e2]
    by_cases h5 : b (4 + k) 4 = 0
    · rw [if_pos h5]
      have : skk b w (k + 1) = skk b w k := by
        funext i
        unfold skk
        by_cases h9 : i = 4 + k
        · subst h9; rw [if_neg (by omega), if_neg (by omega)]
        · by_cases h8 : 4 ≤ i ∧ i < 4 + k ∧ b i 4 = 1
          · rw [if_pos h8, if_pos (by omega)]
          · rw [if_neg h8, if_neg (by omega)]
      exact ih (k + 1) (by omega) f (by omega) st (by rw [this]; exact h)
    · rw [if_neg h5]
      have hcy : CY (kwr (kwr st (c + 5 + k) 2 (iI (Cl (b (4 + k) 2 + -Sg (b (4 + k)) w)))) (c + 5 + k) 3 (iI (Ag (b (4 + k) 3 + 1)))) c (skk b w (k + 1)) := by
        have hne : ∀ x, x ≠ c + 5 + k → (kwr (kwr st (c + 5 + k) 2 (iI (Cl (b (4 + k) 2 + -Sg (b (4 + k)) w)))) (c + 5 + k) 3 (iI (Ag (b (4 + k) 3 + 1)))).1 x = st.1 x := fun x hx => by rw [kwr_ne _ _ _ hx, kwr_ne _ _ _ hx]
        refine ⟨?_, ?_, ?_, ?_⟩
        · rw [hne _ (by omega), skk_lo (by omega)]
          have e : um (skk b w (k + 1)) = um (skk b w k) := um_cong (fun m _ => by rw [skk_lo (by omega), skk_lo (by omega)])
          rw [e]
          have := h.1
          rw [skk_lo (by omega)] at this
          exact this
        · intro i hi; rw [hne _ (by omega), h.2.1 i hi, skk_lo (by omega), skk_lo (by omega)]
        · intro i hi; rw [hne _ (by omega), h.2.2.1 i hi, skk_lo (by omega), skk_lo (by omega)]
        · intro i hi
          have hi' : i < nn b := by unfold nn at hi ⊢; rw [skk_lo (by omega)] at hi; exact hi
          by_cases e : i = k
          · subst e
            have : skk b w (i + 1) (4 + i) = sz (b (4 + i)) w := by unfold skk; rw [if_pos (by omega)]
            rw [this]
            exact (hkr.wr).wr
          · refine (h.2.2.2 i (by unfold nn; rw [skk_lo (by omega)]; exact hi')).cong (hne _ (by omega)) (fun j _ => ?_)
            unfold skk
            by_cases h8 : 4 ≤ 4 + i ∧ 4 + i < 4 + k ∧ b (4 + i) 4 = 1
            · rw [if_pos h8, if_pos (by omega)]
            · rw [if_neg h8, if_neg (by omega)]
      obtain ⟨st', q1, q2, q3⟩ := ih (k + 1) (by omega) f (by omega) _ hcy
      exact ⟨st', q1, ((Fr.wr 2 _ (by omega)).tr (Fr.wr 3 _ (by omega))).tr q2, q3⟩
theorem S_settleKnots {st : kM} {c : Nat} {b : kY} {w : Int} (ok : Ok b) (hw : 0 ≤ w ∧ w ≤ 99) (h : CY st c b) : ∃ st', fX4_settleKnots c (iI w) st = some st' ∧ Fr (fun x => c + 5 ≤ x ∧ x < c + 15) st st' ∧ CY st' c (skk b w (nn b)) := by
  have hn := ok.n10
  have e : skk b w 0 = b := by funext i; unfold skk; rw [if_neg (by omega)]
  exact S_sk2 ok hw (nn b) 0 (by omega) kfu (by unfold kfu; omega) st (by rw [e]; exact h)
/-- AN HOUR -/
def hour (a : kY) : kY := ya (skk (dmk (lg a (wn a)) 4) (wn a) (nn a)) 0 0 (a 0 0 + 1)
theorem hour_0 (a : kY) : hour a 0 0 = a 0 0 + 1 ∧ hour a 0 1 = a 0 1 := by
  unfold hour
  constructor
  · rw [ya_eq, if_pos ⟨rfl, rfl⟩]
  · rw [ya_eq, if_neg (by omega), skk_lo (by omega), dmk_ne (by omega), lg, lgk_lo (by omega)]
theorem nn_hour (a : kY) : nn (hour a) = nn a := by unfold nn; rw [(hour_0 a).2]
theorem hour_12 (a : kY) {i : Nat} (h : i = 1 ∨ i = 2) : hour a i = a i := by
  unfold hour
  rw [ya_row (by omega), skk_lo (by omega), dmk_ne (by omega), lg, lgk_lo (by omega)]
theorem Ok_lg {a : kY} {w : Int} (ok : Ok a) : Ok (lg a w) := Ok_lgk ok (Nat.le_refl _)
theorem Ok_ya00 {a : kY} {z : Int} (ok : Ok a) (hz : 0 ≤ z) : Ok (ya a 0 0 z) := by
  refine ⟨by rw [ya_eq, if_pos ⟨rfl, rfl⟩]; exact hz, by rw [ya_eq, if_neg (by omega)]; exact ok.2.1, by rw [ya_row (by omega)]; exact ok.2.2.1, fun j hj => by rw [ya_row (by omega), ya_row (by omega)]; exact ok.2.2.2.1 j hj, fun i hi => ?_⟩
  rw [ya_row (by omega)]
  exact ok.2.2.2.2 i (by unfold nn at hi ⊢; rw [ya_eq, if_neg (by omega)] at hi; exact hi)
theorem Ok_hour {a : kY} (ok : Ok a) : Ok (hour a) := Ok_ya00 (Ok_skk (Ok_dmk (Ok_lg ok))) (by have := ok.1; omega)
/-- the cells of a yard -/
def yc (c : Nat) : Nat → Prop := fun b => c ≤ b ∧ b < c + 15
theorem S_passHour {st : kM} {c : Nat} {a : kY} (h : CY st c a) (ok : Ok a) (hb : a 0 0 < 2000000000) : ∃ st', fX4_passHour c st = some st' ∧ Fr (yc c) st st' ∧ CY st' c (hour a) := by
  have hw := Ok_wn ok
  unfold fX4_passHour
  rw [S_windNow h ok (by omega), Option.bind_some]
  obtain ⟨φ, e1, p1⟩ := S_countFast h ok
  rw [e1, Option.bind_some]
  obtain ⟨s2, e2, r2, c2⟩ := S_letGo ok hw (h.set4 ok φ) (fun m hm => by rw [kset_same]; exact p1 m hm)
  rw [e2, Option.bind_some]
  have ok2 : Ok (lg a (wn a)) := Ok_lg ok
  obtain ⟨ψ, e3, p3⟩ := S_countFast c2 ok2
  rw [e3, Option.bind_some]
  obtain ⟨s4, e4, r4, c4⟩ := S_dropMasts ok2 (c2.set4 ok2 ψ) (fun m hm => by rw [kset_same]; exact p3 m hm)
  rw [e4, Option.bind_some]
  have ok4 : Ok (dmk (lg a (wn a)) 4) := Ok_dmk ok2
  have n4 : nn (dmk (lg a (wn a)) 4) = nn a := by unfold nn; rw [dmk_ne (by omega), lg, lgk_lo (by omega)]
  obtain ⟨s5, e5, r5, c5⟩ := S_settleKnots ok4 hw c4
  rw [n4] at c5
  rw [e5, Option.bind_some, Option.bind_some]
  have h0 : s5.1 c 0 = iI (a 0 0) := by rw [c5.1.1, skk_lo (by omega), dmk_ne (by omega), lg, lgk_lo (by omega)]
  rw [h0]
  simp (disch := omega) only [iI_ofNat, iI_add, iI_sub, iI_mul, iI_neg, iI_lt, iI_le, iI_eq, iI_cl]
  refine ⟨_, rfl, ?_, ?_⟩
  · have m5 : Fr (yc c) s4 s5 := r5.mono (fun b hb => ⟨by omega, by omega⟩)
    have m4 : Fr (yc c) (kset s2 (c + 4) ψ) s4 := r4.mono (fun b hb => ⟨by omega, by omega⟩)
    have m2 : Fr (yc c) (kset st (c + 4) φ) s2 := r2.mono (fun b hb => ⟨by omega, by omega⟩)
    exact ((((Fr.set φ (by unfold yc; omega)).tr m2).tr (Fr.set ψ (by unfold yc; omega))).tr m4).tr (m5.tr (Fr.wr 0 _ (by unfold yc; omega)))
  · have ok5 := Ok_skk (w := wn a) (k := nn a) ok4
    have n5 := ok5.n10
    refine ⟨⟨?_, ?_, ?_⟩, ?_, ?_, ?_⟩
    · rw [kwr_same, up_eq, (hour_0 a).1]
    · rw [kwr_same, up_ne _ _ (by omega), c5.1.2.1]; unfold hour; rw [ya_eq, if_neg (by omega)]
    · rw [kwr_same, up_ne _ _ (by omega), c5.1.2.2]; unfold hour um; rw [ya_row (by omega)]
    · intro i hi; rw [kwr_ne _ _ _ (by omega), c5.2.1 i hi]; unfold hour; rw [ya_row (by omega)]
    · intro i hi; rw [kwr_ne _ _ _ (by omega), c5.2.2.1 i hi]; unfold hour; rw [ya_row (by omega)]
    · intro i hi
      have hi' : i < nn (skk (dmk (lg a (wn a)) 4) (wn a) (nn a)) := by unfold nn at hi ⊢; unfold hour at hi; rw [ya_eq, if_neg (by omega)] at hi; exact hi
      refine (c5.2.2.2 i hi').cong (kwr_ne _ _ _ (by omega)) (fun j _ => ?_)
      unfold hour; rw [ya_row (by omega)]
