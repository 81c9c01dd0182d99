/-! an hour of the reference -/
theorem iI_nI (n : Nat) : iI (n : Int) = nI n := Int32.ofInt_eq_ofNat
theorem sh_k : ∀ k : Nat, k < 10 → ((nI k &&& 31).toBitVec.smod 32).toNat = k := by decide +kernel
theorem mv_bit (p : Nat → Bool) : ∀ {n k : Nat}, k < n → mv p n / 2 ^ k % 2 = if p k then 1 else 0 := by
  intro n
  induction n with
  | zero => intro k h; omega
  | succ n ih =>
    intro k h
    unfold mv
    by_cases e : k = n
    · subst e
      have := mv_lt p k
      split
      · rw [Nat.add_div_right _ (Nat.two_pow_pos k), Nat.div_eq_of_lt this]
      · rw [Nat.add_zero, Nat.div_eq_of_lt this]
    · have hkn : k < n := by omega
      split
      · rw [← ih hkn, show 2 ^ n = 2 ^ k * 2 ^ (n - k) by rw [← Nat.pow_add]; congr 1; omega, Nat.add_mul_div_left _ _ (Nat.two_pow_pos k), show 2 ^ (n - k) = 2 * 2 ^ (n - k - 1) by rw [← Nat.pow_succ']; congr 1; omega, Nat.add_mul_mod_self_left]
      · rw [Nat.add_zero]; exact ih hkn
theorem mk_bit {p : Nat → Bool} {n k : Nat} (hn : n ≤ 10) (hk : k < n) : ((iI (mv p n : Int) >>> (iI (k : Int) &&& 31)) &&& 1) = iI (if p k then 1 else 0) := by
  have h1 := mv_1024 p hn
  rw [iI_nI, iI_nI, pk_shrN (by omega) _ k (sh_k k (by omega)), pk_andN (Nat.lt_of_le_of_lt (Nat.div_le_self _ _) (by omega)) 1 (by decide)]
  rw [show (2 : Nat) ^ 1 = 2 from rfl, mv_bit p hk]
  split <;> rfl
/-- the knots of mast m that give way -/
def pg (b : kY) (m : Nat) (i : Nat) : Bool := decide (b (4 + i) 1 = m ∧ b (4 + i) 4 = 1 ∧ Gw (b (4 + i)) (sn b m (wn b)) (hh b i (wn b)) = 1)
theorem R_pl11 {st : kM} {b : kY} {m : Nat} (h : RR (st.1 60) b) (ok : Ok b) (hm : m < 4) (hh0 : b 0 0 < 2147483648) : ∀ (r k : Nat), k + r = nn b → ∀ fuel, r < fuel → fX6_pulls_11 fuel (iI m) (iI (sn b m (wn b))) (iI (mv (pg b m) k : Int)) (iI k) st = fX6_pulls_74 kfu (iI m) (iI (mv (pg b m) (nn b) : Int)) 0 st := by
  intro r
  have hn := ok.n10
  have hsr := sn_rng ok hm (Ok_wn ok)
  induction r with
  | zero =>
    intro k hk fuel hf
    obtain ⟨f, rfl⟩ : ∃ f, fuel = f + 1 := ⟨fuel - 1, by omega⟩
    have hk' : k = nn b := by omega
    subst hk'
    unfold fX6_pulls_11
    rw [h.2.1]
    rw [if_pos (show iI (b 0 1) ≤ iI (nn b) by rw [iI_le (by omega) (by omega) (by omega) (by omega)]; omega)]
  | succ r ih =>
    intro k hk fuel hf
    obtain ⟨f, rfl⟩ : ∃ f, fuel = f + 1 := ⟨fuel - 1, by omega⟩
    obtain ⟨o0, o1, o2, o3, o4⟩ := ok.2.2.2.2 k (by omega)
    have e2 : iI ((k : Int) + 1) = iI ((k + 1 : Nat) : Int) := rfl
    have hs := @mk_step (pg b m) k (by omega)
    have i1 := R_i1 (k := k) h ok (by omega)
    have i3 := R_i3 (k := k) h ok (by omega)
    have ig := R_isGiving (k := k) h ok (by omega) hh0 hsr
    have hgr := @Gw_rng (b (4 + k)) (sn b m (wn b)) (hh b k (wn b))
    unfold fX6_pulls_11
    simp only [i1, i3, ig, Option.bind_some, h.2.1]
    simp only [iI_ofNat] at ih hs ⊢
    simp (disch := omega) only [iI_ofNat, iI_add, iI_sub, iI_mul, iI_neg, iI_lt, iI_le, iI_eq, iI_cl]
    rw [e2, if_neg (by omega)]
    by_cases h1 : b (4 + k) 1 = m
    · rw [if_pos h1]
      by_cases h4 : b (4 + k) 4 = 1
      · rw [if_pos h4]
        by_cases h5 : Gw (b (4 + k)) (sn b m (wn b)) (hh b k (wn b)) = 0
        · rw [if_pos h5, hs.2 (by simp [pg, h5])]
          exact ih (k + 1) (by omega) f (by omega)
        · rw [if_neg h5, hs.1 (by simp only [pg, h1, h4, show Gw (b (4 + k)) (sn b m (wn b)) (hh b k (wn b)) = 1 by omega]; decide)]
          exact ih (k + 1) (by omega) f (by omega)
      · rw [if_neg h4, hs.2 (by simp [pg, h4])]
        exact ih (k + 1) (by omega) f (by omega)
    · rw [if_neg h1, hs.2 (by simp [pg, h1])]
      exact ih (k + 1) (by omega) f (by omega)
def plk (b : kY) (p : Nat → Bool) (k : Nat) : kY := fun i j => if 4 ≤ i ∧ i < 4 + k ∧ j = 4 ∧ p (i - 4) = true then 0 else b i j
theorem plk_lo {b : kY} {p : Nat → Bool} {k i : Nat} (h : i < 4 ∨ 4 + k ≤ i) : plk b p k i = b i := by funext j; unfold plk; rw [if_neg (by omega)]
theorem plk_j {b : kY} {p : Nat → Bool} {k i j : Nat} (h : j ≠ 4) : plk b p k i j = b i j := by unfold plk; rw [if_neg (by omega)]
theorem Ok_plk {b : kY} {p : Nat → Bool} {k : Nat} (ok : Ok b) : Ok (plk b p k) := by
  refine ⟨by rw [plk_lo (by omega)]; exact ok.1, by rw [plk_lo (by omega)]; exact ok.2.1, by rw [plk_lo (by omega)]; exact ok.2.2.1, fun j hj => by rw [plk_lo (by omega), plk_lo (by omega)]; exact ok.2.2.2.1 j hj, fun i hi => ?_⟩
  have hi' : i < nn b := by unfold nn at hi ⊢; rw [plk_lo (by omega)] at hi; exact hi
  obtain ⟨o0, o1, o2, o3, o4⟩ := ok.2.2.2.2 i hi'
  refine ⟨by rw [plk_j (by omega)]; exact o0, by rw [plk_j (by omega)]; exact o1, by rw [plk_j (by omega)]; exact o2, by rw [plk_j (by omega)]; exact o3, ?_⟩
  unfold plk
  split <;> omega
theorem nn_plk {b : kY} {p : Nat → Bool} {k : Nat} : nn (plk b p k) = nn b := by unfold nn; rw [plk_lo (by omega)]
/-- mast m has pulled -/
def pl (b : kY) (m : Nat) : kY := if cnt (plk b (pg b m) (nn b)) m (nn b) = 0 then ya (plk b (pg b m) (nn b)) 3 m 0 else plk b (pg b m) (nn b)
theorem R_pl74 {st : kM} {b : kY} {m : Nat} (p : Nat → Bool) (ok : Ok b) (hm : m < 4) : ∀ (r k : Nat), k + r = nn b → ∀ fuel, r < fuel → ∀ ρ, RR ρ (plk b p k) → ∃ ρ', fX6_pulls_74 fuel (iI m) (iI (mv p (nn b) : Int)) (iI k) (kset st 60 ρ) = some (kset st 60 ρ') ∧ RR ρ' (if cnt (plk b p (nn b)) m (nn b) = 0 then ya (plk b p (nn b)) 3 m 0 else plk b p (nn b)) := by
  intro r
  have hn := ok.n10
  induction r with
  | zero =>
    intro k hk fuel hf ρ h
    obtain ⟨f, rfl⟩ : ∃ f, fuel = f + 1 := ⟨fuel - 1, by omega⟩
    have hk' : k = nn b := by omega
    subst hk'
    have okp : Ok (plk b p (nn b)) := Ok_plk ok
    have hR : RR ((kset st 60 ρ).1 60) (plk b p (nn b)) := by rw [kset_same]; exact h
    have hk1 := R_knotsOf1 (m := (m : Int)) hR okp (by omega)
    rw [nn_plk] at hk1
    have hq := @R_q1 (kset st 60 ρ) m 0 hm
    have hz := mv_ct (pm (plk b p (nn b)) m) (nn b)
    have hlt := mv_1024 (pm (plk b p (nn b)) m) hn.1
    have hcc := cnt_ct (plk b p (nn b)) m (nn b)
    unfold fX6_pulls_74
    rw [kset_same, h.2.1, plk_lo (by omega)]
    simp only [hk1, hq, Option.bind_some, kwr_kset]
    simp only [iI_ofNat]
    simp (disch := omega) only [iI_ofNat, iI_add, iI_sub, iI_mul, iI_neg, iI_lt, iI_le, iI_eq, iI_cl]
    rw [if_pos (by omega)]
    by_cases h9 : cnt (plk b p (nn b)) m (nn b) = 0
    · rw [if_pos (by omega), if_pos h9]
      exact ⟨_, rfl, RR.up h okp hm⟩
    · rw [if_neg (by omega), if_neg h9]
      exact ⟨_, rfl, h⟩
  | succ r ih =>
    intro k hk fuel hf ρ h
    obtain ⟨f, rfl⟩ : ∃ f, fuel = f + 1 := ⟨fuel - 1, by omega⟩
    have okp : Ok (plk b p k) := Ok_plk ok
    have hR : RR ((kset st 60 ρ).1 60) (plk b p k) := by rw [kset_same]; exact h
    obtain ⟨o0, o1, o2, o3, o4⟩ := ok.2.2.2.2 k (by omega)
    have e2 : iI ((k : Int) + 1) = iI ((k + 1 : Nat) : Int) := rfl
    have i3 := R_i3 (k := k) hR okp (by rw [nn_plk]; omega)
    rw [plk_lo (by omega)] at i3
    have hb := mk_bit (p := p) (n := nn b) (k := k) hn.1 (by omega)
    have p30 := @R_p3 (kset st 60 ρ) k 0 (by omega)
    have p31 := @R_p3 (kset st 60 ρ) k (iI (b (4 + k) 4)) (by omega)
    unfold fX6_pulls_74
    rw [kset_same, h.2.1, plk_lo (by omega), hb]
    simp only [i3, p30, p31, Option.bind_some, kwr_kset]
    simp only [iI_ofNat]
    simp (disch := omega) only [iI_add, iI_le]
    rw [e2, if_neg (by omega)]
    by_cases hp : p k = true
    · rw [if_pos hp, if_pos rfl]
      refine ih (k + 1) (by omega) f (by omega) _ ?_
      have h2 := RR.knot (k := k) (j := 3) (z := 0) h (by omega)
      refine h2.cong ?_ ?_ ?_ ?_ ?_
      · rw [ya_row (by omega), plk_lo (by omega), plk_lo (by omega)]
      · rw [ya_row (by omega), plk_lo (by omega), plk_lo (by omega)]
      · intro i hi; rw [ya_row (by omega), plk_lo (by omega), plk_lo (by omega)]
      · intro i hi; rw [ya_row (by omega), ya_row (by omega), plk_lo (by omega), plk_lo (by omega), plk_lo (by omega), plk_lo (by omega)]; exact ⟨rfl, rfl⟩
      · intro i hi j hj
        rw [ya_eq]
        by_cases e : 4 + i = 4 + k ∧ j = fm 3
        · rw [if_pos e]
          have e3 : i = k := by omega
          subst e3
          unfold plk
          rw [if_pos ⟨by omega, by omega, e.2, by rw [show 4 + i - 4 = i by omega]; exact hp⟩]
        · rw [if_neg e]
          unfold plk
          by_cases e4 : 4 ≤ 4 + i ∧ 4 + i < 4 + k ∧ j = 4 ∧ p (4 + i - 4) = true
          · rw [if_pos e4, if_pos ⟨e4.1, by omega, e4.2.2⟩]
          · rw [if_neg e4, if_neg (fun q => by
              have hik : i = k ∨ i < k := by omega
              rcases hik with e5 | e5
              · exact e ⟨by omega, q.2.2.1⟩
              · exact e4 ⟨q.1, by omega, q.2.2⟩)]
    · rw [if_neg hp, if_neg (by decide)]
      refine ih (k + 1) (by omega) f (by omega) _ ?_
      have h2 := RR.knot (k := k) (j := 3) (z := b (4 + k) 4) h (by omega)
      refine h2.cong ?_ ?_ ?_ ?_ ?_
      · rw [ya_row (by omega), plk_lo (by omega), plk_lo (by omega)]
      · rw [ya_row (by omega), plk_lo (by omega), plk_lo (by omega)]
      · intro i hi; rw [ya_row (by omega), plk_lo (by omega), plk_lo (by omega)]
      · intro i hi; rw [ya_row (by omega), ya_row (by omega), plk_lo (by omega), plk_lo (by omega), plk_lo (by omega), plk_lo (by omega)]; exact ⟨rfl, rfl⟩
      · intro i hi j hj
        rw [ya_eq]
        by_cases e : 4 + i = 4 + k ∧ j = fm 3
        · rw [if_pos e]
          have e3 : i = k := by omega
          subst e3
          have e6 : j = 4 := e.2
          subst e6
          unfold plk
          rw [if_neg (fun q => hp (by rw [show i = 4 + i - 4 by omega]; exact q.2.2.2))]
        · rw [if_neg e]
          unfold plk
          by_cases e4 : 4 ≤ 4 + i ∧ 4 + i < 4 + k ∧ j = 4 ∧ p (4 + i - 4) = true
          · rw [if_pos e4, if_pos ⟨e4.1, by omega, e4.2.2⟩]
          · rw [if_neg e4, if_neg (fun q => by
              have hik : i = k ∨ i < k := by omega
              rcases hik with e5 | e5
              · exact e ⟨by omega, q.2.2.1⟩
              · exact e4 ⟨q.1, by omega, q.2.2⟩)]
theorem R_pulls {st : kM} {b : kY} {m : Nat} {ρ : Nat → Int32} (h : RR ρ b) (ok : Ok b) (hm : m < 4) (hh0 : b 0 0 < 2147483648) : ∃ ρ', fX6_pulls (iI m) (kset st 60 ρ) = some (kset st 60 ρ') ∧ RR ρ' (pl b m) := by
  have hn := ok.n10
  have hR : RR ((kset st 60 ρ).1 60) b := by rw [kset_same]; exact h
  unfold fX6_pulls
  rw [R_strain hR ok hm hh0, Option.bind_some]
  have h1 := R_pl11 hR ok hm hh0 (nn b) 0 (by omega) kfu (by unfold kfu; omega)
  have e0 : plk b (pg b m) 0 = b := by funext i j; unfold plk; rw [if_neg (by omega)]
  have h2 := R_pl74 (st := st) (pg b m) ok hm (nn b) 0 (by omega) kfu (by unfold kfu; omega) ρ (by rw [e0]; exact h)
  obtain ⟨ρ', q1, q2⟩ := h2
  refine ⟨ρ', ?_, q2⟩
  rw [← q1]
  exact h1
