/-! a yard, as numbers: 0: hour, how many; 1: winds; 2: weights; 3: up; 4 + k: knot k -/
abbrev kY : Type := Nat → Nat → Int
def nn (a : kY) : Nat := (a 0 1).toNat
def um (a : kY) : Int := a 3 0 + 2 * a 3 1 + 4 * a 3 2 + 8 * a 3 3
def wn (a : kY) : Int := a 1 (a 0 0 % 12).toNat
def Ok (a : kY) : Prop := 0 ≤ a 0 0 ∧ (0 ≤ a 0 1 ∧ a 0 1 ≤ 10) ∧ (∀ i, i < 12 → 0 ≤ a 1 i ∧ a 1 i ≤ 99) ∧ (∀ m, m < 4 → (0 ≤ a 2 m ∧ a 2 m ≤ 999) ∧ (a 3 m = 0 ∨ a 3 m = 1)) ∧ ∀ k, k < nn a → Kok (a (4 + k))
theorem Ok.n10 {a : kY} (h : Ok a) : nn a ≤ 10 ∧ (nn a : Int) = a 0 1 := by have := h.2.1; unfold nn; omega
theorem Ok_wn {a : kY} (h : Ok a) : 0 ≤ wn a ∧ wn a ≤ 99 := h.2.2.1 _ (by have := h.1; omega)
/-- the yard at cell c is a -/
def CY (st : kM) (c : Nat) (a : kY) : Prop := (st.1 c 0 = iI (a 0 0) ∧ st.1 c 1 = iI (a 0 1) ∧ st.1 c 2 = iI (um a)) ∧ (∀ i, i < 12 → st.1 (c + 1) i = iI (a 1 i)) ∧ (∀ m, m < 4 → st.1 (c + 2) m = iI (a 2 m)) ∧ ∀ k, k < nn a → Kr st (c + 5 + k) (a (4 + k))
theorem CY.cong {st st' : kM} {c : Nat} {a : kY} (h : CY st c a) (ok : Ok a) (hs : ∀ b, (b = c ∨ b = c + 1 ∨ b = c + 2 ∨ (c + 5 ≤ b ∧ b < c + 15)) → st'.1 b = st.1 b) : CY st' c a := by
  have := ok.n10
  refine ⟨?_, ?_, ?_, ?_⟩
  · rw [hs c (Or.inl rfl)]; exact h.1
  · rw [hs (c + 1) (by omega)]; exact h.2.1
  · rw [hs (c + 2) (by omega)]; exact h.2.2.1
  · intro k hk
    exact (h.2.2.2 k hk).cong (hs _ (by omega)) (fun _ _ => rfl)
theorem CY.set4 {st : kM} {c : Nat} {a : kY} (h : CY st c a) (ok : Ok a) (φ : Nat → Int32) : CY (kset st (c + 4) φ) c a := h.cong ok (fun b hb => kset_ne st φ (by omega))
theorem S_windNow {st : kM} {c : Nat} {a : kY} (h : CY st c a) (ok : Ok a) (hh : a 0 0 < 2147483648) : fX4_windNow c st = some (iI (wn a), st) := by
  have h0 := ok.1
  unfold fX4_windNow fX4_place
  rw [h.1.1, iI_ofNat, iI_rem h0 hh (by omega) (by omega), Option.bind_some]
  simp (disch := omega) only [iI_ofNat, iI_add, iI_sub, iI_mul, iI_neg, iI_lt, iI_le, iI_eq, iI_cl]
  rw [if_neg (by omega), h.2.1 _ (by omega)]
  rfl
theorem u_bits {u0 u1 u2 u3 : Int} (h0 : u0 = 0 ∨ u0 = 1) (h1 : u1 = 0 ∨ u1 = 1) (h2 : u2 = 0 ∨ u2 = 1) (h3 : u3 = 0 ∨ u3 = 1) (m : Nat) (hm : m < 4) :
    ((iI (u0 + 2 * u1 + 4 * u2 + 8 * u3) >>> (iI m &&& 31)) &&& 1 = iI (if m = 0 then u0 else if m = 1 then u1 else if m = 2 then u2 else u3)) ∧
    (iI (u0 + 2 * u1 + 4 * u2 + 8 * u3) &&& (((1 : Int32) <<< (iI m &&& 31)) ^^^ (-1 : Int32)) = iI ((if m = 0 then 0 else u0) + 2 * (if m = 1 then 0 else u1) + 4 * (if m = 2 then 0 else u2) + 8 * (if m = 3 then 0 else u3))) ∧
    (iI (u0 + 2 * u1 + 4 * u2 + 8 * u3) ||| ((1 : Int32) <<< (iI m &&& 31)) = iI ((if m = 0 then 1 else u0) + 2 * (if m = 1 then 1 else u1) + 4 * (if m = 2 then 1 else u2) + 8 * (if m = 3 then 1 else u3))) := by
  have hm' : m = 0 ∨ m = 1 ∨ m = 2 ∨ m = 3 := by omega
  rcases h0 with rfl | rfl <;> rcases h1 with rfl | rfl <;> rcases h2 with rfl | rfl <;> rcases h3 with rfl | rfl <;> rcases hm' with rfl | rfl | rfl | rfl <;> decide +kernel
/-- the number at a place anew -/
def ya (a : kY) (i j : Nat) (z : Int) : kY := va_up a i (va_up (a i) j z)
theorem ya_eq (a : kY) (i j : Nat) (z : Int) (x y : Nat) : ya a i j z x y = if x = i ∧ y = j then z else a x y := by
  unfold ya
  by_cases h : x = i
  · subst h
    by_cases h2 : y = j
    · subst h2; simp [va_up]
    · simp [va_up, h2]
  · simp [va_up, h]
theorem ya_row {a : kY} {i j : Nat} {z : Int} {x : Nat} (h : x ≠ i) : ya a i j z x = a x := by simp [ya, va_up, h]
theorem S_isUp {st : kM} {c : Nat} {a : kY} {m : Nat} (h2 : st.1 c 2 = iI (um a)) (hu : ∀ m, m < 4 → a 3 m = 0 ∨ a 3 m = 1) (hm : m < 4) : fX4_isUp c (iI m) st = some (iI (a 3 m), st) := by
  obtain ⟨g1, -, -⟩ := u_bits (hu 0 (by omega)) (hu 1 (by omega)) (hu 2 (by omega)) (hu 3 (by omega)) m hm
  unfold fX4_isUp
  rw [h2, um, g1]
  have e : (if m = 0 then a 3 0 else if m = 1 then a 3 1 else if m = 2 then a 3 2 else a 3 3) = a 3 m := by
    have hm' : m = 0 ∨ m = 1 ∨ m = 2 ∨ m = 3 := by omega
    rcases hm' with rfl | rfl | rfl | rfl <;> simp
  rw [e]
  have := hu m hm
  simp (disch := omega) only [iI_ofNat, iI_add, iI_sub, iI_mul, iI_neg, iI_lt, iI_le, iI_eq, iI_cl]
  split
  · rename_i h9; rw [h9]
  · rename_i h9; rw [show a 3 m = 0 by omega]
theorem S_putUp {st : kM} {c : Nat} {a : kY} {m : Nat} (h2 : st.1 c 2 = iI (um a)) (hu : ∀ m, m < 4 → a 3 m = 0 ∨ a 3 m = 1) (hm : m < 4) : fX4_putUp c (iI m) 0 st = some (kwr st c 2 (iI (um (ya a 3 m 0)))) ∧ fX4_putUp c (iI m) 1 st = some (kwr st c 2 (iI (um (ya a 3 m 1)))) := by
  obtain ⟨-, g2, g3⟩ := u_bits (hu 0 (by omega)) (hu 1 (by omega)) (hu 2 (by omega)) (hu 3 (by omega)) m hm
  unfold fX4_putUp
  rw [h2]
  simp only [Option.bind_some, um, ya_eq]
  rw [g2, g3]
  have hm' : m = 0 ∨ m = 1 ∨ m = 2 ∨ m = 3 := by omega
  rcases hm' with rfl | rfl | rfl | rfl <;> simp
/-- how many of the first k knots are fast and of mast m -/
def cnt (a : kY) (m : Int) : Nat → Int
  | 0 => 0
  | k + 1 => cnt a m k + (if a (4 + k) 1 = m ∧ a (4 + k) 4 = 1 then 1 else 0)
theorem cnt_rng (a : kY) (m : Int) : ∀ k : Nat, 0 ≤ cnt a m k ∧ cnt a m k ≤ k
  | 0 => by simp [cnt]
  | k + 1 => by
    have := cnt_rng a m k
    unfold cnt
    split <;> omega
theorem cnt_cong {a b : kY} {m : Int} : ∀ {k : Nat}, (∀ i, i < k → (a (4 + i) 1 = m ∧ a (4 + i) 4 = 1) = (b (4 + i) 1 = m ∧ b (4 + i) 4 = 1)) → cnt a m k = cnt b m k
  | 0, _ => rfl
  | k + 1, h => by
    unfold cnt
    rw [cnt_cong (fun i hi => h i (by omega))]
    simp only [h k (by omega)]
theorem S_cf22 {st : kM} {c : Nat} {a : kY} (h : CY st c a) (ok : Ok a) : ∀ (r k : Nat), k + r = nn a → ∀ (fuel : Nat), r < fuel → ∀ φ : Nat → Int32, (∀ m : Nat, m < 4 → φ m = iI (cnt a m k)) → ∃ φ', fX4_countFast_22 c fuel (iI k) (kset st (c + 4) φ) = some (kset st (c + 4) φ') ∧ ∀ m : Nat, m < 4 → φ' m = iI (cnt a m (nn a)) := by
  intro r
  have hn := ok.n10
  have hc1 : ∀ φ : Nat → Int32, (kset st (c + 4) φ).1 c 1 = iI (a 0 1) := fun φ => by rw [kset_ne _ _ (by omega)]; exact h.1.2.1
  induction r with
  | zero =>
    intro k hk fuel hf φ hφ
    obtain ⟨f, rfl⟩ : ∃ f, fuel = f + 1 := ⟨fuel - 1, by omega⟩
    have hk' : k = nn a := by omega
    subst hk'
    refine ⟨φ, ?_, hφ⟩
    unfold fX4_countFast_22
    rw [hc1]
    simp (disch := omega) only [iI_ofNat, iI_add, iI_sub, iI_mul, iI_neg, iI_lt, iI_le, iI_eq, iI_cl]
    rw [if_pos (by omega)]
  | succ r ih =>
    intro k hk fuel hf φ hφ
    obtain ⟨f, rfl⟩ : ∃ f, fuel = f + 1 := ⟨fuel - 1, by omega⟩
    have hkr := h.2.2.2 k (by omega)
    have hko := ok.2.2.2.2 k (by omega)
    obtain ⟨-, g1, -, -, g4⟩ := hkr.get
    obtain ⟨o0, o1, o2, o3, o4⟩ := hko
    unfold fX4_countFast_22
    rw [hc1]
    simp (disch := omega) only [iI_ofNat, iI_add, iI_sub, iI_mul, iI_neg, iI_lt, iI_le, iI_eq, iI_cl, Int.toNat_natCast]
    rw [if_neg (by omega), if_neg (by omega), kset_ne _ _ (by omega), g1, g4]
    have e1 : iI (k : Int) + iI 1 = iI ((k + 1 : Nat) : Int) := by rw [iI_add]; rfl
    simp (disch := omega) only [iI_ofNat, iI_add, iI_sub, iI_mul, iI_neg, iI_lt, iI_le, iI_eq, iI_cl]
    have e2 : iI ((k : Int) + 1) = iI ((k + 1 : Nat) : Int) := rfl
    rw [e2]
    by_cases h4 : a (4 + k) 4 = 0
    · rw [if_pos h4]
      refine ih (k + 1) (by omega) f (by omega) φ (fun m hm => ?_)
      rw [hφ m hm, cnt, if_neg (by omega), Int.add_zero]
    · rw [if_neg h4, if_neg (by omega), Option.bind_some, kwr_kset, kset_same, hφ _ (by omega), iI_add]
      refine ih (k + 1) (by omega) f (by omega) _ (fun m hm => ?_)
      by_cases e : m = (a (4 + k) 1).toNat
      · subst e
        rw [up_eq, cnt, if_pos (by omega)]
      · rw [up_ne _ _ e, hφ m hm, cnt, if_neg (by omega), Int.add_zero]
theorem S_cf2 {st : kM} {c : Nat} {a : kY} (h : CY st c a) (ok : Ok a) : ∀ (r k : Nat), k + r = 4 → ∀ (fuel : Nat), r < fuel → ∀ φ : Nat → Int32, (∀ m : Nat, m < k → φ m = 0) → ∃ φ', fX4_countFast_2 c fuel (iI k) (kset st (c + 4) φ) = some (kset st (c + 4) φ') ∧ ∀ m : Nat, m < 4 → φ' m = iI (cnt a m (nn a)) := by
  intro r
  have hn := ok.n10
  induction r with
  | zero =>
    intro k hk fuel hf φ hφ
    obtain ⟨f, rfl⟩ : ∃ f, fuel = f + 1 := ⟨fuel - 1, by omega⟩
    have hk' : k = 4 := by omega
    subst hk'
    unfold fX4_countFast_2
    simp (disch := omega) only [iI_ofNat, iI_add, iI_sub, iI_mul, iI_neg, iI_lt, iI_le, iI_eq, iI_cl]
    rw [if_pos (by omega)]
    exact S_cf22 h ok (nn a) 0 (by omega) kfu (by unfold kfu; omega) φ (fun m hm => by rw [hφ m hm]; rfl)
  | succ r ih =>
    intro k hk fuel hf φ hφ
    obtain ⟨f, rfl⟩ : ∃ f, fuel = f + 1 := ⟨fuel - 1, by omega⟩
    unfold fX4_countFast_2
    simp (disch := omega) only [iI_ofNat, iI_add, iI_sub, iI_mul, iI_neg, iI_lt, iI_le, iI_eq, iI_cl, Int.toNat_natCast]
    rw [if_neg (by omega), if_neg (by omega), Option.bind_some, kwr_kset]
    refine ih (k + 1) (by omega) f (by omega) _ (fun m hm => ?_)
    by_cases e : m = k
    · subst e; rw [up_eq]; rfl
    · rw [up_ne _ _ e]; exact hφ m (by omega)
theorem S_countFast {st : kM} {c : Nat} {a : kY} (h : CY st c a) (ok : Ok a) : ∃ φ, fX4_countFast c st = some (kset st (c + 4) φ) ∧ ∀ m : Nat, m < 4 → φ m = iI (cnt a m (nn a)) := by
  have := S_cf2 h ok 4 0 (by omega) kfu (by unfold kfu; omega) (st.1 (c + 4)) (fun m hm => absurd hm (by omega))
  rw [kset_self] at this
  exact this
/-- strain of a mast in a wind -/
def sn (a : kY) (m : Nat) (w : Int) : Int := if cnt a m (nn a) = 0 then 0 else (a 2 m + 3 * w) / cnt a m (nn a)
theorem sn_rng {a : kY} {m : Nat} {w : Int} (ok : Ok a) (hm : m < 4) (hw : 0 ≤ w ∧ w ≤ 99) : 0 ≤ sn a m w ∧ sn a m w ≤ 2000 := by
  have h2 := (ok.2.2.2.1 m hm).1
  have hc := cnt_rng a m (nn a)
  unfold sn
  split
  · omega
  · have h5 : 0 ≤ (a 2 m + 3 * w) / cnt a m (nn a) := Int.ediv_nonneg (by omega) (by omega)
    have h6 : (a 2 m + 3 * w) / cnt a m (nn a) ≤ a 2 m + 3 * w := Int.ediv_le_self _ (by omega)
    omega
theorem S_strain {st : kM} {c : Nat} {a : kY} {m : Nat} {w : Int} (ok : Ok a) (hm : m < 4) (hw : 0 ≤ w ∧ w ≤ 99) (h2 : st.1 (c + 2) m = iI (a 2 m)) (h4 : st.1 (c + 4) m = iI (cnt a m (nn a))) : fX4_strain c (iI m) (iI w) st = some (iI (sn a m w), st) := by
  have g2 := (ok.2.2.2.1 m hm).1
  have hc := cnt_rng a m (nn a)
  have hn := ok.n10
  unfold fX4_strain sn
  simp (disch := omega) only [iI_ofNat, iI_add, iI_sub, iI_mul, iI_neg, iI_lt, iI_le, iI_eq, iI_cl, Int.toNat_natCast]
  rw [if_neg (by omega), Option.bind_some, h2, h4]
  simp (disch := omega) only [iI_ofNat, iI_add, iI_sub, iI_mul, iI_neg, iI_lt, iI_le, iI_eq, iI_cl]
  split
  · rfl
  · simp (disch := omega) only [iI_ofNat, iI_add, iI_sub, iI_mul, iI_neg, iI_lt, iI_le, iI_eq, iI_cl, iI_div]
/-- what knot k holds in a wind -/
def hh (a : kY) (k : Nat) (w : Int) : Int := Hd (a (4 + k)) w (cnt a (a (4 + k) 1) (nn a) - 1)
theorem hh_rng {a : kY} {k : Nat} {w : Int} (ok : Ok a) (hk : k < nn a) (hw : 0 ≤ w ∧ w ≤ 99) : -10 ≤ hh a k w ∧ hh a k w ≤ 1000 := by
  have hc := cnt_rng a (a (4 + k) 1) (nn a)
  have hn := ok.n10
  exact Hd_rng (ok.2.2.2.2 k hk) hw (by omega)
theorem S_heldBy {st : kM} {c : Nat} {a : kY} {k : Nat} {w : Int} (ok : Ok a) (hk : k < nn a) (hw : 0 ≤ w ∧ w ≤ 99) (h : Kr st (c + 5 + k) (a (4 + k))) (h4 : ∀ m : Nat, m < 4 → st.1 (c + 4) m = iI (cnt a m (nn a))) : fX4_heldBy c (c + 5 + k) (iI w) st = some (iI (hh a k w), st) := by
  have hko := ok.2.2.2.2 k hk
  obtain ⟨o0, o1, o2, o3, o4⟩ := id hko
  obtain ⟨-, g1, -, -, -⟩ := h.get
  have hn := ok.n10
  unfold fX4_heldBy hh
  rw [g1]
  simp (disch := omega) only [iI_ofNat, iI_add, iI_sub, iI_mul, iI_neg, iI_lt, iI_le, iI_eq, iI_cl]
  rw [if_neg (by omega), h4 _ (by omega), iI_sub, show ((a (4 + k) 1).toNat : Int) = a (4 + k) 1 by omega]
  have hc := cnt_rng a (a (4 + k) 1) (nn a)
  rw [S_holding h hko hw (by omega), Option.bind_some]
/-- whether knot k gives way -/
def gv (a : kY) (k : Nat) (w : Int) : Int := Gw (a (4 + k)) (sn a (a (4 + k) 1).toNat w) (hh a k w)
/-- fast, when all that give way have gone -/
def f1 (a : kY) (w : Int) (k : Nat) : Int := if a (4 + k) 4 = 1 ∧ a 3 (a (4 + k) 1).toNat = 1 ∧ gv a k w = 1 then 0 else a (4 + k) 4
def lgk (a : kY) (w : Int) (k : Nat) : kY := fun i j => if 4 ≤ i ∧ i < 4 + k ∧ j = 4 then f1 a w (i - 4) else a i j
theorem lgk_lo {a : kY} {w : Int} {k i : Nat} (h : i < 4) : lgk a w k i = a i := by funext j; simp only [lgk]; rw [if_neg (by omega)]
theorem lgk_hi {a : kY} {w : Int} {k i : Nat} (h : 4 + k ≤ i) : lgk a w k i = a i := by funext j; simp only [lgk]; rw [if_neg (by omega)]
theorem lgk_in {a : kY} {w : Int} {k i : Nat} (h : i < k) : lgk a w k (4 + i) = va_up (a (4 + i)) 4 (f1 a w i) := by
  funext j
  by_cases e : j = 4
  · subst e; unfold lgk; rw [if_pos ⟨by omega, by omega, rfl⟩, up_eq, show 4 + i - 4 = i by omega]
  · simp only [lgk]; rw [if_neg (by omega), up_ne _ _ e]
theorem f1_rng {a : kY} {w : Int} {k : Nat} (ok : Ok a) (hk : k < nn a) : f1 a w k = 0 ∨ f1 a w k = 1 := by
  have := (ok.2.2.2.2 k hk).2.2.2.2
  unfold f1
  split <;> omega
theorem Kok.fast {k : Nat → Int} {z : Int} (h : Kok k) (hz : z = 0 ∨ z = 1) : Kok (va_up k 4 z) := by
  obtain ⟨o0, o1, o2, o3, o4⟩ := h
  refine ⟨?_, ?_, ?_, ?_, ?_⟩ <;> simp only [va_up] <;> simp <;> omega
theorem Ok_lgk {a : kY} {w : Int} {k : Nat} (ok : Ok a) (hk : k ≤ nn a) : Ok (lgk a w k) := by
  have e0 := @lgk_lo a w k 0 (by omega)
  have e1 := @lgk_lo a w k 1 (by omega)
  have e2 := @lgk_lo a w k 2 (by omega)
  have e3 := @lgk_lo a w k 3 (by omega)
  refine ⟨by rw [e0]; exact ok.1, by rw [e0]; exact ok.2.1, by rw [e1]; exact ok.2.2.1, by rw [e2, e3]; exact ok.2.2.2.1, fun i hi => ?_⟩
  have hi' : i < nn a := by unfold nn at hi ⊢; rw [e0] at hi; exact hi
  by_cases h : i < k
  · rw [lgk_in h]; exact (ok.2.2.2.2 i hi').fast (f1_rng ok hi')
  · rw [lgk_hi (by omega)]; exact ok.2.2.2.2 i hi'
