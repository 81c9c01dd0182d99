/-! more weight bears less -/
theorem hour_k {a : kY} {k : Nat} (hk : k < nn a) : hour a (4 + k) = if f1 a (wn a) k = 1 then sz (va_up (a (4 + k)) 4 (f1 a (wn a) k)) (wn a) else va_up (a (4 + k)) 4 (f1 a (wn a) k) := by
  unfold hour
  rw [ya_row (by omega)]
  unfold skk
  rw [dmk_ne (by omega), lg_kn hk, up_eq]
  by_cases e : f1 a (wn a) k = 1
  · rw [if_pos ⟨by omega, by omega, e⟩, if_pos e]
  · rw [if_neg (fun q => e q.2.2), if_neg e]
theorem hour_3 {a : kY} {m : Nat} (hm : m < 4) : hour a 3 m = if cnt (lg a (wn a)) m (nn a) = 0 then 0 else a 3 m := by
  unfold hour
  rw [ya_row (by omega), skk_lo (by omega)]
  unfold dmk
  rw [nn_lg]
  by_cases e : cnt (lg a (wn a)) m (nn a) = 0
  · rw [if_pos ⟨rfl, hm, e⟩, if_pos e]
  · rw [if_neg (fun q => e q.2.2), if_neg e, lg, lgk_lo (by omega)]
/-- a' bears more at mast m than a, and is no firmer -/
def Mo (m : Nat) (a a' : kY) : Prop := a' 0 0 = a 0 0 ∧ a' 0 1 = a 0 1 ∧ (∀ i, i < 12 → a' 1 i = a 1 i) ∧ a 2 m ≤ a' 2 m ∧ (a' 3 m = 1 → a 3 m = 1) ∧ ∀ k, k < nn a → a' (4 + k) 1 = a (4 + k) 1 ∧ (a (4 + k) 1 = m → a' (4 + k) 4 = 1 → a (4 + k) 4 = 1 ∧ ∀ j, j < 4 → a' (4 + k) j = a (4 + k) j)
theorem cnt_mono {a a' : kY} {m : Int} : ∀ {n : Nat}, (∀ i, i < n → a' (4 + i) 1 = m ∧ a' (4 + i) 4 = 1 → a (4 + i) 1 = m ∧ a (4 + i) 4 = 1) → cnt a' m n ≤ cnt a m n
  | 0, _ => by simp [cnt]
  | n + 1, h => by
    have ih := cnt_mono (n := n) (fun i hi => h i (by omega))
    have hl := h n (by omega)
    unfold cnt
    by_cases e : a' (4 + n) 1 = m ∧ a' (4 + n) 4 = 1
    · rw [if_pos e, if_pos (hl e)]; omega
    · rw [if_neg e]
      split <;> omega
theorem Mo_hour {m : Nat} {a a' : kY} (hm : m < 4) (ok : Ok a) (ok' : Ok a') (h : Mo m a a') (hu : a' 3 m = 1) : Mo m (hour a) (hour a') := by
  obtain ⟨h0, h1, h2, h3, h4, h5⟩ := h
  have hnn : nn a' = nn a := by unfold nn; rw [h1]
  have hw : wn a' = wn a := by
    unfold wn
    rw [h0]
    exact h2 _ (by have := ok.1; omega)
  have hwr := Ok_wn ok
  have hn := ok.n10
  have hua := h4 hu
  have hW := (ok.2.2.2.1 m hm).1
  have hcm : cnt a' m (nn a) ≤ cnt a m (nn a) := cnt_mono (fun i hi q => by
    obtain ⟨p1, p2⟩ := h5 i hi
    exact ⟨by rw [← p1]; exact q.1, (p2 (by rw [← p1]; exact q.1) q.2).1⟩)
  have key : ∀ k, k < nn a → a (4 + k) 1 = m → f1 a' (wn a) k = 1 → f1 a (wn a) k = 1 ∧ a' (4 + k) 4 = 1 := by
    intro k hk hkm hf
    obtain ⟨p1, p2⟩ := h5 k hk
    have o4' := (ok'.2.2.2.2 k (by omega)).2.2.2.2
    have hgr : gv a' k (wn a) = 0 ∨ gv a' k (wn a) = 1 := Gw_rng
    have ht : (a' (4 + k) 1).toNat = m := by omega
    unfold f1 at hf
    rw [ht] at hf
    have hfast : a' (4 + k) 4 = 1 ∧ gv a' k (wn a) = 0 := by
      by_cases e : a' (4 + k) 4 = 1 ∧ a' 3 m = 1 ∧ gv a' k (wn a) = 1
      · rw [if_pos e] at hf; omega
      · rw [if_neg e] at hf
        refine ⟨hf, ?_⟩
        rcases hgr with q | q
        · exact q
        · exact absurd ⟨hf, hu, q⟩ e
    obtain ⟨hf1, hg1⟩ := hfast
    obtain ⟨g1, g2⟩ := p2 hkm hf1
    have e0 := g2 0 (by omega)
    have e1 := g2 1 (by omega)
    have e2 := g2 2 (by omega)
    have e3 := g2 3 (by omega)
    have hc1 : 1 ≤ cnt a' m (nn a) := by
      have := cnt_pos (n := nn a) hf1 hk
      rw [p1, hkm] at this
      exact this
    have hg0 : gv a k (wn a) = 0 := by
      have hs : sn a m (wn a) ≤ sn a' m (wn a) := by
        unfold sn
        rw [hnn, if_neg (by omega), if_neg (by omega)]
        apply Int.le_ediv_of_mul_le (by omega)
        have q1 : (a 2 m + 3 * wn a) / cnt a m (nn a) * cnt a m (nn a) ≤ a 2 m + 3 * wn a := Int.ediv_mul_le _ (by omega)
        have q2 : 0 ≤ (a 2 m + 3 * wn a) / cnt a m (nn a) := Int.ediv_nonneg (by omega) (by omega)
        have q3 : (a 2 m + 3 * wn a) / cnt a m (nn a) * cnt a' m (nn a) ≤ (a 2 m + 3 * wn a) / cnt a m (nn a) * cnt a m (nn a) := Int.mul_le_mul_of_nonneg_left hcm q2
        omega
      have hhl : hh a' k (wn a) ≤ hh a k (wn a) := by
        unfold hh Hd
        rw [hnn, p1, hkm, e0, e2, hf1, g1]
        repeat' split
        all_goals omega
      unfold gv at hg1 ⊢
      rw [ht] at hg1
      rw [show (a (4 + k) 1).toNat = m by omega]
      unfold Gw at hg1 ⊢
      rw [e0, e2, e3] at hg1
      revert hg1
      repeat' split
      all_goals (intro hg1; omega)
    refine ⟨?_, hf1⟩
    unfold f1
    rw [if_neg (fun q => by omega), g1]
  have hcl : cnt (lg a' (wn a)) m (nn a) ≤ cnt (lg a (wn a)) m (nn a) := cnt_mono (fun i hi q => by
    rw [lg_kn (by omega), up_ne _ _ (by omega), up_eq] at q
    rw [lg_kn hi, up_ne _ _ (by omega), up_eq]
    have p1 := (h5 i hi).1
    have q1 : a (4 + i) 1 = m := by rw [← p1]; exact q.1
    exact ⟨q1, (key i hi q1 q.2).1⟩)
  have hcr := cnt_rng (lg a' (wn a)) m (nn a)
  refine ⟨by rw [(hour_0 a').1, (hour_0 a).1, h0], by rw [(hour_0 a').2, (hour_0 a).2, h1], fun i hi => by rw [hour_12 a' (by omega), hour_12 a (by omega)]; exact h2 i hi, by rw [hour_12 a' (by omega), hour_12 a (by omega)]; exact h3, fun q => ?_, fun k hk => ?_⟩
  · rw [hour_3 hm, hw, hnn] at q
    rw [hour_3 hm]
    by_cases e : cnt (lg a' (wn a)) m (nn a) = 0
    · rw [if_pos e] at q; omega
    · rw [if_neg (by omega)]; exact hua
  · rw [nn_hour] at hk
    obtain ⟨p1, p2⟩ := h5 k hk
    have s1 : ∀ (b : kY), k < nn b → hour b (4 + k) 1 = b (4 + k) 1 ∧ hour b (4 + k) 4 = f1 b (wn b) k := by
      intro b hb
      rw [hour_k hb]
      split
      · unfold sz; exact ⟨by rw [up_ne _ _ (by omega), up_ne _ _ (by omega), up_ne _ _ (by omega)], by rw [up_ne _ _ (by omega), up_ne _ _ (by omega), up_eq]⟩
      · exact ⟨by rw [up_ne _ _ (by omega)], by rw [up_eq]⟩
    obtain ⟨a1, a4⟩ := s1 a hk
    obtain ⟨b1, b4⟩ := s1 a' (by omega)
    refine ⟨by rw [a1, b1]; exact p1, fun q1 q2 => ?_⟩
    rw [a1] at q1
    rw [b4, hw] at q2
    obtain ⟨k1, k2⟩ := key k hk q1 q2
    refine ⟨by rw [a4]; exact k1, fun j hj => ?_⟩
    obtain ⟨g1, g2⟩ := p2 q1 k2
    have e0 := g2 0 (by omega)
    have e2 := g2 2 (by omega)
    have e3 := g2 3 (by omega)
    have es : Sg (va_up (a' (4 + k)) 4 1) (wn a) = Sg (va_up (a (4 + k)) 4 1) (wn a) := by
      unfold Sg
      rw [up_ne _ _ (by omega), up_ne _ _ (by omega), up_ne _ _ (by omega), up_ne _ _ (by omega), up_ne _ _ (by omega), up_ne _ _ (by omega), e0, e2, e3]
    rw [hour_k hk, hour_k (show k < nn a' by omega), hw, q2, k1, if_pos rfl, if_pos rfl]
    unfold sz
    rw [es]
    have hj4 : j = 0 ∨ j = 1 ∨ j = 2 ∨ j = 3 := by omega
    rcases hj4 with rfl | rfl | rfl | rfl
    · simp (disch := omega) only [up_ne]; exact e0
    · simp (disch := omega) only [up_ne]; exact g2 1 (by omega)
    · simp (disch := omega) only [up_ne, up_eq]; rw [e2]
    · simp (disch := omega) only [up_ne, up_eq]; rw [e3]
theorem Mo_lst {m : Nat} (hm : m < 4) : ∀ (n : Nat) {a a' : kY}, Ok a → Ok a' → Mo m a a' → lst 3 m n a' = 1 → lst 3 m n a = 1
  | 0, _, _, _, _, h, q => h.2.2.2.2.1 q
  | n + 1, a, a', ok, ok', h, q => by
    unfold lst at q ⊢
    by_cases e : a' 3 m = 1
    · rw [if_pos e] at q
      rw [if_pos (h.2.2.2.2.1 e)]
      exact Mo_lst hm n (Ok_hour ok) (Ok_hour ok') (Mo_hour hm ok ok' h e) q
    · rw [if_neg e] at q; omega
theorem Mo_w {m : Nat} {a : kY} {z z' : Int} (h : z ≤ z') : Mo m (ya a 2 m z) (ya a 2 m z') := by
  refine ⟨by rw [ya_row (by omega), ya_row (by omega)], by rw [ya_row (by omega), ya_row (by omega)], fun i hi => by rw [ya_row (by omega), ya_row (by omega)], by rw [ya_eq, ya_eq, if_pos ⟨rfl, rfl⟩, if_pos ⟨rfl, rfl⟩]; exact h, fun q => by rw [ya_row (by omega)] at q ⊢; exact q, fun k hk => ⟨by rw [ya_row (by omega), ya_row (by omega)], fun q1 q2 => ?_⟩⟩
  rw [ya_row (by omega)] at q2 ⊢
  exact ⟨q2, fun j hj => by rw [ya_row (by omega)]⟩
/-- the mast stays up under weight z -/
def pbr (a : kY) (m n : Nat) (z : Int) : Int := lst 3 m n (ya a 2 m z)
theorem pbr_rng {a : kY} {m n : Nat} {z : Int} (hm : m < 4) (ok : Ok a) (hz : 0 ≤ z ∧ z ≤ 999) : pbr a m n z = 0 ∨ pbr a m n z = 1 := lst_m hm n (Ok_weight ok hz)
theorem pbr_mono {a : kY} {m n : Nat} {z z' : Int} (hm : m < 4) (ok : Ok a) (hz : 0 ≤ z) (hz' : z' ≤ 999) (h : z ≤ z') (q : pbr a m n z' = 1) : pbr a m n z = 1 := Mo_lst hm n (Ok_weight ok (by omega)) (Ok_weight ok (by omega)) (Mo_w h) q
/-- L is the most it bears -/
def Bd (a : kY) (m n : Nat) (L : Int) : Prop := (-1 ≤ L ∧ L ≤ 999) ∧ (0 ≤ L → pbr a m n L = 1) ∧ ∀ z, L < z → z ≤ 999 → pbr a m n z = 0
theorem C_bs {a b : kY} {x : uX} {l : uL} {m n : Nat} (w : Wok a b x) (hm : m < 4) (hnn : n ≤ 1000) : ∀ (r i : Nat), i + r = 10 → ∀ fuel, r < fuel → ∀ (s : kM) (lo hi : Int), CW s a b x l → -1 ≤ lo → lo < hi → hi ≤ 1000 → hi - lo ≤ 2 ^ r → (0 ≤ lo → pbr a m n lo = 1) → (hi ≤ 999 → pbr a m n hi = 0) → ∃ L s', fX5_bears_34 fuel (iI m) (iI n) (iI lo) (iI hi) (iI i) s = fX5_bears_107 (iI L) s' ∧ Fr fre s s' ∧ Bd a m n L := by
  intro r
  have ok := w.1.1
  have hb := w.1.2
  have fin : ∀ lo hi : Int, -1 ≤ lo → lo < hi → hi ≤ 1000 → hi - lo ≤ 1 → (0 ≤ lo → pbr a m n lo = 1) → (hi ≤ 999 → pbr a m n hi = 0) → Bd a m n lo := by
    intro lo hi a1 a2 a3 a4 a5 a6
    refine ⟨by omega, a5, fun z z1 z2 => ?_⟩
    have e : hi = lo + 1 := by omega
    rcases pbr_rng (n := n) hm ok (show 0 ≤ z ∧ z ≤ 999 by omega) with q | q
    · exact q
    · have := pbr_mono (z := hi) hm ok (by omega) z2 (by omega) q
      have := a6 (by omega)
      omega
  induction r with
  | zero =>
    intro i hi fuel hf s lo hi' C a1 a2 a3 a4 a5 a6
    obtain ⟨f, rfl⟩ : ∃ f, fuel = f + 1 := ⟨fuel - 1, by omega⟩
    have hi9 : i = 10 := by omega
    subst hi9
    refine ⟨lo, s, ?_, Fr.rf, fin lo hi' a1 a2 a3 (by simpa using a4) a5 a6⟩
    unfold fX5_bears_34
    rw [if_pos (show (10 : Int32) ≤ iI ((10 : Nat) : Int) by decide)]
  | succ r ih =>
    intro i hi fuel hf s lo hi' C a1 a2 a3 a4 a5 a6
    obtain ⟨f, rfl⟩ : ∃ f, fuel = f + 1 := ⟨fuel - 1, by omega⟩
    have hc : ¬ ((10 : Int32) ≤ iI (i : Int)) := by rw [iI_ofNat, iI_le (by omega) (by omega) (by omega) (by omega)]; omega
    have hd : (iI hi' - iI lo ≤ (1 : Int32)) = (hi' - lo ≤ 1) := by rw [iI_sub, iI_ofNat, iI_le (by omega) (by omega) (by omega) (by omega)]
    have e2 : iI (i : Int) + 1 = iI ((i + 1 : Nat) : Int) := by rw [iI_ofNat, iI_add]; rfl
    by_cases h9 : hi' - lo ≤ 1
    · refine ⟨lo, s, ?_, Fr.rf, fin lo hi' a1 a2 a3 h9 a5 a6⟩
      unfold fX5_bears_34
      rw [if_neg hc, if_pos (by rw [hd]; exact h9)]
    · have hmid : (iI lo + iI hi') / (2 : Int32) = iI ((lo + hi') / 2) := by rw [iI_add, iI_ofNat, iI_div (by omega) (by omega) (by omega) (by omega)]
      have hp : (2 : Int) ^ (r + 1) = 2 * 2 ^ r := by rw [Int.pow_succ]; omega
      obtain ⟨s1, q1, q2, q3⟩ := C_trial w C
      have okn := Ok_weight (i := m) (z := (lo + hi') / 2) ok (by omega)
      obtain ⟨s2, p1, p2⟩ := S_staysUp (n := n) (m := m) (q3.weight (i := m) (z := (lo + hi') / 2) ok) okn hnn hm (by rw [ya_row (by omega)]; omega)
      have f2 : Fr fre s s2 := (q2.tr (Fr16 Fr.y2)).tr (Fr16 p2)
      have e9 : lst 3 m n (ya a 2 m ((lo + hi') / 2)) = pbr a m n ((lo + hi') / 2) := rfl
      rw [e9] at p1
      have hcl : ¬ ((iI (m : Int)) < 0 ∨ 4 ≤ m) := by simp (disch := omega) only [iI_ofNat, iI_add, iI_sub, iI_mul, iI_neg, iI_lt, iI_le, iI_eq, iI_cl]; omega
      have hpr := pbr_rng (n := n) hm ok (show 0 ≤ (lo + hi') / 2 ∧ (lo + hi') / 2 ≤ 999 by omega)
      rw [fX5_bears_34]
      simp only [if_neg hc, hd, if_neg h9, hmid, bnd, q1, cn_k (show m < 2147483648 by omega), if_neg hcl, p1, e2]
      rcases hpr with e | e
      · rw [e, if_pos (show iI 0 = 0 from rfl)]
        obtain ⟨L, s3, t1, t2, t3⟩ := ih (i + 1) (by omega) f (by omega) s2 lo ((lo + hi') / 2) (C.fr w f2) a1 (by omega) (by omega) (by omega) a5 (fun _ => e)
        exact ⟨L, s3, t1, f2.tr t2, t3⟩
      · rw [e, if_neg (show ¬ iI 1 = 0 by decide)]
        obtain ⟨L, s3, t1, t2, t3⟩ := ih (i + 1) (by omega) f (by omega) s2 ((lo + hi') / 2) hi' (C.fr w f2) (by omega) (by omega) a3 (by omega) (fun _ => e) a6
        exact ⟨L, s3, t1, f2.tr t2, t3⟩
theorem R_bs {a b : kY} {x : uX} {t : kM} {m n : Nat} {L : Int} (w : Wok a b x) (hm : m < 4) (hnn : n ≤ 1000) (ht : RR (t.1 62) a) (hL : Bd a m n L) : ∀ (r : Nat), L + 1 + r ≤ 1000 → ∀ fuel, r < fuel → ∀ ρ, RR ρ a → ∃ ρ', fX6_bears_40 (fuel + 1) (iI m) (iI n) (iI (L + 1 + r)) 0 (kset t 60 ρ) = (if 0 ≤ L then some (iI L, kset t 60 ρ') else fX6_finds (-1000000004) (kset t 60 ρ')) ∧ RR ρ' a := by
  intro r
  have ok := w.1.1
  have hb := w.1.2
  obtain ⟨l1, l2, l3⟩ := hL
  have eix : (14 : Int32) + (2 : Int32) * iI m + (1 : Int32) = iI ((14 + 2 * m + 1 : Nat) : Int) := by simp only [iI_ofNat, iI_add, iI_mul]; exact congrArg iI (by omega)
  -- one look
  have one : ∀ (z : Int) (ρ : Nat → Int32), 0 ≤ z → z ≤ 999 → RR ρ a → ∃ ρ', (∀ f, fX6_bears_40 (f + 1) (iI m) (iI n) (iI (z + 1)) 0 (kset t 60 ρ) = fX6_bears_40 f (iI m) (iI n) (iI z) (iI (pbr a m n z)) (kset t 60 ρ')) ∧ RR ρ' a := by
    intro z ρ z1 z2 h
    have okn := Ok_weight (i := m) (z := z) ok (by omega)
    have h2 := RR.weight (m := m) (z := z) h hm
    obtain ⟨ρ2, p1, p2⟩ := R_lasts (st := t) (n := n) (Ix_m (m := m) hm) hnn h2 okn (by rw [ya_row (by omega)]; omega)
    have e9 : lst 3 m n (ya a 2 m z) = pbr a m n z := rfl
    rw [e9] at p1
    refine ⟨ρ2, fun f => ?_, RR.row ht ok p2⟩
    have hc : ¬ (iI (z + 1) ≤ 0) := by rw [iI_ofNat, iI_le (by omega) (by omega) (by omega) (by omega)]; omega
    have ez : iI (z + 1) + (-1 : Int32) = iI z := by rw [m1, iI_add]; exact congrArg iI (by omega)
    rw [fX6_bears_40]
    simp only [if_neg hc, i00, itT, ez, R_q0 hm, bnd, kwr_kset, eix, p1]
  induction r with
  | zero =>
    intro hr fuel hf ρ h
    rw [show L + 1 + ((0 : Nat) : Int) = L + 1 by omega]
    by_cases e : 0 ≤ L
    · obtain ⟨ρ2, o1, o2⟩ := one L ρ e (by omega) h
      refine ⟨ρ2, ?_, o2⟩
      obtain ⟨f, rfl⟩ : ∃ f, fuel = f + 1 := ⟨fuel - 1, by omega⟩
      rw [o1, l2 e, if_pos e, fX6_bears_40]
      simp only [fX6_bears_77, if_neg (show ¬ iI 1 = 0 by decide)]
      split <;> rfl
    · refine ⟨ρ, ?_, h⟩
      have hc : iI (L + 1) ≤ 0 := by rw [iI_ofNat, iI_le (by omega) (by omega) (by omega) (by omega)]; omega
      rw [fX6_bears_40, if_pos hc, if_neg e]
      unfold fX6_bears_77
      rw [if_pos rfl, bet]
  | succ r ih =>
    intro hr fuel hf ρ h
    obtain ⟨f, rfl⟩ : ∃ f, fuel = f + 1 := ⟨fuel - 1, by omega⟩
    obtain ⟨ρ2, o1, o2⟩ := one (L + 1 + r) ρ (by omega) (by omega) h
    obtain ⟨ρ3, t1, t2⟩ := ih (by omega) f (by omega) ρ2 o2
    refine ⟨ρ3, ?_, t2⟩
    rw [show L + 1 + ((r + 1 : Nat) : Int) = L + 1 + r + 1 by omega, o1, l3 _ (by omega) (by omega)]
    exact t1
theorem st_bears : sp_bears Iv := by
  intro st hI v1 v2
  obtain ⟨a, b, x, l, w, C, R⟩ := hI
  have ok := w.1.1
  by_cases h1 : v1 < 0 ∨ 3 < v1
  · exact tl1 w C R (by simp only [fX5_bears, C_mast_f h1, bnd, i00, i10, i01, i11, itT, itF, or_true, true_or, or_false, false_or, bet]) (fun s hs => by simp only [fX6_bears, R_mast_f h1, bnd, i00, i10, i01, i11, itT, itF, or_true, true_or, or_false, false_or, bet])
  by_cases h2 : v2 < 0 ∨ 100 < v2
  · exact tl1 w C R (by simp only [fX5_bears, C_mast_t h1, C_in_f h2, bnd, i00, i10, i01, i11, itT, itF, or_true, true_or, or_false, false_or, bet]) (fun s hs => by simp only [fX6_bears, R_mast_t h1, R_in_f h2, bnd, i00, i10, i01, i11, itT, itF, or_true, true_or, or_false, false_or, bet])
  obtain ⟨m, hm, rfl⟩ := inN 3 rfl (by omega) h1
  obtain ⟨n, hn, rfl⟩ := inN 100 rfl (by omega) h2
  obtain ⟨L, s3, k1, k2, k3⟩ := C_bs (l := l) (m := m) (n := n) w (by omega) (by omega) 10 0 (by omega) kfu (by unfold kfu; omega) st (-1) 1000 C (by omega) (by omega) (by omega) (by omega) (fun q => by omega) (fun q => by omega)
  have l1 := k3.1
  have hz : (0 ≤ iI L) = (0 ≤ L) := by rw [iI_ofNat, iI_le (by omega) (by omega) (by omega) (by omega)]
  have ce : fX5_bears (iI m) (iI n) st = (if 0 ≤ L then some (iI L, s3) else fX5_tell (-1000000004) s3) := by
    unfold fX5_bears
    rw [C_mast_t h1, bnd, C_in_t h2, bnd, m1]
    simp only [i10, itF]
    rw [iI_n0, show iI 1000 = (1000 : Int32) from rfl] at k1
    rw [k1]
    unfold fX5_bears_107
    simp only [hz, bet]
  have re : ∀ s, RW s a b x l → ∃ t ρ, fX6_bears (iI m) (iI n) s = (if 0 ≤ L then some (iI L, kset t 60 ρ) else fX6_finds (-1000000004) (kset t 60 ρ)) ∧ RW (kset t 60 ρ) a b x l ∧ Lo s (kset t 60 ρ) := fun s hs => by
    obtain ⟨t, m1', m2, m3, m4⟩ := R_trial w hs
    obtain ⟨ρ, k4, k5⟩ := R_bs (t := t) (m := m) (n := n) w (by omega) (by omega) m3 k3 (999 - L).toNat (by omega) (kfu - 1) (by unfold kfu; omega) (t.1 60) m2.1
    rw [kset_self, show kfu - 1 + 1 = kfu from rfl, show L + 1 + (((999 - L).toNat : Nat) : Int) = 1000 by omega, show iI 1000 = (1000 : Int32) from rfl] at k4
    refine ⟨t, ρ, ?_, m2.row k5, m4.tr (Lo.set (by omega))⟩
    unfold fX6_bears
    rw [R_mast_t h1, bnd, R_in_t h2, bnd, m1']
    simp only [i10, itF, bnd]
    exact k4
  by_cases h9 : 0 ≤ L
  · rw [if_pos h9] at ce
    refine join (l' := l) (iI L) R w (SC.same w C ⟨s3, ce, k2⟩) (fun s hs => ?_)
    obtain ⟨t, ρ, e1, e2, e3⟩ := re s hs
    rw [if_pos h9] at e1
    exact ⟨_, e1, e2, e3⟩
  · rw [if_neg h9] at ce
    refine join (l' := l) (-1000000004 : Int32) R (Wok_xt (i := 3) w) (SC.pre (Hi_fre k2) ?_) (fun s hs => ?_)
    · rw [ce]; exact C_tell w 3 (e := -1000000004) (by omega) (by decide) (C.fr w k2)
    · obtain ⟨t, ρ, e1, e2, e3⟩ := re s hs
      rw [if_neg h9] at e1
      refine SR.pre e3 ?_
      rw [e1]; exact R_finds 3 (e := -1000000004) (by omega) (by decide) e2
