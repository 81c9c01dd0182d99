/-! the reader -/
theorem eq0 (y z : Int64) : (lg_cmp y z = 0) = (y = z) := propext (lg_cmp_eq y z)
/-- whether a knot goes as told -/
def so (f : Nat → Int64) (k : Nat) : Nat → Nat → kY → Nat
  | 0, _, _ => 1
  | r + 1, i, b => if f i = (iI (b (4 + k) 2)).toInt64 then so f k r (i + 1) (hour b) else 0
theorem so_rng (f : Nat → Int64) (k : Nat) : ∀ (r i : Nat) (b : kY), so f k r i b = 0 ∨ so f k r i b = 1
  | 0, _, _ => Or.inr rfl
  | r + 1, i, b => by
    unfold so
    split
    · exact so_rng f k r (i + 1) (hour b)
    · exact Or.inl rfl
theorem C_so {k c n : Nat} {f : Nat → Int64} (hc : 51 ≤ c) (hn : n ≤ 40) : ∀ (r i : Nat), i + r = n → ∀ fuel, r < fuel → ∀ (s : kM) (b : kY), CY s 16 b → Ok b → k < nn b → b 0 0 + r < 2000000000 → s.1 c 1 = iI (n : Int) → (∀ j, j < 40 → s.2 (c + 1) j = f j) → ∃ s', fX5_goesAsTold_38 fuel c (16 + 5 + k) (iI i) s = some (iI ((so f k r i b : Nat) : Int), s') ∧ Fr fre s s' := by
  intro r
  induction r with
  | zero =>
    intro i hi fuel hf s b h ok hk hb h1 h2
    obtain ⟨g, rfl⟩ : ∃ g, fuel = g + 1 := ⟨fuel - 1, by omega⟩
    refine ⟨s, ?_, Fr.rf⟩
    rw [fX5_goesAsTold_38, h1, if_pos (le_t (by omega) (by omega))]
    rfl
  | succ r ih =>
    intro i hi fuel hf s b h ok hk hb h1 h2
    obtain ⟨g, rfl⟩ : ∃ g, fuel = g + 1 := ⟨fuel - 1, by omega⟩
    have g2 := (h.2.2.2 k hk).get.2.2.1
    rw [fX5_goesAsTold_38, h1, if_neg (le_f (by omega) (by omega)), cn_k (by omega), if_neg (cl_40 (by omega)), h2 i (by omega), g2, so]
    simp only [eq0]
    by_cases e : f i = (iI (b (4 + k) 2)).toInt64
    · obtain ⟨s2, q1, q2, q3⟩ := S_passHour h ok (by omega)
      have ne : ∀ c, ¬ yc 16 c → s2.1 c = s.1 c := q2.2
      unfold yc at ne
      obtain ⟨s3, p1, p2⟩ := ih (i + 1) (by omega) g (by omega) s2 (hour b) q3 (Ok_hour ok) (by rw [nn_hour]; exact hk) (by rw [(hour_0 b).1]; omega) (by rw [ne _ (by omega)]; exact h1) (by rw [q2.1]; exact h2)
      refine ⟨s3, ?_, (Fr16 q2).tr p2⟩
      rw [if_pos e, if_pos e, q1, bnd, ix_1]
      exact p1
    · refine ⟨s, ?_, Fr.rf⟩
      rw [if_neg e, if_neg e]
      rfl
theorem R_so0 {t : kM} {x1 x2 x4 : Int32} {fuel m : Nat} (hm : m < 4) (hf : 0 < fuel) : fX6_isSo_5 fuel (iI m) x2 0 x4 t = some (0, t) := by
  obtain ⟨g, rfl⟩ : ∃ g, fuel = g + 1 := ⟨fuel - 1, by omega⟩
  rw [fX6_isSo_5, cn_k (by omega), if_neg (cl_4 hm), if_pos (Or.inl rfl)]
  by_cases h : t.1 66 m ≤ x4
  · rw [if_pos h]
  · rw [if_neg h, if_pos rfl]
theorem R_so {k m n : Nat} {t : kM} {f : Nat → Int64} (hm : m < 4) (hn : n ≤ 40) (ht : t.1 66 m = iI (n : Int)) (hl : ∀ j, j < 40 → t.2 67 (40 * m + j) = f j) : ∀ (r i : Nat), i + r = n → ∀ fuel, r < fuel → ∀ (ρ : Nat → Int32) (b : kY), RR ρ b → Ok b → k < nn b → b 0 0 + r < 2000000000 → ∃ ρ', fX6_isSo_5 fuel (iI m) (iI k) 1 (iI i) (kset t 60 ρ) = some (iI ((so f k r i b : Nat) : Int), kset t 60 ρ') := by
  intro r
  have h66 : ∀ ρ : Nat → Int32, (kset t 60 ρ).1 66 m = iI (n : Int) := fun ρ => by rw [kset_ne _ _ (by omega)]; exact ht
  induction r with
  | zero =>
    intro i hi fuel hf ρ b h ok hk hb
    obtain ⟨g, rfl⟩ : ∃ g, fuel = g + 1 := ⟨fuel - 1, by omega⟩
    refine ⟨ρ, ?_⟩
    rw [fX6_isSo_5, cn_k (by omega), if_neg (cl_4 hm), h66, if_pos (le_t (by omega) (by omega)), if_pos (Or.inr rfl)]
    rfl
  | succ r ih =>
    intro i hi fuel hf ρ b h ok hk hb
    obtain ⟨g, rfl⟩ : ∃ g, fuel = g + 1 := ⟨fuel - 1, by omega⟩
    have hR : RR ((kset t 60 ρ).1 60) b := by rw [kset_same]; exact h
    obtain ⟨ρ2, q1, q2⟩ := R_oneHour (st := t) h ok (by omega)
    have hl' : (kset t 60 ρ).2 67 (40 * m + i) = f i := hl i (by omega)
    rw [fX6_isSo_5, cn_k (show m < 2147483648 by omega), if_neg (cl_4 hm), h66, if_neg (le_f (by omega) (by omega)), if_neg (show ¬ (1 : Int32) = 0 by decide), ix_40, cn_k (by omega), if_neg (cl_160 (by omega)), R_i2 hR ok hk, bnd, hl', so]
    simp only [eq0, q1, bnd]
    by_cases e : f i = (iI (b (4 + k) 2)).toInt64
    · obtain ⟨ρ3, p1⟩ := ih (i + 1) (by omega) g (by omega) ρ2 (hour b) q2 (Ok_hour ok) (by rw [nn_hour]; exact hk) (by rw [(hour_0 b).1]; omega)
      refine ⟨ρ3, ?_⟩
      rw [if_pos e, if_pos e, ix_1]
      exact p1
    · refine ⟨ρ2, ?_⟩
      rw [if_neg e, if_neg e, R_so0 (x1 := 0) hm (by omega)]
      rfl
/-- the knot as that kind, so open -/
def yz (a : kY) (k y v : Nat) : kY := ya (ya a (4 + k) 0 (y : Int)) (4 + k) 2 (v : Int)
def pps (f : Nat → Int64) (a : kY) (k n : Nat) : Nat → Nat
  | 0 => 0
  | c + 1 => pps f a k n c + so f k n 0 (yz a k (c / 100) (c % 100))
theorem pps_le (f : Nat → Int64) (a : kY) (k n : Nat) : ∀ c, pps f a k n c ≤ c
  | 0 => Nat.le_refl 0
  | c + 1 => by
    have := pps_le f a k n c
    have := so_rng f k n 0 (yz a k (c / 100) (c % 100))
    unfold pps
    omega
theorem pps_s {f : Nat → Int64} {a : kY} {k n y v : Nat} (hv : v < 100) : pps f a k n (100 * y + v + 1) = pps f a k n (100 * y + v) + so f k n 0 (yz a k y v) := by
  rw [pps, show (100 * y + v) / 100 = y by omega, show (100 * y + v) % 100 = v by omega]
theorem Ok_yz {a : kY} {k y v : Nat} (ok : Ok a) (hy : y < 6) (hv : v < 100) : Ok (yz a k y v) := Ok_knot (Ok_knot ok (by omega)) (by omega)
theorem nn_yz {a : kY} {k y v : Nat} : nn (yz a k y v) = nn a := by unfold yz; rw [nn_ya (by omega), nn_ya (by omega)]
theorem yz_0 {a : kY} {k y v : Nat} : yz a k y v 0 0 = a 0 0 := by unfold yz; rw [ya_row (by omega), ya_row (by omega)]
theorem yz_2 {a : kY} {k y v : Nat} : yz a k y v (4 + k) 2 = v := by unfold yz; rw [ya_eq, if_pos ⟨rfl, rfl⟩]
theorem C_goes {a b : kY} {x : uX} {l : uL} {s : kM} {k m n y v : Nat} (w : Wok a b x) (C : CW s a b x l) (hm : m < 4) (hx : x 4 m = iI (n : Int)) (hn : n ≤ 40) (hk : k < nn a) (hy : y < 6) (hv : v < 100) : ∃ s', fX5_goesAsTold (51 + 2 * m) (iI k) (iI y) (iI v) s = some (iI ((so (l m) k n 0 (yz a k y v) : Nat) : Int), s') ∧ Fr fre s s' := by
  have ok := w.1.1
  have hb := w.1.2
  have hn10 := ok.n10
  obtain ⟨s1, q1, q2, q3⟩ := C_trial w C
  have c1 := q3.knot (k := k) (j := 0) (z := (y : Int)) ok hk
  have ok1 := Ok_knot (k := k) (j := 0) (z := (y : Int)) ok (by omega)
  have c2 := c1.knot (k := k) (j := 2) (z := (v : Int)) ok1 (by rw [nn_ya (by omega)]; exact hk)
  have f2 : Fr fre s (kwr (kwr s1 (16 + 5 + k) 0 (iI y)) (16 + 5 + k) 2 (iI v)) := (q2.tr (Fr16 (Fr.yk (by omega)))).tr (Fr16 (Fr.yk (by omega)))
  have C2 := C.fr w f2
  obtain ⟨s3, p1, p2⟩ := C_so (k := k) (c := 51 + 2 * m) (f := l m) (by omega) hn n 0 (by omega) kfu (by unfold kfu; omega) _ _ c2 (Ok_yz ok hy hv) (by rw [nn_ya (by omega), nn_ya (by omega)]; exact hk) (by rw [ya_row (by omega), ya_row (by omega)]; omega) (by rw [(C2.2.2.2.2.2.1 m hm).2.1]; exact hx) (C2.2.2.2.2.2.1 m hm).2.2
  refine ⟨s3, ?_, f2.tr p2⟩
  rw [iI_n0] at p1
  unfold fX5_goesAsTold
  rw [q1, bnd, cn_k (by omega), if_neg (cl_k (by omega)), bnd, bnd]
  exact p1
theorem C_may {a b : kY} {x : uX} {l : uL} {s : kM} {m n v : Nat} (C : CW s a b x l) (hm : m < 4) (hx : x 4 m = iI (n : Int)) : fX1_mayBeginWith (51 + 2 * m) (iI v) s = some (if iI (n : Int) = 0 then 1 else if l m 0 = (iI (v : Int)).toInt64 then 1 else 0, s) := by
  have c4 := (C.2.2.2.2.2.1 m hm).2.1
  rw [hx] at c4
  unfold fX1_mayBeginWith
  rw [c4, (C.2.2.2.2.2.1 m hm).2.2 0 (by omega)]
  simp only [eq0]
  split
  · rfl
  · split <;> rfl
theorem C_r66 {a b : kY} {x : uX} {l : uL} {k m n y : Nat} {K : Int32 → Nat → Int32 → Int32 → kM → Option (Int32 × kM)} (w : Wok a b x) (hm : m < 4) (hx : x 4 m = iI (n : Int)) (hn : n ≤ 40) (hk : k < nn a) (hy : y < 6) : ∀ (r v : Nat), v + r = 100 → ∀ fuel, r < fuel → ∀ s, CW s a b x l → ∃ s', fX5_read_66 K fuel (iI k) (51 + 2 * m) (iI ((pps (l m) a k n (100 * y + v) : Nat) : Int)) (iI y) (iI v) s = K (iI k) (51 + 2 * m) (iI ((pps (l m) a k n (100 * (y + 1)) : Nat) : Int)) (iI ((y + 1 : Nat) : Int)) s' ∧ Fr fre s s' := by
  intro r
  induction r with
  | zero =>
    intro v hv fuel hf s C
    obtain ⟨g, rfl⟩ : ∃ g, fuel = g + 1 := ⟨fuel - 1, by omega⟩
    have hc : (99 : Int32) < iI (v : Int) := by rw [iI_ofNat, iI_lt (by omega) (by omega) (by omega) (by omega)]; omega
    refine ⟨s, ?_, Fr.rf⟩
    rw [fX5_read_66, if_pos hc, ix_1, show 100 * y + v = 100 * (y + 1) by omega]
  | succ r ih =>
    intro v hv fuel hf s C
    obtain ⟨g, rfl⟩ : ∃ g, fuel = g + 1 := ⟨fuel - 1, by omega⟩
    have hc : ¬ ((99 : Int32) < iI (v : Int)) := by rw [iI_ofNat, iI_lt (by omega) (by omega) (by omega) (by omega)]; omega
    have hps := pps_s (f := l m) (a := a) (k := k) (n := n) (y := y) (v := v) (by omega)
    rw [fX5_read_66, if_neg hc, C_may C hm hx, bnd]
    simp only [ix_1]
    by_cases e1 : iI (n : Int) = 0 ∨ l m 0 = (iI (v : Int)).toInt64
    · have em : (if iI (n : Int) = 0 then (1 : Int32) else if l m 0 = (iI (v : Int)).toInt64 then 1 else 0) = 1 := by
        rcases e1 with e | e
        · rw [if_pos e]
        · by_cases e3 : iI (n : Int) = 0
          · rw [if_pos e3]
          · rw [if_neg e3, if_pos e]
      obtain ⟨s2, q1, q2⟩ := C_goes (v := v) w C hm hx hn hk hy (by omega)
      simp only [em, i10, itF, q1, bnd]
      rcases so_rng (l m) k n 0 (yz a k y v) with e | e
      · rw [e] at hps ⊢
        obtain ⟨s3, p1, p2⟩ := ih (v + 1) (by omega) g (by omega) s2 (C.fr w q2)
        refine ⟨s3, ?_, q2.tr p2⟩
        rw [if_pos (show iI ((0 : Nat) : Int) = 0 from rfl)]
        rw [show 100 * y + (v + 1) = 100 * y + v + 1 by omega, hps, Nat.add_zero] at p1
        exact p1
      · rw [e] at hps ⊢
        obtain ⟨s3, p1, p2⟩ := ih (v + 1) (by omega) g (by omega) s2 (C.fr w q2)
        refine ⟨s3, ?_, q2.tr p2⟩
        rw [if_neg (show ¬ iI ((1 : Nat) : Int) = 0 by decide)]
        rw [show 100 * y + (v + 1) = 100 * y + v + 1 by omega, hps] at p1
        exact p1
    · have en : ¬ iI (n : Int) = 0 := fun q => e1 (Or.inl q)
      have el : ¬ l m 0 = (iI (v : Int)).toInt64 := fun q => e1 (Or.inr q)
      have hn0 : n ≠ 0 := fun q => en (by rw [q]; rfl)
      have es : so (l m) k n 0 (yz a k y v) = 0 := by
        obtain ⟨q, rfl⟩ : ∃ q, n = q + 1 := ⟨n - 1, by omega⟩
        rw [so, yz_2, if_neg el]
      rw [es] at hps
      simp only [if_neg en, if_neg el, i00, itT]
      obtain ⟨s3, p1, p2⟩ := ih (v + 1) (by omega) g (by omega) s C
      refine ⟨s3, ?_, p2⟩
      rw [show 100 * y + (v + 1) = 100 * y + v + 1 by omega, hps, Nat.add_zero] at p1
      exact p1
theorem C_r56 {a b : kY} {x : uX} {l : uL} {k m n : Nat} (w : Wok a b x) (hm : m < 4) (hx : x 4 m = iI (n : Int)) (hn : n ≤ 40) (hk : k < nn a) : ∀ (r y : Nat), y + r = 6 → ∀ fuel, r < fuel → ∀ s, CW s a b x l → ∃ s', fX5_read_56 fuel (iI k) (51 + 2 * m) (iI ((pps (l m) a k n (100 * y) : Nat) : Int)) (iI y) s = some (iI ((pps (l m) a k n 600 : Nat) : Int), s') ∧ Fr fre s s' := by
  intro r
  induction r with
  | zero =>
    intro y hy fuel hf s C
    obtain ⟨g, rfl⟩ : ∃ g, fuel = g + 1 := ⟨fuel - 1, by omega⟩
    have hc : (6 : Int32) ≤ iI (y : Int) := by rw [iI_ofNat, iI_le (by omega) (by omega) (by omega) (by omega)]; omega
    refine ⟨s, ?_, Fr.rf⟩
    rw [fX5_read_56, if_pos hc, show 100 * y = 600 by omega]
  | succ r ih =>
    intro y hy fuel hf s C
    obtain ⟨g, rfl⟩ : ∃ g, fuel = g + 1 := ⟨fuel - 1, by omega⟩
    have hc : ¬ ((6 : Int32) ≤ iI (y : Int)) := by rw [iI_ofNat, iI_le (by omega) (by omega) (by omega) (by omega)]; omega
    obtain ⟨s2, q1, q2⟩ := C_r66 (K := fX5_read_56 g) w hm hx hn hk (show y < 6 by omega) 100 0 (by omega) kfu (by unfold kfu; omega) s C
    obtain ⟨s3, p1, p2⟩ := ih (y + 1) (by omega) g (by omega) s2 (C.fr w q2)
    refine ⟨s3, ?_, q2.tr p2⟩
    rw [Nat.add_zero, iI_n0] at q1
    rw [fX5_read_56, if_neg hc, q1]
    exact p1
theorem R_rd {a b : kY} {x : uX} {l : uL} {t : kM} {k m n : Nat} (w : Wok a b x) (R : RW t a b x l) (h63 : RR (t.1 63) a) (hm : m < 4) (hx : x 4 m = iI (n : Int)) (hn : n ≤ 40) (hk : k < nn a) : ∀ (r c : Nat), c + r = 600 → ∀ fuel, r < fuel → ∀ ρ, RR ρ a → ∃ ρ', fX6_read_46 fuel (iI m) (iI k) (iI ((pps (l m) a k n c : Nat) : Int)) (iI c) (kset t 60 ρ) = some (iI ((pps (l m) a k n 600 : Nat) : Int), kset t 60 ρ') ∧ RR ρ' a := by
  intro r
  have ok := w.1.1
  have hb := w.1.2
  have hn10 := ok.n10
  have ht : t.1 66 m = iI (n : Int) := by rw [(R.2.2.2.2.2.1 m hm).2.1]; exact hx
  induction r with
  | zero =>
    intro c hc fuel hf ρ h
    obtain ⟨g, rfl⟩ : ∃ g, fuel = g + 1 := ⟨fuel - 1, by omega⟩
    have hc6 : (600 : Int32) ≤ iI (c : Int) := by rw [iI_ofNat, iI_le (by omega) (by omega) (by omega) (by omega)]; omega
    refine ⟨ρ, ?_, h⟩
    rw [fX6_read_46, if_pos hc6, show c = 600 by omega]
  | succ r ih =>
    intro c hc fuel hf ρ h
    obtain ⟨g, rfl⟩ : ∃ g, fuel = g + 1 := ⟨fuel - 1, by omega⟩
    have hc6 : ¬ ((600 : Int32) ≤ iI (c : Int)) := by rw [iI_ofNat, iI_le (by omega) (by omega) (by omega) (by omega)]; omega
    have ed : iI (c : Int) / (100 : Int32) = iI ((c / 100 : Nat) : Int) := by rw [iI_ofNat, iI_div (by omega) (by omega) (by omega) (by omega)]; rfl
    have er : iI (c : Int) - iI ((c / 100 : Nat) : Int) * (100 : Int32) = iI ((c % 100 : Nat) : Int) := by rw [iI_ofNat, iI_mul, iI_sub]; exact congrArg iI (by omega)
    have h2 := RR.knot (k := k) (j := 2) (z := ((c % 100 : Nat) : Int)) (RR.knot (k := k) (j := 0) (z := ((c / 100 : Nat) : Int)) h (by omega)) (by omega)
    rw [show fm 2 = 2 from rfl, show fm 0 = 0 from rfl] at h2
    have h3 : RR (va_up (va_up ρ (22 + 5 * k + 0) (iI ((c / 100 : Nat) : Int))) (22 + 5 * k + 2) (iI ((c % 100 : Nat) : Int))) (yz a k (c / 100) (c % 100)) := h2
    obtain ⟨ρ2, q1⟩ := R_so (k := k) (t := t) (f := l m) hm hn ht (R.2.2.2.2.2.1 m hm).2.2 n 0 (by omega) kfu (by unfold kfu; omega) _ _ h3 (Ok_yz ok (by omega) (by omega)) (by rw [nn_yz]; exact hk) (by rw [yz_0]; omega)
    rw [iI_n0] at q1
    obtain ⟨ρ4, r1, r2⟩ := R_move0 (st := t) (c := 63) (ρ := ρ2) (by omega)
    have h5 : RR ρ4 a := RR.row h63 ok r2
    obtain ⟨ρ6, p1, p2⟩ := ih (c + 1) (by omega) g (by omega) ρ4 h5
    refine ⟨ρ6, ?_, p2⟩
    rw [fX6_read_46, if_neg hc6, ed, er, R_p0 (by omega), bnd, kwr_kset, R_p2 (by omega), bnd, kwr_kset]
    unfold fX6_isSo
    rw [q1, bnd]
    simp only [bnd, r1, ix_1]
    rw [pps] at p1
    rcases so_rng (l m) k n 0 (yz a k (c / 100) (c % 100)) with e | e
    · rw [e] at p1 ⊢
      rw [if_pos (show iI ((0 : Nat) : Int) = 0 from rfl), iI_ofNat 0, iI_add]
      exact p1
    · rw [e] at p1 ⊢
      rw [if_neg (show ¬ iI ((1 : Nat) : Int) = 0 by decide)]
      exact p1
theorem st_read : sp_read Iv := by
  intro st hI v1 v2
  obtain ⟨a, b, x, l, w, C, R⟩ := hI
  have ok := w.1.1
  have hb := w.1.2
  by_cases h1 : v1 < 0 ∨ 3 < v1
  · exact tl1 w C R (by simp only [fX5_read, C_sheet_f h1, bnd, i00, i10, i01, i11, itT, itF, or_true, true_or, or_false, false_or, bet]) (fun s hs => by simp only [fX6_read, R_bad_f h1, bnd, if_neg nb1, bet])
  obtain ⟨m, hm, rfl⟩ := inN 3 rfl (by omega) h1
  have hm4 : m < 4 := by omega
  have hcl := cl_4 hm4
  have hcn := cn_k (show m < 2147483648 by omega)
  by_cases h2 : x 3 m = 0
  · refine tl6 w C R ?_ (fun s hs => ?_)
    · simp only [fX5_read, C_sheet_t h1, bnd, i00, i10, i01, i11, itT, itF, or_true, true_or, or_false, false_or, bet, hcn, if_neg hcl, C_miss C hm4, if_pos h2]
    · simp only [fX6_read, R_bad hs hm4 h1, if_pos h2, bnd, if_neg nb6, bet]
  by_cases h3 : nk a v2
  · refine tl1 w C R ?_ (fun s hs => ?_)
    · simp only [fX5_read, C_sheet_t h1, bnd, i00, i10, i01, i11, itT, itF, or_true, true_or, or_false, false_or, bet, hcn, if_neg hcl, C_miss C hm4, if_neg h2, C_knot_f C h3]
    · simp only [fX6_read, R_bad hs hm4 h1, if_neg h2, bnd, i00, i10, i01, i11, itT, itF, or_true, true_or, or_false, false_or, bet, R_one_f hs h3]
  obtain ⟨k, hk, rfl⟩ := inK ok h3
  obtain ⟨-, n, hn, hx⟩ := w.2.2.2.2 m hm4
  refine join (l' := l) (iI ((pps (l m) a k n 600 : Nat) : Int)) R w ?_ (fun s hs => ?_)
  · obtain ⟨s1, q1, q2⟩ := C_r56 w hm4 hx hn hk 6 0 (by omega) kfu (by unfold kfu; omega) st C
    rw [iI_n0, show pps (l m) a k n (100 * 0) = 0 from rfl, iI_n0] at q1
    refine SC.same w C ⟨s1, ?_, q2⟩
    simp only [fX5_read, C_sheet_t h1, bnd, i00, i10, i01, i11, itT, itF, or_true, true_or, or_false, false_or, bet, hcn, if_neg hcl, C_miss C hm4, if_neg h2, C_knot_t C h3]
    exact q1
  · obtain ⟨φ, o1, o2⟩ := R_move1 (st := s) (c := 63) (by omega)
    have m2 : RW (kset s 63 φ) a b x l := hs.buf (by omega)
    have m3 : RR ((kset s 63 φ).1 63) a := by rw [kset_same]; exact RR.row hs.1 ok o2
    obtain ⟨ρ, p1, p2⟩ := R_rd (k := k) w m2 m3 hm4 hx hn hk 600 0 (by omega) kfu (by unfold kfu; omega) _ m2.1
    rw [kset_self, iI_n0, show pps (l m) a k n 0 = 0 from rfl, iI_n0] at p1
    refine SR.pre (Lo.set (c := 63) (f := φ) (by omega)) ⟨_, ?_, m2.row p2, Lo.set (by omega)⟩
    simp only [fX6_read, R_bad hs hm4 h1, if_neg h2, bnd, i00, i10, i01, i11, itT, itF, or_true, true_or, or_false, false_or, bet, R_one_t hs h3, o1]
    exact p1
