/-! sheets -/
theorem ksetL_1 (st : kM) (c : Nat) (f : Nat → Int64) : (ksetL st c f).1 = st.1 := rfl
theorem ksetL_same (st : kM) (c : Nat) (f : Nat → Int64) : (ksetL st c f).2 c = f := by show va_up st.2 c f c = f; rw [up_eq]
theorem ksetL_ne (st : kM) {c b : Nat} (f : Nat → Int64) (h : b ≠ c) : (ksetL st c f).2 b = st.2 b := by show va_up st.2 c f b = st.2 b; rw [up_ne _ _ h]
theorem ksetL_ksetL (st : kM) (c : Nat) (f g : Nat → Int64) : ksetL (ksetL st c f) c g = ksetL st c g := by
  unfold ksetL
  congr 1
  funext b
  by_cases h : b = c <;> simp [va_up, h]
theorem ksetL_self (st : kM) (c : Nat) : ksetL st c (st.2 c) = st := by
  unfold ksetL
  have : va_up st.2 c (st.2 c) = st.2 := by
    funext b
    by_cases h : b = c <;> simp [va_up, h]
  rw [this]
theorem kwl_ksetL (st : kM) (c j : Nat) (f : Nat → Int64) (x : Int64) : kwl (ksetL st c f) c j x = ksetL st c (va_up f j x) := by
  rw [kwl, ksetL_same, ksetL_ksetL]
/-- the numbers of sheet m anew -/
def lu (l : uL) (m : Nat) (f : Nat → Int64) : uL := fun s j => if s = m then f j else l s j
theorem lu_ne {l : uL} {m s : Nat} {f : Nat → Int64} (h : s ≠ m) : lu l m f s = l s := by funext j; unfold lu; rw [if_neg h]
theorem lu_eq {l : uL} {m : Nat} {f : Nat → Int64} : lu l m f m = f := by funext j; unfold lu; rw [if_pos rfl]
/-- one sheet of the class anew -/
theorem CW.sh {st s' : kM} {a b : kY} {x : uX} {l : uL} {m : Nat} {u z : Int32} {f : Nat → Int64} (w : Wok a b x) (C : CW st a b x l) (hm : m < 4) (h1 : ∀ c, c ≠ 51 + 2 * m → s'.1 c = st.1 c) (h2 : ∀ c, c ≠ 51 + 2 * m + 1 → s'.2 c = st.2 c) (h3 : s'.1 (51 + 2 * m) 0 = u) (h4 : s'.1 (51 + 2 * m) 1 = z) (h5 : ∀ j, j < 40 → s'.2 (51 + 2 * m + 1) j = f j) : CW s' a b (xu (xu x 3 m u) 4 m z) (lu l m f) := by
  obtain ⟨c1, c2, c3, c4, c5, c6, c7⟩ := C
  refine ⟨c1.cong w.1.1 (fun c hc => h1 c (by omega)), fun e => ?_, ?_, ?_, ?_, ?_, ?_⟩
  · rw [xu_ne (by omega), xu_ne (by omega)] at e
    have ok : Ok b := by
      rcases w.2.1 with q | q
      · rw [q] at e; exact absurd e (by decide)
      · exact q.2.1
    exact (c2 e).cong ok (fun b hb => h1 b (by omega))
  · rw [h1 _ (by omega), xu_ne (by omega), xu_ne (by omega)]; exact c3
  · rw [h1 _ (by omega), xu_ne (by omega), xu_ne (by omega)]; exact c4
  · rw [h1 _ (by omega), xu_ne (by omega), xu_ne (by omega)]; exact c5
  · intro i hi
    by_cases e : i = m
    · subst e
      refine ⟨?_, ?_, ?_⟩
      · rw [h3, xu_ne (by omega), xu_eq]
      · rw [h4, xu_eq]
      · rw [lu_eq]; exact h5
    · rw [h1 _ (by omega), h2 _ (by omega), lu_ne e]
      have e3 : xu (xu x 3 m u) 4 m z 3 i = x 3 i := by unfold xu; rw [if_neg (by omega), if_neg (by omega)]
      have e4 : xu (xu x 3 m u) 4 m z 4 i = x 4 i := by unfold xu; rw [if_neg (by omega), if_neg (by omega)]
      rw [e3, e4]
      exact c6 i hi
  · rw [h1 _ (by omega), xu_ne (by omega), xu_ne (by omega)]; exact c7
theorem RW.sh {s s' : kM} {a b : kY} {x : uX} {l : uL} {m : Nat} {u z : Int32} {f : Nat → Int64} (R : RW s a b x l) (hm : m < 4) (h1 : ∀ c, c ≠ 65 → c ≠ 66 → s'.1 c = s.1 c) (h3 : ∀ i, s'.1 65 i = if i = m then u else s.1 65 i) (h4 : ∀ i, s'.1 66 i = if i = m then z else s.1 66 i) (h5 : ∀ i, i < 4 → ∀ j, j < 40 → s'.2 67 (40 * i + j) = if i = m then f j else s.2 67 (40 * i + j)) : RW s' a b (xu (xu x 3 m u) 4 m z) (lu l m f) := by
  obtain ⟨c1, c2, c3, c4, c5, c6, c7⟩ := R
  refine ⟨?_, fun e => ?_, ?_, ?_, ?_, ?_, ?_⟩
  · rw [h1 _ (by omega) (by omega)]; exact c1
  · rw [xu_ne (by omega), xu_ne (by omega)] at e; rw [h1 _ (by omega) (by omega)]; exact c2 e
  · rw [h1 _ (by omega) (by omega), xu_ne (by omega), xu_ne (by omega)]; exact c3
  · rw [h1 _ (by omega) (by omega), xu_ne (by omega), xu_ne (by omega)]; exact c4
  · rw [h1 _ (by omega) (by omega), xu_ne (by omega), xu_ne (by omega)]; exact c5
  · intro i hi
    by_cases e : i = m
    · subst e
      refine ⟨?_, ?_, fun j hj => ?_⟩
      · rw [h3, if_pos rfl, xu_ne (by omega), xu_eq]
      · rw [h4, if_pos rfl, xu_eq]
      · rw [h5 i hi j hj, if_pos rfl, lu_eq]
    · have e3 : xu (xu x 3 m u) 4 m z 3 i = x 3 i := by unfold xu; rw [if_neg (by omega), if_neg (by omega)]
      have e4 : xu (xu x 3 m u) 4 m z 4 i = x 4 i := by unfold xu; rw [if_neg (by omega), if_neg (by omega)]
      rw [h3, h4, if_neg e, if_neg e, e3, e4, lu_ne e]
      refine ⟨(c6 i hi).1, (c6 i hi).2.1, fun j hj => ?_⟩
      rw [h5 i hi j hj, if_neg e]; exact (c6 i hi).2.2 j hj
  · rw [h1 _ (by omega) (by omega), xu_ne (by omega), xu_ne (by omega)]; exact c7
theorem xu_self {x : uX} {m : Nat} : xu (xu x 3 m (x 3 m)) 4 m (x 4 m) = x := by
  funext i j
  unfold xu
  by_cases e : i = 4 ∧ j = m
  · rw [if_pos e, e.1, e.2]
  · rw [if_neg e]
    by_cases e2 : i = 3 ∧ j = m
    · rw [if_pos e2, e2.1, e2.2]
    · rw [if_neg e2]
theorem CW.num {st s' : kM} {a b : kY} {x : uX} {l : uL} {m : Nat} {f : Nat → Int64} (w : Wok a b x) (C : CW st a b x l) (hm : m < 4) (h1 : s'.1 = st.1) (h2 : ∀ c, c ≠ 51 + 2 * m + 1 → s'.2 c = st.2 c) (h5 : ∀ j, j < 40 → s'.2 (51 + 2 * m + 1) j = f j) : CW s' a b x (lu l m f) := by
  have := C.sh (s' := s') (u := x 3 m) (z := x 4 m) w hm (fun c _ => by rw [h1]) h2 (by rw [h1]; exact (C.2.2.2.2.2.1 m hm).1) (by rw [h1]; exact (C.2.2.2.2.2.1 m hm).2.1) h5
  rw [xu_self] at this
  exact this
theorem RW.num {s s' : kM} {a b : kY} {x : uX} {l : uL} {m : Nat} {f : Nat → Int64} (R : RW s a b x l) (hm : m < 4) (h1 : s'.1 = s.1) (h5 : ∀ i, i < 4 → ∀ j, j < 40 → s'.2 67 (40 * i + j) = if i = m then f j else s.2 67 (40 * i + j)) : RW s' a b x (lu l m f) := by
  have := R.sh (s' := s') (u := x 3 m) (z := x 4 m) hm (fun c _ _ => by rw [h1]) (fun i => by
    rw [h1]
    by_cases e : i = m
    · subst e; rw [if_pos rfl]; exact (R.2.2.2.2.2.1 i hm).1
    · rw [if_neg e]) (fun i => by
    rw [h1]
    by_cases e : i = m
    · subst e; rw [if_pos rfl]; exact (R.2.2.2.2.2.1 i hm).2.1
    · rw [if_neg e]) h5
  rw [xu_self] at this
  exact this
theorem S_sb {c : Nat} {st : kM} : ∀ (r k : Nat), k + r = 40 → ∀ fuel, r < fuel → ∀ φ : Nat → Int64, (∀ j, j < k → φ j = 0) → ∃ φ', fX1_begin_12 c fuel (iI k) (ksetL st (c + 1) φ) = some (ksetL st (c + 1) φ') ∧ ∀ j, j < 40 → φ' j = 0 := by
  intro r
  induction r with
  | zero =>
    intro k hk fuel hf φ h
    obtain ⟨f, rfl⟩ : ∃ f, fuel = f + 1 := ⟨fuel - 1, by omega⟩
    have hk' : k = 40 := by omega
    subst hk'
    refine ⟨φ, ?_, h⟩
    unfold fX1_begin_12
    rw [if_pos (show (40 : Int32) ≤ iI ((40 : Nat) : Int) by decide)]
  | succ r ih =>
    intro k hk fuel hf φ h
    obtain ⟨f, rfl⟩ : ∃ f, fuel = f + 1 := ⟨fuel - 1, by omega⟩
    have e2 : iI (k : Int) + 1 = iI ((k + 1 : Nat) : Int) := by rw [iI_ofNat, iI_add]; rfl
    have hc : ¬ ((40 : Int32) ≤ iI (k : Int)) := by rw [iI_ofNat, iI_le (by omega) (by omega) (by omega) (by omega)]; omega
    have hcl : ¬ ((iI (k : Int)) < 0 ∨ 40 ≤ k) := by rw [iI_ofNat, iI_lt (by omega) (by omega) (by omega) (by omega)]; omega
    obtain ⟨φ2, t1, t2⟩ := ih (k + 1) (by omega) f (by omega) (va_up φ k 0) (fun j hj => by
      by_cases e : j = k
      · subst e; rw [up_eq]
      · rw [up_ne _ _ e]; exact h j (by omega))
    refine ⟨φ2, ?_, t2⟩
    unfold fX1_begin_12
    rw [if_neg hc, cn_k (by omega), if_neg hcl, bnd, kwl_ksetL, e2]
    exact t1
theorem S_shb {c : Nat} {st : kM} {u z : Int32} : ∃ φ, fX1_begin c u z st = some (ksetL (kwr (kwr st c 0 u) c 1 z) (c + 1) φ) ∧ ∀ j, j < 40 → φ j = 0 := by
  obtain ⟨φ, t1, t2⟩ := S_sb (c := c) (st := kwr (kwr st c 0 u) c 1 z) 40 0 (by omega) kfu (by unfold kfu; omega) ((kwr (kwr st c 0 u) c 1 z).2 (c + 1)) (fun j hj => absurd hj (by omega))
  rw [ksetL_self, iI_n0] at t1
  refine ⟨φ, ?_, t2⟩
  unfold fX1_begin
  rw [bnd, bnd]
  exact t1
theorem R_sb {m : Nat} {s : kM} (hm : m < 4) : ∀ (r k : Nat), k + r = 40 → ∀ fuel, r < fuel → ∀ φ : Nat → Int64, (∀ j, j < k → φ (40 * m + j) = 0) → (∀ j, (j < 40 * m ∨ 40 * m + 40 ≤ j) → φ j = s.2 67 j) → ∃ φ', fX6_sheet_86 fuel (iI m) (iI k) (ksetL s 67 φ) = some (s.1 66 m, ksetL s 67 φ') ∧ (∀ j, j < 40 → φ' (40 * m + j) = 0) ∧ ∀ j, (j < 40 * m ∨ 40 * m + 40 ≤ j) → φ' j = s.2 67 j := by
  intro r
  induction r with
  | zero =>
    intro k hk fuel hf φ h h'
    obtain ⟨f, rfl⟩ : ∃ f, fuel = f + 1 := ⟨fuel - 1, by omega⟩
    have hk' : k = 40 := by omega
    subst hk'
    refine ⟨φ, ?_, h, h'⟩
    have hcl : ¬ ((iI (m : Int)) < 0 ∨ 4 ≤ m) := by rw [iI_ofNat, iI_lt (by omega) (by omega) (by omega) (by omega)]; omega
    unfold fX6_sheet_86
    rw [if_pos (show (40 : Int32) ≤ iI ((40 : Nat) : Int) by decide), cn_k (by omega), if_neg hcl]
    rfl
  | succ r ih =>
    intro k hk fuel hf φ h h'
    obtain ⟨f, rfl⟩ : ∃ f, fuel = f + 1 := ⟨fuel - 1, by omega⟩
    have e2 : iI (k : Int) + 1 = iI ((k + 1 : Nat) : Int) := by rw [iI_ofNat, iI_add]; rfl
    have e4 : (40 : Int32) * iI (m : Int) + iI (k : Int) = iI ((40 * m + k : Nat) : Int) := by rw [iI_ofNat, iI_mul, iI_add]; exact congrArg iI (by omega)
    have hc : ¬ ((40 : Int32) ≤ iI (k : Int)) := by rw [iI_ofNat, iI_le (by omega) (by omega) (by omega) (by omega)]; omega
    have hcl : ¬ ((iI ((40 * m + k : Nat) : Int)) < 0 ∨ 160 ≤ 40 * m + k) := by rw [iI_ofNat, iI_lt (by omega) (by omega) (by omega) (by omega)]; omega
    obtain ⟨φ2, t1, t2⟩ := ih (k + 1) (by omega) f (by omega) (va_up φ (40 * m + k) 0) (fun j hj => by
      by_cases e : j = k
      · subst e; rw [up_eq]
      · rw [up_ne _ _ (by omega)]; exact h j (by omega)) (fun j hj => by rw [up_ne _ _ (by omega)]; exact h' j hj)
    refine ⟨φ2, ?_, t2⟩
    unfold fX6_sheet_86
    rw [if_neg hc, e4, cn_k (by omega), if_neg hcl, bnd, kwl_ksetL, e2]
    exact t1
theorem Wok_sh {a b : kY} {x : uX} {m n : Nat} {u : Int32} (w : Wok a b x) (hu : u = 0 ∨ u = 8 ∨ u = 16 ∨ u = 64) (hn : n ≤ 40) : Wok a b (xu (xu x 3 m u) 4 m (iI (n : Int))) := by
  refine ⟨w.1, by rw [xu_ne (by omega), xu_ne (by omega)]; exact w.2.1, by rw [xu_ne (by omega), xu_ne (by omega)]; exact w.2.2.1, by rw [xu_ne (by omega), xu_ne (by omega)]; exact w.2.2.2.1, fun s hs => ⟨?_, ?_⟩⟩
  · rw [xu_ne (by omega)]
    unfold xu
    by_cases e : s = m
    · rw [if_pos ⟨rfl, e⟩]; exact hu
    · rw [if_neg (by omega)]; exact (w.2.2.2.2 s hs).1
  · unfold xu
    by_cases e : s = m
    · rw [if_pos ⟨rfl, e⟩]; exact ⟨n, hn, rfl⟩
    · rw [if_neg (by omega), if_neg (by omega)]; exact (w.2.2.2.2 s hs).2
theorem sh_fin {st : kM} {a b : kY} {x : uX} {l : uL} {m n : Nat} {u : Int32} {r1 : Option (Int32 × kM)} {f6 : kM → Option (Int32 × kM)} (w : Wok a b x) (C : CW st a b x l) (R : RW st a b x l) (hm : m < 4) (hu : u = 0 ∨ u = 8 ∨ u = 16 ∨ u = 64) (hn : n ≤ 40) (h1 : r1 = (fX1_begin (51 + 2 * m) u (iI n) st).bind fun s => some (iI (n : Int), s)) (h2 : ∀ s, RW s a b x l → f6 s = fX6_sheet_86 kfu (iI m) 0 (kwr (kwr s 65 m u) 66 m (iI n))) : ∃ q1 q2 : Int32 × kM, r1 = some q1 ∧ f6 q1.2 = some q2 ∧ q1.1 = q2.1 ∧ Iv q2.2 := by
  refine join (l' := lu l m (fun _ => 0)) (iI (n : Int)) R (Wok_sh (m := m) w hu hn) ?_ (fun s hs => ?_)
  · obtain ⟨φ, t1, t2⟩ := S_shb (c := 51 + 2 * m) (st := st) (u := u) (z := iI (n : Int))
    refine ⟨_, by rw [h1, t1, bnd], C.sh w hm (fun c hc => ?_) (fun c hc => ?_) ?_ ?_ (fun j hj => ?_), fun c hc => ⟨?_, ?_⟩⟩
    · rw [ksetL_1, kwr_ne _ _ _ hc, kwr_ne _ _ _ hc]
    · rw [ksetL_ne _ _ hc]; rfl
    · rw [ksetL_1, kwr_same, up_ne _ _ (by omega), kwr_same, up_eq]
    · rw [ksetL_1, kwr_same, up_eq]
    · rw [ksetL_same]; exact t2 j hj
    · rw [ksetL_1, kwr_ne _ _ _ (by omega), kwr_ne _ _ _ (by omega)]
    · rw [ksetL_ne _ _ (by omega)]; rfl
  · obtain ⟨φ, t1, t2, t3⟩ := R_sb (m := m) (s := kwr (kwr s 65 m u) 66 m (iI n)) hm 40 0 (by omega) kfu (by unfold kfu; omega) ((kwr (kwr s 65 m u) 66 m (iI n)).2 67) (fun j hj => absurd hj (by omega)) (fun j _ => rfl)
    rw [ksetL_self, iI_n0, kwr_same, up_eq] at t1
    refine ⟨_, by rw [h2 s hs]; exact t1, hs.sh hm (fun c h1 h2 => ?_) (fun i => ?_) (fun i => ?_) (fun i hi j hj => ?_), fun c hc => ⟨?_, ?_⟩⟩
    · rw [ksetL_1, kwr_ne _ _ _ h2, kwr_ne _ _ _ h1]
    · rw [ksetL_1, kwr_ne _ _ _ (by omega), kwr_same]; unfold va_up; rfl
    · rw [ksetL_1, kwr_same, kwr_ne _ _ _ (by omega)]; unfold va_up; rfl
    · rw [ksetL_same]
      by_cases e : i = m
      · subst e; rw [if_pos rfl]; exact t2 j hj
      · rw [if_neg e]; exact t3 _ (by omega)
    · rw [ksetL_1, kwr_ne _ _ _ (by omega), kwr_ne _ _ _ (by omega)]
    · rw [ksetL_ne _ _ (by omega)]; rfl
theorem st_sheet : sp_sheet Iv := by
  intro st hI v1 v2 v3
  obtain ⟨a, b, x, l, w, C, R⟩ := hI
  by_cases h1 : v1 < 0 ∨ 3 < v1
  · exact tl1 w C R (by simp only [fX5_sheet, C_sheet_f h1, bnd, i00, i10, i01, i11, itT, itF, or_true, true_or, or_false, false_or, bet]) (fun s hs => by simp only [fX6_sheet, R_sheet_f h1, bnd, i00, i10, i01, i11, itT, itF, or_true, true_or, or_false, false_or, bet])
  obtain ⟨m, hm, rfl⟩ := inN 3 rfl (by omega) h1
  have hcl : ¬ ((iI (m : Int)) < 0 ∨ 4 ≤ m) := by rw [iI_ofNat, iI_lt (by omega) (by omega) (by omega) (by omega)]; omega
  have hcn := cn_k (show m < 2147483648 by omega)
  by_cases h2 : v2 = 0 ∨ v2 = 8 ∨ v2 = 16 ∨ v2 = 64
  · have cb : ∀ s, fX5_isSheetBits v2 s = some (1, s) := fun s => by
      unfold fX5_isSheetBits
      rcases h2 with e | e | e | e <;> rw [e] <;> rfl
    have rb : ∀ s, fX6_sheet (iI m) v2 v3 s = fX6_sheet_36 (iI m) v2 v3 s := fun s => by
      simp only [fX6_sheet, R_sheet_t h1, bnd, i00, i10, i01, i11, itT, itF, or_true, true_or, or_false, false_or, bet]
      rcases h2 with e | e | e | e
      · rw [if_pos e]
      · rw [e]; rfl
      · rw [e]; rfl
      · rw [e]; rfl
    by_cases h3 : 0 ≤ v3
    · by_cases h4 : v3 ≤ 40
      · obtain ⟨z, z1, z2, rfl⟩ := iI_of (l := 0) (h := 40) rfl rfl (by omega) (by omega) (by omega) (by omega) h3 h4
        have hz : iI z = iI ((z.toNat : Nat) : Int) := congrArg iI (by omega)
        by_cases e : v2 = 0
        · refine sh_fin (m := m) (n := 0) (u := v2) w C R (by omega) h2 (by omega) ?_ (fun s hs => ?_)
          · simp only [fX5_sheet, C_sheet_t h1, bnd, i00, i10, i01, i11, itT, itF, or_true, true_or, or_false, false_or, bet, cb, if_pos h3, if_pos h4, if_pos e, hcn, if_neg hcl]
            rfl
          · rw [rb]
            simp only [fX6_sheet_36, if_pos h3, if_pos h4, hcn, if_neg hcl, bnd, if_pos e]
            rfl
        · refine sh_fin (m := m) (n := z.toNat) (u := v2) w C R (by omega) h2 (by omega) ?_ (fun s hs => ?_)
          · simp only [fX5_sheet, C_sheet_t h1, bnd, i00, i10, i01, i11, itT, itF, or_true, true_or, or_false, false_or, bet, cb, if_pos h3, if_pos h4, if_neg e, hcn, if_neg hcl]
            rw [hz]
          · rw [rb]
            simp only [fX6_sheet_36, if_pos h3, if_pos h4, hcn, if_neg hcl, bnd, if_neg e]
            rw [hz]
      · exact tl1 w C R (by simp only [fX5_sheet, C_sheet_t h1, bnd, i00, i10, i01, i11, itT, itF, or_true, true_or, or_false, false_or, bet, cb, if_pos h3, if_neg h4]) (fun s hs => by rw [rb]; simp only [fX6_sheet_36, if_pos h3, if_neg h4, bet])
    · exact tl7 w C R (by simp only [fX5_sheet, C_sheet_t h1, bnd, i00, i10, i01, i11, itT, itF, or_true, true_or, or_false, false_or, bet, cb, if_neg h3]) (fun s hs => by rw [rb]; simp only [fX6_sheet_36, if_neg h3, bet])
  · have e0 : ¬ v2 = 0 := fun q => h2 (Or.inl q)
    have e1 : ¬ v2 = 8 := fun q => h2 (Or.inr (Or.inl q))
    have e2 : ¬ v2 = 16 := fun q => h2 (Or.inr (Or.inr (Or.inl q)))
    have e3 : ¬ v2 = 64 := fun q => h2 (Or.inr (Or.inr (Or.inr q)))
    exact tl1 w C R (by simp only [fX5_sheet, fX5_isSheetBits, C_sheet_t h1, bnd, i00, i10, i01, i11, itT, itF, or_true, true_or, or_false, false_or, bet, if_neg e0, if_neg e1, if_neg e2, if_neg e3]) (fun s hs => by simp only [fX6_sheet, R_sheet_t h1, bnd, i00, i10, i01, i11, itT, itF, or_true, true_or, or_false, false_or, bet, if_neg e0, if_neg e1, if_neg e2, if_neg e3])
