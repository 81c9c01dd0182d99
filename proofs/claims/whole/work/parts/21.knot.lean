/-! one knot: kind 0, mast 1, open 2, age 3, fast 4 -/
def Hd (k : Nat → Int) (w oth : Int) : Int := if k 4 = 0 then 0 else if k 0 = 1 then (if k 2 < 60 then 2 * k 2 else 3 * k 2) else if k 0 = 2 then (if 0 < 2 * k 2 - w then 2 * k 2 - w else 0) else if k 0 = 3 then 99 - k 2 else if k 0 = 4 then (if k 2 < 60 then 2 * k 2 else 3 * k 2) + 10 * oth else if k 0 = 5 then (if 60 < 2 * k 2 - w then 2 * k 2 - w else 60) else 2 * k 2
def Sg (k : Nat → Int) (w : Int) : Int := if k 0 = 1 then (if k 2 < 60 then 2 else 0) else if k 0 = 2 then 2 + w / 10 else if k 0 = 3 then -1 else if k 0 = 4 then (if k 2 < 60 then 1 else 0) else if k 0 = 5 then (if 6 ≤ k 3 then 2 + w / 10 else 0) else 2
def Tg (k : Nat → Int) : Int := if k 0 = 1 then 30 else if k 0 = 2 then 10 else if k 0 = 3 then -20 else if k 0 = 4 then 30 else if k 0 = 5 then (if k 2 < 90 then 10 else 0) else 15
def Gw (k : Nat → Int) (s h : Int) : Int := if k 0 = 1 ∨ k 0 = 4 then (if s ≤ h then 0 else if 90 ≤ k 2 then 0 else 1) else if k 0 = 3 then (if s ≤ h then (if k 2 = 99 then 1 else 0) else 1) else if k 0 = 5 then (if s ≤ h then 0 else if k 3 < 3 then 0 else 1) else (if s ≤ h then 0 else 1)
/-- held to 0 .. 99 -/
def Cl (z : Int) : Int := if 0 < (if z < 99 then z else 99) then (if z < 99 then z else 99) else 0
/-- held to 9999 -/
def Ag (z : Int) : Int := if z < 9999 then z else 9999
def Kok (k : Nat → Int) : Prop := (0 ≤ k 0 ∧ k 0 ≤ 5) ∧ (0 ≤ k 1 ∧ k 1 ≤ 3) ∧ (0 ≤ k 2 ∧ k 2 ≤ 99) ∧ (0 ≤ k 3 ∧ k 3 ≤ 9999) ∧ (k 4 = 0 ∨ k 4 = 1)
/-- cell c is knot k -/
def Kr (st : kM) (c : Nat) (k : Nat → Int) : Prop := ∀ j, j < 5 → st.1 c j = iI (k j)
theorem Kr.get {st : kM} {c : Nat} {k : Nat → Int} (h : Kr st c k) : st.1 c 0 = iI (k 0) ∧ st.1 c 1 = iI (k 1) ∧ st.1 c 2 = iI (k 2) ∧ st.1 c 3 = iI (k 3) ∧ st.1 c 4 = iI (k 4) := ⟨h 0 (by omega), h 1 (by omega), h 2 (by omega), h 3 (by omega), h 4 (by omega)⟩
theorem S_holding {st : kM} {c : Nat} {k : Nat → Int} {w oth : Int} (h : Kr st c k) (ok : Kok k) (hw : 0 ≤ w ∧ w ≤ 99) (ho : -1 ≤ oth ∧ oth ≤ 10) : fX0_holding c (iI w) (iI oth) st = some (iI (Hd k w oth), st) := by
  obtain ⟨h0, h1, h2, h3, h4⟩ := h.get
  obtain ⟨o0, o1, o2, o3, o4⟩ := ok
  unfold fX0_holding fX0_spliceHolding Hd
  simp (disch := omega) only [h0, h2, h4, iI_ofNat, iI_add, iI_sub, iI_mul, iI_neg, iI_lt, iI_le, iI_eq, iI_cl]
  repeat' split
  all_goals first | rfl | (exfalso; omega) | (simp (disch := omega) only [Option.bind_some, Option.some.injEq, Prod.mk.injEq, iI_ofNat, iI_add, iI_sub, iI_mul, iI_neg, iI_lt, iI_le, iI_eq, iI_cl])
theorem Hd_rng {k : Nat → Int} {w oth : Int} (ok : Kok k) (hw : 0 ≤ w ∧ w ≤ 99) (ho : -1 ≤ oth ∧ oth ≤ 10) : -10 ≤ Hd k w oth ∧ Hd k w oth ≤ 1000 := by
  obtain ⟨o0, o1, o2, o3, o4⟩ := ok
  unfold Hd
  repeat' split
  all_goals omega
theorem S_settling {st : kM} {c : Nat} {k : Nat → Int} {w : Int} (h : Kr st c k) (ok : Kok k) (hw : 0 ≤ w ∧ w ≤ 99) : fX0_settling c (iI w) st = some (iI (Sg k w), st) := by
  obtain ⟨h0, h1, h2, h3, h4⟩ := h.get
  obtain ⟨o0, o1, o2, o3, o4⟩ := ok
  unfold fX0_settling Sg
  simp (disch := omega) only [h0, h2, h3, iI_ofNat, iI_add, iI_sub, iI_mul, iI_neg, iI_lt, iI_le, iI_eq, iI_cl, iI_div]
  repeat' split
  all_goals first | rfl | (exfalso; omega)
theorem Sg_rng {k : Nat → Int} {w : Int} (hw : 0 ≤ w ∧ w ≤ 99) : -1 ≤ Sg k w ∧ Sg k w ≤ 11 := by
  unfold Sg
  repeat' split
  all_goals omega
theorem S_teasing {st : kM} {c : Nat} {k : Nat → Int} (h : Kr st c k) (ok : Kok k) : fX0_teasing c st = some (iI (Tg k), st) := by
  obtain ⟨h0, h1, h2, h3, h4⟩ := h.get
  obtain ⟨o0, o1, o2, o3, o4⟩ := ok
  unfold fX0_teasing Tg
  simp (disch := omega) only [h0, h2, iI_ofNat, iI_add, iI_sub, iI_mul, iI_neg, iI_lt, iI_le, iI_eq, iI_cl]
  repeat' split
  all_goals first | rfl | (exfalso; omega)
theorem Tg_rng {k : Nat → Int} : -20 ≤ Tg k ∧ Tg k ≤ 30 := by
  unfold Tg
  repeat' split
  all_goals omega
theorem Cl_rng (z : Int) : 0 ≤ Cl z ∧ Cl z ≤ 99 := by
  unfold Cl
  repeat' split
  all_goals omega
theorem S_openBy {st : kM} {c : Nat} {k : Nat → Int} {z : Int} (h : Kr st c k) (ok : Kok k) (hz : -1000 ≤ z ∧ z ≤ 1000) : fX0_openBy c (iI z) st = some (kwr st c 2 (iI (Cl (k 2 + z)))) := by
  obtain ⟨h0, h1, h2, h3, h4⟩ := h.get
  obtain ⟨o0, o1, o2, o3, o4⟩ := ok
  unfold fX0_openBy Cl
  by_cases h5 : k 2 + z < 99
  · by_cases h6 : 0 < k 2 + z
    · simp (disch := omega) only [h2, iI_ofNat, iI_add, iI_sub, iI_mul, iI_neg, iI_lt, iI_le, iI_eq, iI_cl, Option.bind_some, Option.some.injEq, Prod.mk.injEq, h5, h6, if_true]
    · simp (disch := omega) only [h2, iI_ofNat, iI_add, iI_sub, iI_mul, iI_neg, iI_lt, iI_le, iI_eq, iI_cl, Option.bind_some, Option.some.injEq, Prod.mk.injEq, h5, h6, if_true, if_false]
  · simp (disch := omega) only [h2, iI_ofNat, iI_add, iI_sub, iI_mul, iI_neg, iI_lt, iI_le, iI_eq, iI_cl, Option.bind_some, Option.some.injEq, Prod.mk.injEq, h5, if_false]
    have h6 : (0 : Int) < 99 := by omega
    simp only [h6, if_true]
def tz (k : Nat → Int) : Nat → Int := va_up k 2 (Cl (k 2 + Tg k))
/-- a knot that settles -/
def sz (k : Nat → Int) (w : Int) : Nat → Int := va_up (va_up k 2 (Cl (k 2 + -Sg k w))) 3 (Ag (k 3 + 1))
theorem S_beTeased {st : kM} {c : Nat} {k : Nat → Int} (h : Kr st c k) (ok : Kok k) : fX0_beTeased c st = some (kwr st c 2 (iI (Cl (k 2 + Tg k)))) := by
  have := @Tg_rng k
  unfold fX0_beTeased
  rw [S_teasing h ok, Option.bind_some, S_openBy h ok (by omega), Option.bind_some]
theorem S_settle {st : kM} {c : Nat} {k : Nat → Int} {w : Int} (h : Kr st c k) (ok : Kok k) (hw : 0 ≤ w ∧ w ≤ 99) : fX0_settle c (iI w) st = some (kwr (kwr st c 2 (iI (Cl (k 2 + -Sg k w)))) c 3 (iI (Ag (k 3 + 1)))) := by
  have hs := @Sg_rng k w hw
  obtain ⟨h0, h1, h2, h3, h4⟩ := h.get
  unfold fX0_settle
  rw [S_settling h ok hw, Option.bind_some, iI_neg, S_openBy h ok (by omega), Option.bind_some, kwr_same, up_ne _ _ (by omega), h3, Option.bind_some]
  obtain ⟨o0, o1, o2, o3, o4⟩ := ok
  unfold Ag
  by_cases h5 : k 3 + 1 < 9999
  · simp (disch := omega) only [iI_ofNat, iI_add, iI_sub, iI_mul, iI_neg, iI_lt, iI_le, iI_eq, iI_cl, h5, if_true]
  · simp (disch := omega) only [iI_ofNat, iI_add, iI_sub, iI_mul, iI_neg, iI_lt, iI_le, iI_eq, iI_cl, h5, if_false]
theorem Kr.wr {st : kM} {c j : Nat} {k : Nat → Int} {z : Int} (h : Kr st c k) : Kr (kwr st c j (iI z)) c (va_up k j z) := by
  intro i hi
  rw [kwr_same]
  by_cases e : i = j
  · subst e; rw [up_eq, up_eq]
  · rw [up_ne _ _ e, up_ne _ _ e]; exact h i hi
theorem S_givesWay {st : kM} {c : Nat} {k : Nat → Int} {s h : Int} (hk : Kr st c k) (ok : Kok k) (hs : 0 ≤ s ∧ s ≤ 2000) (hh : -10 ≤ h ∧ h ≤ 1000) : fX0_givesWay c (iI s) (iI h) st = some (iI (Gw k s h), st) := by
  obtain ⟨h0, h1, h2, h3, h4⟩ := hk.get
  obtain ⟨o0, o1, o2, o3, o4⟩ := ok
  unfold fX0_givesWay fX0_givesWay_10 Gw
  simp (disch := omega) only [h0, h2, h3, iI_ofNat, iI_add, iI_sub, iI_mul, iI_neg, iI_lt, iI_le, iI_eq, iI_cl, true_or, or_true, if_true]
  repeat' split
  all_goals first | rfl | (exfalso; omega)
theorem Gw_rng {k : Nat → Int} {s h : Int} : Gw k s h = 0 ∨ Gw k s h = 1 := by
  unfold Gw
  repeat' split
  all_goals omega
theorem Kok_tz {k : Nat → Int} (h : Kok k) : Kok (tz k) := by
  obtain ⟨o0, o1, o2, o3, o4⟩ := h
  have := Cl_rng (k 2 + Tg k)
  refine ⟨?_, ?_, ?_, ?_, ?_⟩ <;> simp only [tz, va_up] <;> simp <;> omega
theorem Kok_sz {k : Nat → Int} {w : Int} (h : Kok k) : Kok (sz k w) := by
  obtain ⟨o0, o1, o2, o3, o4⟩ := h
  have := Cl_rng (k 2 + -Sg k w)
  have h9 : 0 ≤ Ag (k 3 + 1) ∧ Ag (k 3 + 1) ≤ 9999 := by unfold Ag; split <;> omega
  refine ⟨?_, ?_, ?_, ?_, ?_⟩ <;> simp only [sz, va_up] <;> simp <;> omega
theorem Kr.cong {st st' : kM} {c : Nat} {k k' : Nat → Int} (h : Kr st c k) (hs : st'.1 c = st.1 c) (hk : ∀ j, j < 5 → k' j = k j) : Kr st' c k' := fun j hj => by rw [hs, hk j hj]; exact h j hj
theorem S_isOf {st : kM} {c : Nat} {k : Nat → Int} {z : Int} (h : Kr st c k) (ok : Kok k) (hz : 0 ≤ z ∧ z ≤ 5) : fX0_isOf c (iI z) st = some (if z = k 0 ∨ z = 0 ∨ (z = 1 ∧ k 0 = 4) ∨ (z = 2 ∧ k 0 = 5) then 1 else 0, st) := by
  obtain ⟨h0, h1, h2, h3, h4⟩ := h.get
  obtain ⟨o0, o1, o2, o3, o4⟩ := ok
  unfold fX0_isOf fX0_isOf_25
  simp (disch := omega) only [h0, iI_ofNat, iI_add, iI_sub, iI_mul, iI_neg, iI_lt, iI_le, iI_eq, iI_cl]
  repeat' split
  all_goals first | rfl | (exfalso; omega)
/-- the knot as it is put new -/
theorem S_begin (st : kM) (c : Nat) (x y : Int) : ∃ st', fX0_begin c (iI x) (iI y) st = some st' ∧ Fr (fun b => b = c) st st' ∧ Kr st' c (fun j => if j = 0 then x else if j = 1 then y else if j = 2 then 50 else if j = 4 then 1 else 0) := by
  refine ⟨_, rfl, ?_, ?_⟩
  · exact (((((Fr.rf (P := fun b => b = c)).tr (Fr.wr 0 _ rfl)).tr (Fr.wr 1 _ rfl)).tr (Fr.wr 2 _ rfl)).tr (Fr.wr 3 _ rfl)).tr (Fr.wr 4 _ rfl)
  · intro j hj
    match j, hj with
    | 0, _ => simp [kwr_same, va_up]
    | 1, _ => simp [kwr_same, va_up]
    | 2, _ => simp [kwr_same, va_up]; rfl
    | 3, _ => simp [kwr_same, va_up]; rfl
    | 4, _ => simp [kwr_same, va_up]; rfl
    | j + 5, h => omega
theorem S_beLike {st : kM} {c c1 : Nat} {k : Nat → Int} (h : Kr st c1 k) (ok : Kok k) (hne : c1 ≠ c) : ∃ st', fX0_beLike c c1 st = some st' ∧ Fr (fun b => b = c) st st' ∧ Kr st' c k := by
  obtain ⟨h0, h1, h2, h3, h4⟩ := h.get
  obtain ⟨o0, o1, o2, o3, o4⟩ := ok
  unfold fX0_beLike
  simp (disch := omega) only [Option.bind_some, kwr_ne _ _ _ hne, h0, h1, h2, h3, h4, iI_ofNat, iI_add, iI_sub, iI_mul, iI_neg, iI_lt, iI_le, iI_eq, iI_cl, o4, if_true]
  refine ⟨_, rfl, ?_, ?_⟩
  · exact (((((Fr.rf (P := fun b => b = c)).tr (Fr.wr 0 _ rfl)).tr (Fr.wr 1 _ rfl)).tr (Fr.wr 2 _ rfl)).tr (Fr.wr 3 _ rfl)).tr (Fr.wr 4 _ rfl)
  · intro j hj
    match j, hj with
    | 0, _ => simp [kwr_same, va_up]
    | 1, _ => simp [kwr_same, va_up]
    | 2, _ => simp [kwr_same, va_up]
    | 3, _ => simp [kwr_same, va_up]
    | 4, _ => simp [kwr_same, va_up]
    | j + 5, h => omega
