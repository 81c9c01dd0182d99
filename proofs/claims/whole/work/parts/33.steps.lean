/-! images, counts, trials -/
theorem SC.pre {α : Type} {r : Option (α × kM)} {st s1 : kM} {v : α} {a b : kY} {x : uX} {l : uL} (h : Hi st s1) (c : SC r s1 v a b x l) : SC r st v a b x l := by
  obtain ⟨s, e, c1, i1⟩ := c
  exact ⟨s, e, c1, h.tr i1⟩
theorem SR.pre {α : Type} {r : Option (α × kM)} {st s1 : kM} {v : α} {a b : kY} {x : uX} {l : uL} (h : Lo st s1) (c : SR r s1 v a b x l) : SR r st v a b x l := by
  obtain ⟨s, e, c1, i1⟩ := c
  exact ⟨s, e, c1, h.tr i1⟩
def xu (x : uX) (p q : Nat) (v : Int32) : uX := fun i j => if i = p ∧ j = q then v else x i j
theorem xu_ne {x : uX} {p q i : Nat} {v : Int32} (h : i ≠ p) : xu x p q v i = x i := by funext j; unfold xu; rw [if_neg (by omega)]
theorem xu_eq {x : uX} {p q : Nat} {v : Int32} : xu x p q v p q = v := by unfold xu; rw [if_pos ⟨rfl, rfl⟩]
theorem Fr16 {st st' : kM} (h : Fr (yc 16) st st') : Fr fre st st' := h.mono (fun b hb => by unfold yc at hb; unfold fre; omega)
theorem C_trial {st : kM} {a b : kY} {x : uX} {l : uL} (w : Wok a b x) (C : CW st a b x l) : ∃ s1, fX4_become 16 1 st = some s1 ∧ Fr fre st s1 ∧ CY s1 16 a := by
  obtain ⟨s1, q1, q2, q3⟩ := S_become (c := 16) C.1 w.1.1 (by omega)
  exact ⟨s1, q1, Fr16 q2, q3⟩
theorem R_trial {s : kM} {a b : kY} {x : uX} {l : uL} (w : Wok a b x) (R : RW s a b x l) : ∃ t, fX6_moveAll 1 62 s = some t ∧ RW t a b x l ∧ RR (t.1 62) a ∧ Lo s t := by
  obtain ⟨φ, q1, q2⟩ := R_move1 (st := s) (c := 62) (by omega)
  refine ⟨_, q1, R.buf (by omega), ?_, Lo.set (by omega)⟩
  rw [kset_same]
  exact RR.row R.1 w.1.1 q2
theorem R_back {t : kM} {a b : kY} {x : uX} {l : uL} {ρ : Nat → Int32} (w : Wok a b x) (R : RW t a b x l) (h : RR (t.1 62) a) (hρ : ∀ j, j < 72 → ρ j = t.1 62 j) : RW (kset t 60 ρ) a b x l := R.row (RR.row h w.1.1 hρ)
theorem st_image : sp_image Iv := by
  intro st hI
  obtain ⟨a, b, x, l, w, C, R⟩ := hI
  have ok := w.1.1
  refine join (1 : Int32) (a' := a) (b' := a) (x' := xu x 0 0 1) (l' := l) R ⟨w.1, Or.inr ⟨xu_eq, w.1⟩, by rw [xu_ne (by omega)]; exact w.2.2.1, by rw [xu_ne (by omega)]; exact w.2.2.2.1, by rw [xu_ne (by omega), xu_ne (by omega)]; exact w.2.2.2.2⟩ ?_ (fun s hs => ?_)
  · obtain ⟨s1, q1, q2, q3⟩ := S_become (c := 31) C.1 ok (by omega)
    obtain ⟨c1, c2, c3, c4, c5, c6, c7⟩ := C
    have ne : ∀ c, (c < 31 ∨ 46 ≤ c) → c ≠ 0 → (kwr s1 0 3 1).1 c = st.1 c := fun c h1 h2 => by rw [kwr_ne _ _ _ h2, q2.2 _ (by unfold yc; omega)]
    refine ⟨kwr s1 0 3 1, by simp only [fX5_image, q1, bnd, i00, i10, i01, i11, itT, itF, or_true, true_or, or_false, false_or, bet], ⟨?_, fun _ => ?_, ?_, ?_, ?_, ?_, ?_⟩, ?_⟩
    · exact c1.cong ok (fun c hc => ne c (by omega) (by omega))
    · exact q3.cong ok (fun c hc => kwr_ne _ _ _ (by omega))
    · rw [kwr_same, up_eq, xu_eq]
    · rw [ne _ (by omega) (by omega), xu_ne (by omega)]; exact c4
    · rw [ne _ (by omega) (by omega), xu_ne (by omega)]; exact c5
    · intro i hi; rw [ne _ (by omega) (by omega), xu_ne (by omega), xu_ne (by omega), kwr_2, q2.1]; exact c6 i hi
    · rw [ne _ (by omega) (by omega), xu_ne (by omega)]; exact c7
    · exact (Hi.fr q2 (fun c hc => by unfold yc at hc; omega)).tr (Hi.wr (by omega))
  · obtain ⟨φ, q1, q2⟩ := R_move1 (st := s) (c := 69) (by omega)
    obtain ⟨c1, c2, c3, c4, c5, c6, c7⟩ := hs
    have ne : ∀ c, c ≠ 69 → c ≠ 59 → (kwr (kset s 69 φ) 59 18 1).1 c = s.1 c := fun c h1 h2 => by rw [kwr_ne _ _ _ h2, kset_ne _ _ h1]
    refine ⟨kwr (kset s 69 φ) 59 18 1, by simp only [fX6_image, q1, bnd, i00, i10, i01, i11, itT, itF, or_true, true_or, or_false, false_or, bet], ⟨?_, fun _ => ?_, ?_, ?_, ?_, ?_, ?_⟩, (Lo.set (by omega)).tr (Lo.wr (by omega))⟩
    · rw [ne _ (by omega) (by omega)]; exact c1
    · rw [kwr_ne _ _ _ (by omega), kset_same]; exact RR.row c1 ok q2
    · rw [kwr_same, up_eq, xu_eq]
    · rw [kwr_same, up_ne _ _ (by omega), kset_ne _ _ (by omega), xu_ne (by omega)]; exact c4
    · rw [ne _ (by omega) (by omega), xu_ne (by omega)]; exact c5
    · rw [ne _ (by omega) (by omega), ne _ (by omega) (by omega), xu_ne (by omega), xu_ne (by omega), kwr_2, kset_2]; exact c6
    · rw [ne _ (by omega) (by omega), xu_ne (by omega)]; exact c7
theorem st_undo : sp_undo Iv := by
  intro st hI
  obtain ⟨a, b, x, l, w, C, R⟩ := hI
  rcases w.2.1 with e | ⟨e, okb, hb⟩
  · exact tl4 w C R (by simp only [fX5_undo, C.2.2.1, e, bnd, i00, i10, i01, i11, itT, itF, or_true, true_or, or_false, false_or, bet]) (fun s hs => by simp only [fX6_undo, hs.2.2.1, e, bnd, i00, i10, i01, i11, itT, itF, or_true, true_or, or_false, false_or, bet])
  · refine join (iI (b 0 1)) (a' := b) R (Wok_a w okb hb) (SC.yard w C ?_) (fun s hs => ?_)
    · obtain ⟨s1, q1, q2, q3⟩ := S_become (c := 1) (C.2.1 e) okb (by omega)
      exact ⟨s1, by simp only [fX5_undo, C.2.2.1, e, bnd, i00, i10, i01, i11, itT, itF, or_true, true_or, or_false, false_or, bet, q1, q3.1.2.1], q2, q3⟩
    · obtain ⟨ρ, q1, q2⟩ := R_move0 (st := s) (c := 69) (ρ := s.1 60) (by omega)
      rw [kset_self] at q1
      have h2 := RR.row (hs.2.1 e) okb q2
      exact SR.row hs ⟨ρ, by simp only [fX6_undo, hs.2.2.1, e, bnd, i00, i10, i01, i11, itT, itF, or_true, true_or, or_false, false_or, bet, q1, kset_same, h2.2.1], h2⟩
theorem st_tear : sp_tear Iv := by
  intro st hI
  obtain ⟨a, b, x, l, w, C, R⟩ := hI
  refine join (x 0 0) (a' := a) (b' := b) (x' := xu x 0 0 0) (l' := l) R ⟨w.1, Or.inl xu_eq, by rw [xu_ne (by omega)]; exact w.2.2.1, by rw [xu_ne (by omega)]; exact w.2.2.2.1, by rw [xu_ne (by omega), xu_ne (by omega)]; exact w.2.2.2.2⟩ ⟨kwr st 0 3 0, ?_, ?_, Hi.wr (by omega)⟩ (fun s hs => ⟨kwr s 59 18 0, ?_, ?_, Lo.wr (by omega)⟩)
  · rcases w.2.1 with e | ⟨e, -⟩ <;> simp only [fX5_tear, C.2.2.1, e, bnd, i00, i10, i01, i11, itT, itF, or_true, true_or, or_false, false_or, bet]
  · obtain ⟨c1, c2, c3, c4, c5, c6, c7⟩ := C
    have ne : ∀ c, c ≠ 0 → (kwr st 0 3 0).1 c = st.1 c := fun c h2 => kwr_ne _ _ _ h2
    refine ⟨c1.cong w.1.1 (fun c hc => ne c (by omega)), fun e => ?_, ?_, ?_, ?_, ?_, ?_⟩
    · rw [xu_eq] at e; exact absurd e (by decide)
    · rw [kwr_same, up_eq, xu_eq]
    · rw [ne _ (by omega), xu_ne (by omega)]; exact c4
    · rw [ne _ (by omega), xu_ne (by omega)]; exact c5
    · intro i hi; rw [ne _ (by omega), xu_ne (by omega), xu_ne (by omega)]; exact c6 i hi
    · rw [ne _ (by omega), xu_ne (by omega)]; exact c7
  · rcases w.2.1 with e | ⟨e, -⟩ <;> simp only [fX6_tear, hs.2.2.1, e, bnd, i00, i10, i01, i11, itT, itF, or_true, true_or, or_false, false_or, bet]
  · obtain ⟨c1, c2, c3, c4, c5, c6, c7⟩ := hs
    have ne : ∀ c, c ≠ 59 → (kwr s 59 18 0).1 c = s.1 c := fun c h2 => kwr_ne _ _ _ h2
    refine ⟨?_, fun e => ?_, ?_, ?_, ?_, ?_, ?_⟩
    · rw [ne _ (by omega)]; exact c1
    · rw [xu_eq] at e; exact absurd e (by decide)
    · rw [kwr_same, up_eq, xu_eq]
    · rw [kwr_same, up_ne _ _ (by omega), xu_ne (by omega)]; exact c4
    · rw [ne _ (by omega), xu_ne (by omega)]; exact c5
    · rw [ne _ (by omega), ne _ (by omega), xu_ne (by omega), xu_ne (by omega)]; exact c6
    · rw [ne _ (by omega), xu_ne (by omega)]; exact c7
/-- the tape's length anew -/
theorem CW.len {st : kM} {a b : kY} {x : uX} {l : uL} {v : Int32} (w : Wok a b x) (C : CW st a b x l) : CW (kwr st 46 1 v) a b (xu x 1 0 v) l := by
  obtain ⟨c1, c2, c3, c4, c5, c6, c7⟩ := C
  have ne : ∀ c, c ≠ 46 → (kwr st 46 1 v).1 c = st.1 c := fun c h2 => kwr_ne _ _ _ h2
  refine ⟨c1.cong w.1.1 (fun c hc => ne c (by omega)), fun e => ?_, ?_, ?_, ?_, ?_, ?_⟩
  · rw [xu_ne (by omega)] at e
    have ok : Ok b := by
      rcases w.2.1 with q | q
      · rw [q] at e; exact absurd e (by decide)
      · exact q.2.1
    exact (c2 e).cong ok (fun b hb => ne b (by omega))
  · rw [ne _ (by omega), xu_ne (by omega)]; exact c3
  · rw [kwr_same, up_eq, xu_eq]
  · rw [ne _ (by omega), xu_ne (by omega)]; exact c5
  · intro i hi; rw [ne _ (by omega), xu_ne (by omega), xu_ne (by omega)]; exact c6 i hi
  · rw [ne _ (by omega), xu_ne (by omega)]; exact c7
theorem RW.len {s : kM} {a b : kY} {x : uX} {l : uL} {v : Int32} (R : RW s a b x l) : RW (kwr s 59 5 v) a b (xu x 1 0 v) l := by
  obtain ⟨c1, c2, c3, c4, c5, c6, c7⟩ := R
  have ne : ∀ c, c ≠ 59 → (kwr s 59 5 v).1 c = s.1 c := fun c h2 => kwr_ne _ _ _ h2
  refine ⟨?_, fun e => ?_, ?_, ?_, ?_, ?_, ?_⟩
  · rw [ne _ (by omega)]; exact c1
  · rw [xu_ne (by omega)] at e; rw [ne _ (by omega)]; exact c2 e
  · rw [kwr_same, up_ne _ _ (by omega), xu_ne (by omega)]; exact c3
  · rw [kwr_same, up_eq, xu_eq]
  · rw [ne _ (by omega), xu_ne (by omega)]; exact c5
  · rw [ne _ (by omega), ne _ (by omega), xu_ne (by omega), xu_ne (by omega)]; exact c6
  · rw [ne _ (by omega), xu_ne (by omega)]; exact c7
theorem Wok_len {a b : kY} {x : uX} {t : Nat} (w : Wok a b x) (ht : t ≤ 120) : Wok a b (xu x 1 0 (iI t)) :=
  ⟨w.1, by rw [xu_ne (by omega)]; exact w.2.1, ⟨t, ht, xu_eq⟩, by rw [xu_ne (by omega)]; exact w.2.2.2.1, by rw [xu_ne (by omega), xu_ne (by omega)]; exact w.2.2.2.2⟩
theorem st_wipe : sp_wipe Iv := by
  intro st hI
  obtain ⟨a, b, x, l, w, C, R⟩ := hI
  exact join (x 1 0) R (Wok_len w (show 0 ≤ 120 by omega)) ⟨kwr st 46 1 0, by simp only [fX5_wipe, C.2.2.2.1, bnd, i00, i10, i01, i11, itT, itF, or_true, true_or, or_false, false_or, bet], C.len w, Hi.wr (by omega)⟩ (fun s hs => ⟨kwr s 59 5 0, by simp only [fX6_wipe, hs.2.2.2.1, bnd, i00, i10, i01, i11, itT, itF, or_true, true_or, or_false, false_or, bet], hs.len, Lo.wr (by omega)⟩)
theorem st_count : sp_count Iv := by
  intro st hI v1
  obtain ⟨a, b, x, l, w, C, R⟩ := hI
  have ok := w.1.1
  by_cases e0 : v1 = 0
  · refine join (iI (a 0 1)) R w (SC.rf C ?_) (fun s hs => SR.rf hs ?_)
    · simp only [fX5_count, if_pos e0, C.1.1.2.1]
    · simp only [fX6_count, if_pos e0, hs.1.2.1]
  by_cases e1 : v1 = 1
  · refine join (x 1 0) R w (SC.rf C ?_) (fun s hs => SR.rf hs ?_)
    · simp only [fX5_count, if_neg e0, if_pos e1, C.2.2.2.1]
    · simp only [fX6_count, if_neg e0, if_pos e1, hs.2.2.2.1]
  by_cases e2 : v1 = 2
  · refine join (iI (sm (fun i => a 2 i) 4)) R w (SC.rf C ?_) (fun s hs => SR.rf hs ?_)
    · simp only [fX5_count, if_neg e0, if_neg e1, if_pos e2, S_allWeights C.1, bnd, i00, i10, i01, i11, itT, itF, or_true, true_or, or_false, false_or, bet]
    · simp only [fX6_count, if_neg e0, if_neg e1, if_pos e2, R_weights hs.1, bnd, i00, i10, i01, i11, itT, itF, or_true, true_or, or_false, false_or, bet]
  by_cases e3 : v1 = 3
  · refine join (iI (sm (fun i => a (4 + i) 3) (nn a))) R w (SC.rf C ?_) (fun s hs => SR.rf hs ?_)
    · simp only [fX5_count, if_neg e0, if_neg e1, if_neg e2, if_pos e3, S_allAges C.1 ok, bnd, i00, i10, i01, i11, itT, itF, or_true, true_or, or_false, false_or, bet]
    · have := R_sumOf (j := 4) (by omega) hs.1 ok
      rw [show iI ((4 : Nat) : Int) = (4 : Int32) from rfl] at this
      simp only [fX6_count, if_neg e0, if_neg e1, if_neg e2, if_pos e3, this, bnd, i00, i10, i01, i11, itT, itF, or_true, true_or, or_false, false_or, bet]
      rfl
  exact tl1 w C R (by simp only [fX5_count, bnd, i00, i10, i01, i11, itT, itF, or_true, true_or, or_false, false_or, bet, if_neg e0, if_neg e1, if_neg e2, if_neg e3]) (fun s _ => by simp only [fX6_count, bnd, i00, i10, i01, i11, itT, itF, or_true, true_or, or_false, false_or, bet, if_neg e0, if_neg e1, if_neg e2, if_neg e3])
def ts (x : uX) : Nat → Int32
  | 0 => 0
  | k + 1 => ts x k + x 5 k
theorem C_at4 {st : kM} {a b : kY} {x : uX} {l : uL} (C : CW st a b x l) : ∀ (r k : Nat), k + r = 7 → ∀ fuel, r < fuel → fX5_allTold_4 fuel (ts x k) (iI k) st = some (ts x 7, st) := by
  intro r
  induction r with
  | zero =>
    intro k hk fuel hf
    obtain ⟨f, rfl⟩ : ∃ f, fuel = f + 1 := ⟨fuel - 1, by omega⟩
    have hk' : k = 7 := by omega
    subst hk'
    unfold fX5_allTold_4
    rw [if_pos (by decide)]
  | succ r ih =>
    intro k hk fuel hf
    obtain ⟨f, rfl⟩ : ∃ f, fuel = f + 1 := ⟨fuel - 1, by omega⟩
    have e2 : iI ((k : Int) + 1) = iI ((k + 1 : Nat) : Int) := rfl
    unfold fX5_allTold_4
    simp (disch := omega) only [iI_ofNat, iI_add, iI_sub, iI_mul, iI_neg, iI_lt, iI_le, iI_eq, iI_cl, Int.toNat_natCast, Option.bind_some]
    rw [if_neg (by omega), if_neg (by omega), e2, C.2.2.2.2.2.2 k (by omega)]
    exact ih (k + 1) (by omega) f (by omega)
theorem R_st21 {s : kM} {a b : kY} {x : uX} {l : uL} {v : Int32} (R : RW s a b x l) : ∀ (r k : Nat), k + r = 7 → ∀ fuel, r < fuel → fX6_status_21 fuel v (ts x k) (iI k) s = (if 0 ≤ v then (if 0 ≤ v then (if v < 0 ∨ 7 ≤ v.toNatClampNeg then none else (some ((s.1 61 v.toNatClampNeg), s))) else (some ((s.1 61 0), s))) else (some (ts x 7, s))) := by
  intro r
  induction r with
  | zero =>
    intro k hk fuel hf
    obtain ⟨f, rfl⟩ : ∃ f, fuel = f + 1 := ⟨fuel - 1, by omega⟩
    have hk' : k = 7 := by omega
    subst hk'
    unfold fX6_status_21
    rw [if_pos (show (7 : Int32) ≤ iI ((7 : Nat) : Int) by decide)]
  | succ r ih =>
    intro k hk fuel hf
    obtain ⟨f, rfl⟩ : ∃ f, fuel = f + 1 := ⟨fuel - 1, by omega⟩
    have e2 : iI ((k : Int) + 1) = iI ((k + 1 : Nat) : Int) := rfl
    have h7 : ¬ ((7 : Int32) ≤ iI (k : Int)) := by rw [iI_ofNat, iI_le (by omega) (by omega) (by omega) (by omega)]; omega
    have h8 : ¬ (iI (k : Int) < 0 ∨ 7 ≤ k) := by rw [iI_ofNat, iI_lt (by omega) (by omega) (by omega) (by omega)]; omega
    have hcn : (iI (k : Int)).toNatClampNeg = k := by rw [iI_cl (by omega) (by omega)]; omega
    have ha : iI (k : Int) + 1 = iI ((k + 1 : Nat) : Int) := by rw [iI_ofNat, iI_add]; rfl
    unfold fX6_status_21
    rw [if_neg h7, hcn, if_neg h8, Option.bind_some, ha, R.2.2.2.2.2.2 k (by omega)]
    exact ih (k + 1) (by omega) f (by omega)
theorem C_allTold {st : kM} {a b : kY} {x : uX} {l : uL} (C : CW st a b x l) : fX5_allTold st = some (ts x 7, st) := C_at4 C 7 0 (by omega) kfu (by unfold kfu; omega)
theorem R_st0 {s : kM} {a b : kY} {x : uX} {l : uL} {v : Int32} (R : RW s a b x l) : fX6_status_21 kfu v 0 0 s = (if 0 ≤ v then (if 0 ≤ v then (if v < 0 ∨ 7 ≤ v.toNatClampNeg then none else (some ((s.1 61 v.toNatClampNeg), s))) else (some ((s.1 61 0), s))) else (some (ts x 7, s))) := R_st21 R 7 0 (by omega) kfu (by unfold kfu; omega)
theorem n1_in : ¬ ((-1 : Int32) < -1 ∨ 6 < (-1 : Int32)) := by
  simp (disch := omega) only [iI_ofNat, iI_add, iI_sub, iI_mul, iI_neg, iI_lt, iI_le, iI_eq, iI_cl]; omega
theorem n1_le : ¬ ((0 : Int32) ≤ -1) := by
  simp (disch := omega) only [iI_ofNat, iI_add, iI_sub, iI_mul, iI_neg, iI_lt, iI_le, iI_eq, iI_cl]; omega
theorem st_r {v : Int32} (e : ¬ v = -1) : (v < 0 ∨ 6 < v) ↔ (v < -1 ∨ 6 < v) := by
  obtain ⟨z, z1, z2, rfl⟩ := iI_any v
  simp (disch := omega) only [iI_ofNat, iI_add, iI_sub, iI_mul, iI_neg, iI_lt, iI_le, iI_eq, iI_cl] at e ⊢
  omega
theorem C_st1 {st : kM} {a b : kY} {x : uX} {l : uL} {k : Nat} (C : CW st a b x l) (hk : k < 7) (e : ¬ iI (k : Int) = -1) (h1 : ¬ (iI (k : Int) < 0 ∨ 6 < iI (k : Int))) : fX5_status (iI k) st = some (x 5 k, st) := by
  have h8 : ¬ (iI (k : Int) < 0 ∨ 7 ≤ k) := by rw [iI_ofNat, iI_lt (by omega) (by omega) (by omega) (by omega)]; omega
  have hcn : (iI (k : Int)).toNatClampNeg = k := by rw [iI_cl (by omega) (by omega)]; omega
  unfold fX5_status
  rw [if_neg e, C_in_t h1, Option.bind_some, hcn, if_neg h8, C.2.2.2.2.2.2 k hk]
  rfl
theorem R_st1 {s : kM} {a b : kY} {x : uX} {l : uL} {k : Nat} (hs : RW s a b x l) (hk : k < 7) (h2 : ¬ (iI (k : Int) < -1 ∨ 6 < iI (k : Int))) : fX6_status (iI k) s = some (x 5 k, s) := by
  have h8 : ¬ (iI (k : Int) < 0 ∨ 7 ≤ k) := by rw [iI_ofNat, iI_lt (by omega) (by omega) (by omega) (by omega)]; omega
  have hcn : (iI (k : Int)).toNatClampNeg = k := by rw [iI_cl (by omega) (by omega)]; omega
  have h9 : 0 ≤ iI (k : Int) := by rw [iI_ofNat, iI_le (by omega) (by omega) (by omega) (by omega)]; omega
  unfold fX6_status
  rw [R_in_t h2, Option.bind_some, R_st0 hs, if_pos h9, if_pos h9, hcn, if_neg h8, hs.2.2.2.2.2.2 k hk]
  rfl
theorem C_st2 {st : kM} {v : Int32} (e : ¬ v = -1) (h1 : v < 0 ∨ 6 < v) : fX5_status v st = fX5_tell (-1000000001) st := by
  unfold fX5_status
  rw [if_neg e, C_in_f h1, Option.bind_some, bet]
  rfl
theorem R_st2 {st : kM} {v : Int32} (h1 : v < -1 ∨ 6 < v) : fX6_status v st = fX6_finds (-1000000001) st := by
  unfold fX6_status
  rw [R_in_f h1, Option.bind_some, bet]
  rfl
theorem C_st3 {st : kM} {a b : kY} {x : uX} {l : uL} {v : Int32} (e : v = -1) (C : CW st a b x l) : fX5_status v st = some (ts x 7, st) := by
  unfold fX5_status
  rw [if_pos e, C_allTold C, Option.bind_some]
theorem R_st3 {s : kM} {a b : kY} {x : uX} {l : uL} {v : Int32} (e : v = -1) (hs : RW s a b x l) : fX6_status v s = some (ts x 7, s) := by
  unfold fX6_status
  rw [e, R_in_t n1_in, Option.bind_some, R_st0 hs, if_neg n1_le]
  rfl
theorem st_status : sp_status Iv := by
  intro st hI v1
  obtain ⟨a, b, x, l, w, C, R⟩ := hI
  by_cases e : v1 = -1
  · exact join (ts x 7) R w (SC.rf C (C_st3 e C)) (fun s hs => SR.rf hs (R_st3 e hs))
  by_cases h1 : v1 < 0 ∨ 6 < v1
  · exact tl1 w C R (C_st2 e h1) (fun s _ => R_st2 ((st_r e).mp h1))
  have h2 : ¬ (v1 < -1 ∨ 6 < v1) := fun q => h1 ((st_r e).mpr q)
  obtain ⟨k, hk, rfl⟩ := inN 6 rfl (by omega) h1
  exact join (x 5 k) R w (SC.rf C (C_st1 C (by omega) e h1)) (fun s hs => SR.rf hs (R_st1 hs (by omega) h2))
