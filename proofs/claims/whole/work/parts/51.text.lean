/-! the text of a yard -/
theorem bs (o : Option kM) : (o.bind fun s => some s) = o := by cases o <;> rfl
theorem IT.pre {B : Nat → Int} {t p p1 lo : Nat} {a : kY} {f5 f5' : kM → Option (Int32 × kM)} {f6 f6' : kM → Option kM} (h5 : ∀ s, KC B t p a s → ∃ s1, Fr fre s s1 ∧ KC B t p1 a s1 ∧ f5' s = (f5 s1).bind (fun q => if q.1 = 0 ∨ q.1 = 1 then some (q.1, q.2) else none)) (h6 : ∀ s, KR B t p a s → ∃ s1, FT s s1 ∧ KR B t p1 a s1 ∧ f6' s = f6 s1) (I : IT B t f5 f6 p1 a lo) : IT B t f5' f6' p a lo := by
  rcases I with ⟨a', p', o1, o2, o3, o4, o5, o6⟩ | ⟨p', o1, o2, o3⟩
  · refine Or.inl ⟨a', p', o1, o2, o3, o4, fun s K => ?_, fun s K => ?_⟩
    · obtain ⟨s1, c1, c2, c3⟩ := h5 s K
      obtain ⟨s2, d1, d2, d3⟩ := o5 s1 c2
      exact ⟨s2, by rw [c3, d1, bnd, if_pos (Or.inr rfl)], c1.tr d2, d3⟩
    · obtain ⟨s1, c1, c2, c3⟩ := h6 s K
      obtain ⟨s2, d1, d2, d3⟩ := o6 s1 c2
      exact ⟨s2, by rw [c3, d1], c1.tr d2, d3⟩
  · refine Or.inr ⟨p', o1, fun s K => ?_, fun s K => ?_⟩
    · obtain ⟨s1, c1, c2, c3⟩ := h5 s K
      obtain ⟨s2, d1, d2, d3⟩ := o2 s1 c2
      exact ⟨s2, by rw [c3, d1, bnd, if_pos (Or.inl rfl)], c1.tr d2, d3⟩
    · obtain ⟨s1, c1, c2, c3⟩ := h6 s K
      obtain ⟨s2, d1, d2, d3⟩ := o3 s1 c2
      exact ⟨s2, by rw [c3, d1], c1.tr d2, d3⟩
theorem IT.lo {B : Nat → Int} {t p lo lo' : Nat} {a : kY} {f5 : kM → Option (Int32 × kM)} {f6 : kM → Option kM} (h : lo' ≤ lo) (I : IT B t f5 f6 p a lo) : IT B t f5 f6 p a lo' := by
  rcases I with ⟨a', p', o1, o2, o3, o4, o5, o6⟩ | I
  · exact Or.inl ⟨a', p', o1, o2, Nat.le_trans h o3, o4, o5, o6⟩
  · exact Or.inr I
theorem item {B : Nat → Int} {t p : Nat} {a : kY} (T : TB B t) (hp : p ≤ t) (ok : Ok a) : IT B t fX3_readItem fX6_wantItem p a (p + 1) := by
  have hp1 := (tok_ok T hp).2.2.1
  have g1 : ∀ w, Wd B t p w → p + 1 ≤ te B t p := fun w h => (tok_ok T hp).2.2.2.1 (by rw [h.1]; omega)
  have ne : ∀ {v w : Nat}, v < 12 → w < 12 → Wd B t p v → v ≠ w → ¬ Wd B t p w := fun h1 h2 h3 h4 h5 => h4 (Wd_ne h1 h2 h3 h5)
  have nok : ∀ w, w < 4 → Wd B t p w → ∀ y, y < 6 → ¬ Wd B t p (nmk y) := fun w h1 h2 y _ => ne (by omega) nmk_lt h2 (by have := @nmk_ge y; omega)
  have lm : ((-1 : Int32) < 0) := by decide
  by_cases e0 : Wd B t p 0
  · refine IT.pre (fun s K => ?_) (fun s K => ?_) ((it_mast T hp1 ok).lo (g1 0 e0))
    · obtain ⟨s1, q1, q2, q3⟩ := C_wt T hp ok (by omega) K e0
      refine ⟨s1, q2, q3, ?_⟩
      unfold fX3_readItem
      rw [q1, bnd, if_neg n10]
    · obtain ⟨s1, q1, q2, q3⟩ := R_wt T hp (by omega) c_mast K e0
      refine ⟨s1, q2, q3, ?_⟩
      unfold fX6_wantItem
      rw [(R_kh T hp K).2 (nok 0 (by omega) e0), bnd, if_pos lm, q1, bnd, if_neg n10, bs]
  · by_cases e2 : Wd B t p 2
    · refine IT.pre (fun s K => ?_) (fun s K => ?_) ((it_wind T hp1 ok).lo (g1 2 e2))
      · obtain ⟨s1, q1, q2, q3⟩ := C_wt T hp ok (by omega) K e2
        refine ⟨s1, q2, q3, ?_⟩
        unfold fX3_readItem
        rw [C_wf T hp (by omega) K e0, bnd, if_pos rfl, q1, bnd, if_neg n10]
      · obtain ⟨s1, q1, q2, q3⟩ := R_wt T hp (by omega) c_wind K e2
        refine ⟨s1, q2, q3, ?_⟩
        unfold fX6_wantItem
        rw [(R_kh T hp K).2 (nok 2 (by omega) e2), bnd, if_pos lm, R_wf T hp (by omega) c_mast K e0, bnd, if_pos rfl, q1, bnd, if_neg n10, bs]
    · by_cases e3 : Wd B t p 3
      · refine IT.pre (fun s K => ?_) (fun s K => ?_) ((it_tease T hp1 ok).lo (g1 3 e3))
        · obtain ⟨s1, q1, q2, q3⟩ := C_wt T hp ok (by omega) K e3
          refine ⟨s1, q2, q3, ?_⟩
          unfold fX3_readItem
          rw [C_wf T hp (by omega) K e0, bnd, if_pos rfl, C_wf T hp (by omega) K e2, bnd, if_pos rfl, q1, bnd, if_neg n10]
        · obtain ⟨s1, q1, q2, q3⟩ := R_wt T hp (by omega) c_tease K e3
          refine ⟨s1, q2, q3, ?_⟩
          unfold fX6_wantItem f6T
          rw [(R_kh T hp K).2 (nok 3 (by omega) e3), bnd, if_pos lm, R_wf T hp (by omega) c_mast K e0, bnd, if_pos rfl, R_wf T hp (by omega) c_wind K e2, bnd, if_pos rfl, q1, bnd, if_neg n10]
      · by_cases ek : ∃ y, y < 6 ∧ Wd B t p (nmk y)
        · obtain ⟨y, hy, h⟩ := ek
          refine IT.pre (fun s K => ?_) (fun s K => ?_) (it_knot T hp ok hy h)
          · refine ⟨s, Fr.rf, K, ?_⟩
            unfold fX3_readItem
            rw [C_wf T hp (by omega) K e0, bnd, if_pos rfl, C_wf T hp (by omega) K e2, bnd, if_pos rfl, C_wf T hp (by omega) K e3, bnd, if_pos rfl]
          · refine ⟨s, FT.rf, K, ?_⟩
            unfold fX6_wantItem
            rw [(R_kh T hp K).1 y hy h, bnd, if_neg (nneg (by omega)), (R_kh T hp K).1 y hy h, bnd, bs]
        · have nk2 : ∀ y, y < 6 → ¬ Wd B t p (nmk y) := fun y h1 h2 => ek ⟨y, h1, h2⟩
          refine Or.inr ⟨p, hp, fun s K => ?_, fun s K => ?_⟩
          · refine ⟨s, ?_, Fr.rf, K.at⟩
            unfold fX3_readItem fX3_readKnot
            rw [C_wf T hp (by omega) K e0, bnd, if_pos rfl, C_wf T hp (by omega) K e2, bnd, if_pos rfl, C_wf T hp (by omega) K e3, bnd, if_pos rfl, (C_kt T hp K).2 nk2, bnd, if_pos lm, bnd, if_pos (Or.inl rfl)]
          · refine ⟨_, ?_, FT.g, Bf.g K⟩
            unfold fX6_wantItem
            rw [(R_kh T hp K).2 nk2, bnd, if_pos lm, R_wf T hp (by omega) c_mast K e0, bnd, if_pos rfl, R_wf T hp (by omega) c_wind K e2, bnd, if_pos rfl, R_wf T hp (by omega) c_tease K e3, bnd, if_pos rfl, bnd]
/-- the reference ahead of a token -/
def KN (B : Nat → Int) (t p : Nat) (a : kY) (s : kM) : Prop := trp s B t ∧ s.1 59 8 = iI (p : Int) ∧ RR (s.1 60) a ∧ s.1 59 11 = 1
/-- what comes of a text from p on, behind i - 1 items -/
def TX (B : Nat → Int) (t r p i : Nat) (a : kY) : Prop :=
  (∃ (a' : kY) (i' : Nat), Ok a' ∧ a' 0 0 = a 0 0 ∧ i' ≤ 1000 ∧ (∀ f s, r < f → KC B t p a s → ∃ s', fX3_readText_11 f (iI (i : Int)) s = some (iI (i' : Int), s') ∧ Fr fre s s' ∧ CY s' 16 a') ∧ ∀ f s, r + 1 < f → KN B t p a s → ∃ s', fX6_yard_23 f (iI ((i - 1 : Nat) : Int)) 1 s = fX6_yard_91 (iI (i' : Int)) 1 s' ∧ FT s s' ∧ RR (s'.1 60) a')
  ∨ ∃ p' : Nat, p' ≤ t ∧ (∀ f s, r < f → KC B t p a s → ∃ s', fX3_readText_11 f (iI (i : Int)) s = some ((-1 : Int32) - iI ((tq B t p' : Nat) : Int), s') ∧ Fr fre s s') ∧ ∀ f s, r + 1 < f → KN B t p a s → ∃ u s', fX6_yard_23 f (iI ((i - 1 : Nat) : Int)) 1 s = fX6_yard_91 u 0 s' ∧ FT s s' ∧ s'.1 59 7 = iI ((tq B t p' : Nat) : Int)
theorem text_s {B : Nat → Int} {t r p i : Nat} {a : kY} (T : TB B t) (hp : p ≤ t) (ok : Ok a) (hi : 1 ≤ i) (hip : 2 * (i - 1) ≤ p) (ih : ∀ (p2 i2 : Nat) (a2 : kY), p + 2 ≤ p2 → p2 ≤ t → Ok a2 → 1 ≤ i2 → 2 * (i2 - 1) ≤ p2 → ∃ r2, r2 + 1 ≤ r ∧ TX B t r2 p2 i2 a2) : TX B t r p i a := by
  have ht := T.1
  have h120 : ¬ ((120 : Int32) < iI (i : Int)) := by rw [iI_ofNat, iI_lt (by omega) (by omega) (by omega) (by omega)]; omega
  have ei : iI ((i - 1 : Nat) : Int) + 1 = iI (i : Int) := by rw [ix_1]; exact congrArg iI (by omega)
  have adv : ∀ s, KN B t p a s → ∃ s1, fX6_advance s = some s1 ∧ FT s s1 ∧ KR B t p a s1 := fun s K => by
    obtain ⟨φ, ω, q1, q2, q3⟩ := R_adv T K.1 hp K.2.1
    refine ⟨_, q1, FT.rs q3, ⟨?_, ?_⟩, ?_, ?_, ?_⟩
    · rw [rs_1, q3 5 (by omega)]; exact K.1.1
    · rw [rs_ne (by omega)]; exact K.1.2
    · rw [rs_1, rs_2]; exact q2
    · rw [rs_ne (by omega)]; exact K.2.2.1
    · rw [rs_1, q3 11 (by omega)]; exact K.2.2.2
  rcases item T hp ok with ⟨a', p', o1, o2, o3, o4, o5, o6⟩ | ⟨p', o1, o2, o3⟩
  · have hg := @tg_ts B t p'
    have hp'1 := (tok_ok T o4).2.2.1
    have hpr := (tok_ok T o4).2.2.2.1
    by_cases e0 : tsr B t p' = 0
    · refine Or.inl ⟨a', i, o1, o2, by omega, fun f s hf K => ?_, fun f s hf K => ?_⟩
      · obtain ⟨f, rfl⟩ : ∃ g, f = g + 1 := ⟨f - 1, by omega⟩
        obtain ⟨s1, q1, q2, q3⟩ := o5 s K
        refine ⟨s1, ?_, q2, q3.2.2⟩
        have hc : iI (tg B t p') = 0 := by rw [show tg B t p' = 0 by omega]; rfl
        rw [fX3_readText_11, if_neg h120, q1, bnd, if_neg n10, q3.2.1.2.1, if_pos hc]
      · obtain ⟨f, rfl⟩ : ∃ g, f = g + 1 + 1 := ⟨f - 2, by omega⟩
        obtain ⟨s1, q1, q2, q3⟩ := adv s K
        obtain ⟨s2, r1, r2, r3⟩ := o6 s1 q3
        refine ⟨s2, ?_, q2.tr r2, r3.2.2.1⟩
        have hc0 : iI (tsr B t p') = 0 := by rw [e0]; rfl
        have hc3 : ¬ (iI (tsr B t p') = 3) := by rw [e0]; decide
        rw [fX6_yard_23, if_neg n10, q1, bnd, r1, bnd, r3.2.2.2, if_neg n10, r3.2.1.1, if_neg hc3, ei, fX6_yard_23, if_pos rfl, r3.2.2.2, if_neg n10, r3.2.1.1, if_pos hc0]
    · have hpr' := hpr e0
      by_cases e3 : tsr B t p' = 3 ∧ B (tq B t p') = 59
      · obtain ⟨r2, hr2, X⟩ := ih (te B t p') (i + 1) a' (by omega) hp'1 o1 (by omega) (by omega)
        have hc0 : ¬ (iI (tg B t p') = 0) := by rw [show tg B t p' = 3 by omega]; decide
        have hc3 : iI (tg B t p') = 3 := by rw [show tg B t p' = 3 by omega]; rfl
        have hd3 : iI (tsr B t p') = 3 := by rw [e3.1]; rfl
        have hd59 : iI (B (tq B t p')) = 59 := by rw [e3.2]; rfl
        have cl : ∀ f s, r < f → KC B t p a s → ∃ s2, Fr fre s s2 ∧ KC B t (te B t p') a' s2 ∧ fX3_readText_11 f (iI (i : Int)) s = fX3_readText_11 (f - 1) (iI ((i + 1 : Nat) : Int)) s2 := fun f s hf K => by
          obtain ⟨f, rfl⟩ : ∃ g, f = g + 1 := ⟨f - 1, by omega⟩
          obtain ⟨s1, q1, q2, q3⟩ := o5 s K
          obtain ⟨φ, d1, d2, d3⟩ := C_tok T q3.1 hp'1 q3.2.1.1
          refine ⟨_, q2.tr Fr48, q3.k48 o1 d2, ?_⟩
          rw [fX3_readText_11, if_neg h120, q1, bnd, if_neg n10, q3.2.1.2.1, if_neg hc0, if_pos hc3, d1, bnd, ix_1, Nat.add_sub_cancel]
        have rf : ∀ f s, r + 1 < f → KN B t p a s → ∃ s2, FT s s2 ∧ KN B t (te B t p') a' s2 ∧ fX6_yard_23 f (iI ((i - 1 : Nat) : Int)) 1 s = fX6_yard_23 (f - 1) (iI ((i + 1 - 1 : Nat) : Int)) 1 s2 := fun f s hf K => by
          obtain ⟨f, rfl⟩ : ∃ g, f = g + 1 := ⟨f - 1, by omega⟩
          obtain ⟨s1, q1, q2, q3⟩ := adv s K
          obtain ⟨s2, r1, r2, r3⟩ := o6 s1 q3
          refine ⟨s2, q2.tr r2, ⟨r3.1, r3.2.1.2.2.1, r3.2.2.1, r3.2.2.2⟩, ?_⟩
          rw [fX6_yard_23, if_neg n10, q1, bnd, r1, bnd, r3.2.2.2, if_neg n10, r3.2.1.1, if_pos hd3, r3.2.1.2.2.2.2.2 e3.1, if_pos hd59, ei, Nat.add_sub_cancel, Nat.add_sub_cancel]
        rcases X with ⟨a2, i2, x1, x2, x3, x4, x5⟩ | ⟨p2, x1, x2, x3⟩
        · refine Or.inl ⟨a2, i2, x1, x2.trans o2, x3, fun f s hf K => ?_, fun f s hf K => ?_⟩
          · obtain ⟨s2, c1, c2, c3⟩ := cl f s hf K
            obtain ⟨s3, d1, d2, d3⟩ := x4 (f - 1) s2 (by omega) c2
            exact ⟨s3, by rw [c3, d1], c1.tr d2, d3⟩
          · obtain ⟨s2, c1, c2, c3⟩ := rf f s hf K
            obtain ⟨s3, d1, d2, d3⟩ := x5 (f - 1) s2 (by omega) c2
            exact ⟨s3, by rw [c3, d1], c1.tr d2, d3⟩
        · refine Or.inr ⟨p2, x1, fun f s hf K => ?_, fun f s hf K => ?_⟩
          · obtain ⟨s2, c1, c2, c3⟩ := cl f s hf K
            obtain ⟨s3, d1, d2⟩ := x2 (f - 1) s2 (by omega) c2
            exact ⟨s3, by rw [c3, d1], c1.tr d2⟩
          · obtain ⟨s2, c1, c2, c3⟩ := rf f s hf K
            obtain ⟨u, s3, d1, d2, d3⟩ := x3 (f - 1) s2 (by omega) c2
            exact ⟨u, s3, by rw [c3, d1], c1.tr d2, d3⟩
      · refine Or.inr ⟨p', o4, fun f s hf K => ?_, fun f s hf K => ?_⟩
        · obtain ⟨f, rfl⟩ : ∃ g, f = g + 1 := ⟨f - 1, by omega⟩
          obtain ⟨s1, q1, q2, q3⟩ := o5 s K
          refine ⟨s1, ?_, q2⟩
          have hc0 : ¬ (iI (tg B t p') = 0) := by rw [show (0 : Int32) = iI 0 from rfl, tg_eq (by omega)]; omega
          have hc3 : ¬ (iI (tg B t p') = 3) := by rw [show (3 : Int32) = iI 3 from rfl, tg_eq (by omega)]; omega
          rw [fX3_readText_11, if_neg h120, q1, bnd, if_neg n10, q3.2.1.2.1, if_neg hc0, if_neg hc3, q3.at]
        · obtain ⟨f, rfl⟩ : ∃ g, f = g + 1 + 1 := ⟨f - 2, by omega⟩
          obtain ⟨s1, q1, q2, q3⟩ := adv s K
          obtain ⟨s2, r1, r2, r3⟩ := o6 s1 q3
          refine ⟨iI (i : Int), s2, ?_, q2.tr r2, r3.2.1.2.1⟩
          have hc0 : ¬ (iI (tsr B t p') = 0) := by rw [show (0 : Int32) = iI 0 from rfl, tsr_eq (by omega)]; exact e0
          have fin : fX6_yard_23 (f + 1) (iI (i : Int)) 0 s2 = fX6_yard_91 (iI (i : Int)) 0 s2 := by
            rw [fX6_yard_23, if_pos rfl, r3.2.2.2, if_neg n10, r3.2.1.1, if_neg hc0]
            rfl
          rw [fX6_yard_23, if_neg n10, q1, bnd, r1, bnd, r3.2.2.2, if_neg n10, r3.2.1.1, ei]
          by_cases e4 : tsr B t p' = 3
          · have hd3 : iI (tsr B t p') = 3 := by rw [e4]; rfl
            have hr := T.rng (tq B t p')
            have hd59 : ¬ (iI (B (tq B t p')) = 59) := by rw [iI_ofNat, iI_eq (by omega) (by omega) (by omega) (by omega)]; omega
            rw [if_pos hd3, r3.2.1.2.2.2.2.2 e4, if_neg hd59, fin]
          · have hd3 : ¬ (iI (tsr B t p') = 3) := by rw [show (3 : Int32) = iI 3 from rfl, tsr_eq (by omega)]; exact e4
            rw [if_neg hd3, fin]
  · refine Or.inr ⟨p', o1, fun f s hf K => ?_, fun f s hf K => ?_⟩
    · obtain ⟨f, rfl⟩ : ∃ g, f = g + 1 := ⟨f - 1, by omega⟩
      obtain ⟨s1, q1, q2, q3⟩ := o2 s K
      refine ⟨s1, ?_, q2⟩
      rw [fX3_readText_11, if_neg h120, q1, bnd, if_pos rfl, q3]
    · obtain ⟨f, rfl⟩ : ∃ g, f = g + 1 + 1 := ⟨f - 2, by omega⟩
      obtain ⟨s1, q1, q2, q3⟩ := adv s K
      obtain ⟨s2, r1, r2, r3⟩ := o3 s1 q3
      refine ⟨iI (i : Int), s2, ?_, q2.tr r2, r3.2⟩
      rw [fX6_yard_23, if_neg n10, q1, bnd, r1, bnd, if_pos r3.1, ei, fX6_yard_23, if_pos rfl, if_pos r3.1]
      rfl
theorem text {B : Nat → Int} {t : Nat} (T : TB B t) : ∀ (r p i : Nat) (a : kY), t ≤ p + r → p ≤ t → Ok a → 1 ≤ i → 2 * (i - 1) ≤ p → TX B t r p i a
  | 0, p, i, a, h1, hp, ok, hi, hip => text_s T hp ok hi hip (fun p2 _ _ h2 h3 _ _ _ => absurd h3 (by omega))
  | r + 1, p, i, a, h1, hp, ok, hi, hip => text_s T hp ok hi hip (fun p2 i2 a2 h2 h3 ok2 h4 h5 => ⟨r, Nat.le_refl _, text T r p2 i2 a2 (by omega) h3 ok2 h4 h5⟩)
theorem RW.ft {s s' : kM} {a a' b : kY} {x : uX} {l : uL} (R : RW s a b x l) (f : FT s s') (h : RR (s'.1 60) a') : RW s' a' b x l := by
  obtain ⟨c1, c2, c3, c4, c5, c6, c7⟩ := R
  refine ⟨h, fun e => ?_, ?_, ?_, ?_, ?_, ?_⟩
  · rw [f.1 _ (by omega) (by omega)]; exact c2 e
  · rw [f.2.2.2]; exact c3
  · rw [f.2.2.1]; exact c4
  · rw [f.1 _ (by omega) (by omega)]; exact c5
  · rw [f.1 _ (by omega) (by omega), f.1 _ (by omega) (by omega), f.2.1 _ (by omega)]; exact c6
  · rw [f.1 _ (by omega) (by omega)]; exact c7
theorem Lo.ft {s s' : kM} (f : FT s s') : Lo s s' := fun c hc => ⟨f.1 c (by omega) (by omega), f.2.1 c (by omega)⟩
theorem FT.e8 {s : kM} {v : Int32} : FT s (kwr s 59 8 v) := ⟨fun _ h1 _ => kwr_ne _ _ _ h1, fun _ _ => rfl, by rw [kwr_same, up_ne _ _ (by omega)], by rw [kwr_same, up_ne _ _ (by omega)]⟩
/-- the tape's bytes -/
def tb (x : uX) (t k : Nat) : Int := if k < t then (x 2 k).toInt else -1
theorem st_yard : sp_yard Iv := by
  intro st hI
  obtain ⟨a, b, x, l, w, C, R⟩ := hI
  have ok := w.1.1
  have hb := w.1.2
  obtain ⟨t, ht, hx⟩ := w.2.2.1
  have hB : ∀ j, j < t → x 2 j = iI (tb x t j) := fun j hj => by unfold tb; rw [if_pos hj, iI_toInt]
  have T : TB (tb x t) t := by
    refine ⟨ht, fun k hk => ?_, fun k hk => by unfold tb; rw [if_neg (by omega)]⟩
    obtain ⟨z, z1, z2⟩ := w.2.2.2.1 k (by omega)
    unfold tb
    rw [if_pos hk, z2, iI_T (by omega) (by omega)]
    omega
  -- the class's beginning
  obtain ⟨s1, q1, q2, q3⟩ := C_trial w C
  have C1 := C.fr w q2
  have tc1 : tcp s1 (tb x t) t := ⟨by rw [C1.2.2.2.1]; exact hx, fun j hj => by rw [C1.2.2.2.2.1 j (by omega)]; exact hB j hj⟩
  obtain ⟨φ, d1, d2, d3⟩ := C_tok' (s := s1) (φ0 := va_up (s1.1 48) 2 0) T tc1 (Nat.zero_le t) (by rw [up_eq]; rfl)
  have K1 : KC (tb x t) t 0 a (kset s1 48 φ) := ⟨tc1.k48, by rw [kset_same]; exact d2, q3.cong ok (fun b hb => kset_ne _ _ (by omega))⟩
  have f1 : Fr fre st (kset s1 48 φ) := q2.tr Fr48
  have ce : fX5_yard st = (fX3_readText_11 kfu 1 (kset s1 48 φ)).bind fun q3 => ((some (kwr q3.2 46 1 (0 : Int32))).bind fun s5 => (if q3.1 < 0 then (some (q3.1, s5)) else ((fX4_become 1 16 s5).bind fun s8 => (some (q3.1, s8))))) := by
    unfold fX5_yard fX3_readText
    rw [q1, bnd, bnd, kwr, d1, bnd]
  -- the reference's
  have re : ∀ s, RW s a b x l → ∃ s5, fX6_yard s = fX6_yard_23 kfu 0 1 s5 ∧ KN (tb x t) t 0 a s5 ∧ RW s5 a b x l ∧ Lo s s5 ∧ RR (s5.1 70) a := fun s hs => by
    obtain ⟨ψ, o1, o2⟩ := R_move1 (st := s) (c := 70) (by omega)
    have R1 : RW (kset s 70 ψ) a b x l := hs.buf (by omega)
    have ft : FT (kset s 70 ψ) (kwr (kwr (kset s 70 ψ) 59 8 0) 59 11 1) := FT.e8.tr FT.g
    have r60 : (kwr (kwr (kset s 70 ψ) 59 8 0) 59 11 1).1 60 = (kset s 70 ψ).1 60 := by rw [kwr_ne _ _ _ (by omega), kwr_ne _ _ _ (by omega)]
    have R2 : RW (kwr (kwr (kset s 70 ψ) 59 8 0) 59 11 1) a b x l := R1.ft ft (by rw [r60]; exact R1.1)
    refine ⟨_, ?_, ⟨⟨?_, fun j hj => ?_⟩, ?_, R2.1, ?_⟩, R2, (Lo.set (by omega)).tr (Lo.ft ft), ?_⟩
    · unfold fX6_yard
      rw [o1, bnd, bnd, bnd]
    · rw [R2.2.2.2.1]; exact hx
    · rw [R2.2.2.2.2.1 j (by omega)]; exact hB j hj
    · rw [kwr_same, up_ne _ _ (by omega), kwr_same, up_eq]; rfl
    · rw [kwr_same, up_eq]
    · rw [kwr_ne _ _ _ (by omega), kwr_ne _ _ _ (by omega), kset_same]; exact RR.row hs.1 ok o2
  have wl := Wok_len (t := 0) w (by omega)
  rw [iI_n0] at wl
  rcases text T t 0 1 a (by omega) (by omega) ok (by omega) (by omega) with ⟨a', i', x1, x2, x3, x4, x5⟩ | ⟨p', x1, x2, x3⟩
  · refine join (a' := a') (b' := b) (x' := xu x 1 0 0) (l' := l) (iI (i' : Int)) R (Wok_a wl x1 (by rw [x2]; exact hb)) ?_ (fun s hs => ?_)
    · obtain ⟨s3, e1, e2, e3⟩ := x4 kfu _ (by unfold kfu; omega) K1
      have e1' : fX3_readText_11 kfu 1 (kset s1 48 φ) = some (iI (i' : Int), s3) := e1
      have C5 : CW (kwr s3 46 1 0) a b (xu x 1 0 0) l := (C.fr w (f1.tr e2)).len w
      have y5 : CY (kwr s3 46 1 0) 16 a' := e3.cong x1 (fun b hb => kwr_ne _ _ _ (by omega))
      obtain ⟨s8, g1, g2, g3⟩ := S_become (c := 1) y5 x1 (by omega)
      refine ⟨s8, ?_, C5.yard wl g2 g3, ((Hi_fre (f1.tr e2)).tr (Hi.wr (by omega))).tr (Hi.fr g2 (fun c hc => by unfold yc at hc; omega))⟩
      rw [ce, e1', bnd, bnd, if_neg (nneg x3), g1, bnd]
    · obtain ⟨s5, r1, r2, r3, r4, r5⟩ := re s hs
      obtain ⟨s6, e1, e2, e3⟩ := x5 kfu s5 (by unfold kfu; omega) r2
      have e1' : fX6_yard_23 kfu 0 1 s5 = fX6_yard_91 (iI (i' : Int)) 1 s6 := e1
      have R6 : RW s6 a' b x l := r3.ft e2 e3
      have R7 : RW (kwr s6 59 11 1) a' b x l := R6.ft FT.g (by rw [kwr_ne _ _ _ (by omega)]; exact e3)
      refine ⟨kwr (kwr s6 59 11 1) 59 5 0, ?_, R7.len, ((r4.tr (Lo.ft e2)).tr (Lo.ft FT.g)).tr (Lo.wr (by omega))⟩
      rw [r1, e1']
      unfold fX6_yard_91
      rw [if_pos (Or.inr rfl), bnd, bnd, kwr_same, up_ne _ _ (by omega), kwr_same, up_eq, if_neg n10]
  · have hq := (tok_ok T x1).2.1
    have ev : (-1 : Int32) - iI ((tq (tb x t) t p' : Nat) : Int) = iI (-1 - (tq (tb x t) t p' : Nat)) := by rw [m1, iI_sub]
    have hneg : (-1 : Int32) - iI ((tq (tb x t) t p' : Nat) : Int) < 0 := by rw [ev, iI_ofNat, iI_lt (by omega) (by omega) (by omega) (by omega)]; omega
    refine join (a' := a) (b' := b) (x' := xu x 1 0 0) (l' := l) ((-1 : Int32) - iI ((tq (tb x t) t p' : Nat) : Int)) R wl ?_ (fun s hs => ?_)
    · obtain ⟨s3, e1, e2⟩ := x2 kfu _ (by unfold kfu; omega) K1
      have e1' : fX3_readText_11 kfu 1 (kset s1 48 φ) = some ((-1 : Int32) - iI ((tq (tb x t) t p' : Nat) : Int), s3) := e1
      refine ⟨kwr s3 46 1 0, ?_, (C.fr w (f1.tr e2)).len w, (Hi_fre (f1.tr e2)).tr (Hi.wr (by omega))⟩
      rw [ce, e1', bnd, bnd, if_pos hneg]
    · obtain ⟨s5, r1, r2, r3, r4, r5⟩ := re s hs
      obtain ⟨u, s6, e1, e2, e3⟩ := x3 kfu s5 (by unfold kfu; omega) r2
      have e1' : fX6_yard_23 kfu 0 1 s5 = fX6_yard_91 u 0 s6 := e1
      obtain ⟨ρ, m1', m2⟩ := R_move0 (st := kwr (kwr s6 59 11 0) 59 5 0) (c := 70) (ρ := (kwr (kwr s6 59 11 0) 59 5 0).1 60) (by omega)
      rw [kset_self] at m1'
      have e70 : (kwr (kwr s6 59 11 0) 59 5 0).1 70 = s5.1 70 := by rw [kwr_ne _ _ _ (by omega), kwr_ne _ _ _ (by omega), e2.1 _ (by omega) (by omega)]
      rw [e70] at m2
      have hR : RR ρ a := RR.row r5 ok m2
      have R6 : RW (kset s6 60 ρ) a b x l := r3.ft (e2.tr FT.row) (by rw [kset_same]; exact hR)
      have R7 : RW (kwr (kset s6 60 ρ) 59 11 0) a b x l := R6.ft FT.g (by rw [kwr_ne _ _ _ (by omega), kset_same]; exact hR)
      have R8 : RW (kwr (kwr (kset s6 60 ρ) 59 11 0) 59 5 0) a b (xu x 1 0 0) l := R7.len
      have R9 := R8.row hR
      have es : kset (kwr (kwr (kset s6 60 ρ) 59 11 0) 59 5 0) 60 ρ = kset (kwr (kwr s6 59 11 0) 59 5 0) 60 ρ := by
        refine Prod.ext (funext fun c => ?_) rfl
        by_cases h60 : c = 60
        · subst h60; rw [kset_same, kset_same]
        · rw [kset_ne _ _ h60, kset_ne _ _ h60]
          by_cases h59 : c = 59
          · subst h59; rw [kwr_same, kwr_same, kwr_same, kwr_same, kset_ne _ _ (by omega)]
          · rw [kwr_ne _ _ _ h59, kwr_ne _ _ _ h59, kwr_ne _ _ _ h59, kwr_ne _ _ _ h59, kset_ne _ _ h60]
      rw [es] at R9
      refine ⟨_, ?_, R9, (((r4.tr (Lo.ft e2)).tr (Lo.ft FT.g)).tr (Lo.wr (by omega))).tr (Lo.set (by omega))⟩
      rw [r1, e1']
      unfold fX6_yard_91
      rw [if_pos (Or.inl rfl), bnd, bnd]
      simp only [kwr_same, up_ne _ _ (show 11 ≠ 5 by omega), up_eq, i00, itT, m1', bnd]
      rw [kset_ne _ _ (by omega), kwr_same, up_ne _ _ (by omega), kwr_same, up_ne _ _ (by omega), e3]
