/-! both worlds -/
abbrev uX : Type := Nat → Nat → Int32
abbrev uL : Type := Nat → Nat → Int64
/-- x: 0 0: kept; 1 0: how long the tape is; 2: its bytes; 3: bits, 4: size of each sheet; 5: told. l: the sheets' numbers -/
def CW (st : kM) (a b : kY) (x : uX) (l : uL) : Prop := CY st 1 a ∧ (x 0 0 = 1 → CY st 31 b) ∧ st.1 0 3 = x 0 0 ∧ st.1 46 1 = x 1 0 ∧ (∀ j, j < 120 → st.1 47 j = x 2 j) ∧ (∀ s, s < 4 → st.1 (51 + 2 * s) 0 = x 3 s ∧ st.1 (51 + 2 * s) 1 = x 4 s ∧ ∀ j, j < 40 → st.2 (51 + 2 * s + 1) j = l s j) ∧ ∀ i, i < 7 → st.1 50 i = x 5 i
def RW (st : kM) (a b : kY) (x : uX) (l : uL) : Prop := RR (st.1 60) a ∧ (x 0 0 = 1 → RR (st.1 69) b) ∧ st.1 59 18 = x 0 0 ∧ st.1 59 5 = x 1 0 ∧ (∀ j, j < 120 → st.1 64 j = x 2 j) ∧ (∀ s, s < 4 → st.1 65 s = x 3 s ∧ st.1 66 s = x 4 s ∧ ∀ j, j < 40 → st.2 67 (40 * s + j) = l s j) ∧ ∀ i, i < 7 → st.1 61 i = x 5 i
def Wok (a b : kY) (x : uX) : Prop := (Ok a ∧ a 0 0 ≤ 99999) ∧ (x 0 0 = 0 ∨ (x 0 0 = 1 ∧ Ok b ∧ b 0 0 ≤ 99999)) ∧ (∃ t : Nat, t ≤ 120 ∧ x 1 0 = iI t) ∧ (∀ j, j < 120 → ∃ z : Nat, z ≤ 255 ∧ x 2 j = iI z) ∧ ∀ s, s < 4 → (x 3 s = 0 ∨ x 3 s = 8 ∨ x 3 s = 16 ∨ x 3 s = 64) ∧ ∃ n : Nat, n ≤ 40 ∧ x 4 s = iI n
def Iv (st : kM) : Prop := ∃ (a b : kY) (x : uX) (l : uL), Wok a b x ∧ CW st a b x l ∧ RW st a b x l
/-- the class is as it was -/
def Lo (st st' : kM) : Prop := ∀ c, c < 59 → st'.1 c = st.1 c ∧ st'.2 c = st.2 c
/-- the reference is as it was -/
def Hi (st st' : kM) : Prop := ∀ c, 59 ≤ c → st'.1 c = st.1 c ∧ st'.2 c = st.2 c
theorem Lo.rf {st : kM} : Lo st st := fun _ _ => ⟨rfl, rfl⟩
theorem Hi.rf {st : kM} : Hi st st := fun _ _ => ⟨rfl, rfl⟩
theorem Lo.tr {s1 s2 s3 : kM} (h1 : Lo s1 s2) (h2 : Lo s2 s3) : Lo s1 s3 := fun c hc => ⟨(h2 c hc).1.trans (h1 c hc).1, (h2 c hc).2.trans (h1 c hc).2⟩
theorem Hi.tr {s1 s2 s3 : kM} (h1 : Hi s1 s2) (h2 : Hi s2 s3) : Hi s1 s3 := fun c hc => ⟨(h2 c hc).1.trans (h1 c hc).1, (h2 c hc).2.trans (h1 c hc).2⟩
theorem Lo.set {st : kM} {c : Nat} {f : Nat → Int32} (h : 59 ≤ c) : Lo st (kset st c f) := fun _ hb => ⟨kset_ne _ _ (by omega), rfl⟩
theorem Lo.wr {st : kM} {c j : Nat} {v : Int32} (h : 59 ≤ c) : Lo st (kwr st c j v) := Lo.set h
theorem Hi.wr {st : kM} {c j : Nat} {v : Int32} (h : c < 59) : Hi st (kwr st c j v) := fun _ hb => ⟨kwr_ne _ _ _ (by omega), rfl⟩
theorem Hi.fr {P : Nat → Prop} {st st' : kM} (h : Fr P st st') (hP : ∀ c, P c → c < 59) : Hi st st' := fun c hc => ⟨h.2 c (fun q => by have := hP c q; omega), by rw [h.1]⟩
theorem CW.cong {st st' : kM} {a b : kY} {x : uX} {l : uL} (w : Wok a b x) (h : CW st a b x l) (hl : Lo st st') : CW st' a b x l := by
  obtain ⟨c1, c2, c3, c4, c5, c6, c7⟩ := h
  refine ⟨c1.cong w.1.1 (fun b hb => (hl b (by omega)).1), fun e => ?_, by rw [(hl 0 (by omega)).1]; exact c3, by rw [(hl 46 (by omega)).1]; exact c4, by rw [(hl 47 (by omega)).1]; exact c5, fun s hs => ?_, by rw [(hl 50 (by omega)).1]; exact c7⟩
  · have ok : Ok b := by
      rcases w.2.1 with q | q
      · rw [q] at e; exact absurd e (by decide)
      · exact q.2.1
    exact (c2 e).cong ok (fun b hb => (hl b (by omega)).1)
  · rw [(hl _ (show 51 + 2 * s < 59 by omega)).1, (hl _ (show 51 + 2 * s + 1 < 59 by omega)).2]; exact c6 s hs
theorem RW.cong {st st' : kM} {a b : kY} {x : uX} {l : uL} (h : RW st a b x l) (hl : Hi st st') : RW st' a b x l := by
  unfold RW
  rw [(hl 60 (by omega)).1, (hl 69 (by omega)).1, (hl 59 (by omega)).1, (hl 64 (by omega)).1, (hl 65 (by omega)).1, (hl 66 (by omega)).1, (hl 61 (by omega)).1, (hl 67 (by omega)).2]
  exact h
/-- the class answers v and its world is this -/
def SC {α : Type} (r : Option (α × kM)) (st : kM) (v : α) (a b : kY) (x : uX) (l : uL) : Prop := ∃ s, r = some (v, s) ∧ CW s a b x l ∧ Hi st s
def SR {α : Type} (r : Option (α × kM)) (st : kM) (v : α) (a b : kY) (x : uX) (l : uL) : Prop := ∃ s, r = some (v, s) ∧ RW s a b x l ∧ Lo st s
theorem join {α : Type} {st : kM} {r1 : Option (α × kM)} {f6 : kM → Option (α × kM)} (v : α) {a b : kY} {x : uX} {l : uL} {a' b' : kY} {x' : uX} {l' : uL} (R : RW st a b x l) (w' : Wok a' b' x') (h1 : SC r1 st v a' b' x' l') (h2 : ∀ s, RW s a b x l → SR (f6 s) s v a' b' x' l') : ∃ q1 q2 : α × kM, r1 = some q1 ∧ f6 q1.2 = some q2 ∧ q1.1 = q2.1 ∧ Iv q2.2 := by
  obtain ⟨s1, e1, c1, i1⟩ := h1
  obtain ⟨s2, e2, c2, i2⟩ := h2 s1 (R.cong i1)
  exact ⟨(v, s1), (v, s2), e1, e2, rfl, a', b', x', l', w', c1.cong w' i2, c2⟩
theorem bnd {α β : Type} (a : α) (f : α → Option β) : (some a).bind f = f a := by rw [Option.bind_some]
theorem itT {α : Type} (a b : α) : (if True then a else b) = a := if_pos trivial
theorem itF {α : Type} (a b : α) : (if False then a else b) = b := if_neg id
theorem bet {α β : Type} (o : Option (α × β)) : (o.bind fun q => some (q.1, q.2)) = o := by cases o <;> rfl
theorem i00 : ((0 : Int32) = 0) = True := eq_self 0
theorem i11 : ((1 : Int32) = 1) = True := eq_self 1
theorem i10 : ((1 : Int32) = 0) = False := by decide
theorem i01 : ((0 : Int32) = 1) = False := by decide
-- told
def xt (x : uX) (i : Nat) : uX := fun p q => if p = 5 ∧ q = i then x 5 i + 1 else x p q
theorem xt_ne {x : uX} {i p q : Nat} (h : p ≠ 5) : xt x i p q = x p q := by unfold xt; rw [if_neg (by omega)]
theorem xt_ro {x : uX} {i p : Nat} (h : p ≠ 5) : xt x i p = x p := by funext q; exact xt_ne h
theorem Wok_xt {a b : kY} {x : uX} {i : Nat} (w : Wok a b x) : Wok a b (xt x i) := by
  unfold Wok
  rw [xt_ro (by omega), xt_ro (by omega), xt_ro (by omega), xt_ro (by omega), xt_ro (by omega)]
  exact w
theorem C_tell {st : kM} {a b : kY} {x : uX} {l : uL} (w : Wok a b x) (i : Nat) {e : Int32} (hi : i < 7) (he : (-1000000001 : Int32) - e = iI i) (C : CW st a b x l) : SC (fX5_tell e st) st e a b (xt x i) l := by
  unfold fX5_tell fX5_isWithin
  rw [he, Option.bind_some]
  simp (disch := omega) only [iI_ofNat, iI_add, iI_sub, iI_mul, iI_neg, iI_lt, iI_le, iI_eq, iI_cl, Int.toNat_natCast, ge_iff_le]
  rw [if_neg (show ¬ (i : Int) < 0 by omega), if_neg (show ¬ (6 : Int) < i by omega), Option.bind_some, if_neg (show ¬ (iI 1 : Int32) = iI 0 by decide), if_neg (by omega), Option.bind_some]
  refine ⟨_, rfl, ?_, Hi.wr (by omega)⟩
  obtain ⟨c1, c2, c3, c4, c5, c6, c7⟩ := C
  have ne : ∀ c, c ≠ 50 → (kwr st 50 i (st.1 50 i + iI 1)).1 c = st.1 c := fun c hc => kwr_ne _ _ _ hc
  refine ⟨c1.cong w.1.1 (fun b hb => ne b (by omega)), fun e => ?_, ?_, ?_, ?_, fun s hs => ?_, fun j hj => ?_⟩
  · have ok : Ok b := by
      rcases w.2.1 with q | q
      · rw [xt_ne (by omega), q] at e; exact absurd e (by decide)
      · exact q.2.1
    rw [xt_ne (by omega)] at e
    exact (c2 e).cong ok (fun b hb => ne b (by omega))
  · rw [ne _ (by omega), xt_ne (by omega)]; exact c3
  · rw [ne _ (by omega), xt_ne (by omega)]; exact c4
  · intro j hj; rw [ne _ (by omega), xt_ne (by omega)]; exact c5 j hj
  · rw [ne _ (by omega), xt_ne (by omega), xt_ne (by omega)]; exact c6 s hs
  · rw [kwr_same]
    by_cases e : j = i
    · subst e; rw [up_eq, c7 j hj]; unfold xt; rw [if_pos ⟨rfl, rfl⟩]; rfl
    · rw [up_ne _ _ e, c7 j hj]; unfold xt; rw [if_neg (by omega)]
theorem R_finds {st : kM} {a b : kY} {x : uX} {l : uL} (i : Nat) {e : Int32} (hi : i < 7) (he : (-1000000001 : Int32) - e = iI i) (R : RW st a b x l) : SR (fX6_finds e st) st e a b (xt x i) l := by
  unfold fX6_finds
  rw [he]
  simp (disch := omega) only [iI_ofNat, iI_add, iI_sub, iI_mul, iI_neg, iI_lt, iI_le, iI_eq, iI_cl, Int.toNat_natCast]
  rw [if_neg (by omega), Option.bind_some]
  refine ⟨_, rfl, ?_, Lo.wr (by omega)⟩
  obtain ⟨c1, c2, c3, c4, c5, c6, c7⟩ := R
  have ne : ∀ c, c ≠ 61 → (kwr st 61 i (st.1 61 i + iI 1)).1 c = st.1 c := fun c hc => kwr_ne _ _ _ hc
  refine ⟨by rw [ne _ (by omega)]; exact c1, fun e => ?_, ?_, ?_, ?_, fun s hs => ?_, fun j hj => ?_⟩
  · rw [xt_ne (by omega)] at e
    rw [ne _ (by omega)]; exact c2 e
  · rw [ne _ (by omega), xt_ne (by omega)]; exact c3
  · rw [ne _ (by omega), xt_ne (by omega)]; exact c4
  · intro j hj; rw [ne _ (by omega), xt_ne (by omega)]; exact c5 j hj
  · rw [ne _ (by omega), ne _ (by omega), xt_ne (by omega), xt_ne (by omega)]; exact c6 s hs
  · rw [kwr_same]
    by_cases e : j = i
    · subst e; rw [up_eq, c7 j hj]; unfold xt; rw [if_pos ⟨rfl, rfl⟩]; rfl
    · rw [up_ne _ _ e, c7 j hj]; unfold xt; rw [if_neg (by omega)]
/-- both tell the same -/
theorem tl {st : kM} {r1 : Option (Int32 × kM)} {f6 : kM → Option (Int32 × kM)} {a b : kY} {x : uX} {l : uL} (i : Nat) (e : Int32) (hi : i < 7) (he : (-1000000001 : Int32) - e = iI i) (w : Wok a b x) (C : CW st a b x l) (R : RW st a b x l) (h1 : r1 = fX5_tell e st) (h2 : ∀ s, RW s a b x l → f6 s = fX6_finds e s) : ∃ q1 q2 : Int32 × kM, r1 = some q1 ∧ f6 q1.2 = some q2 ∧ q1.1 = q2.1 ∧ Iv q2.2 :=
  join e R (Wok_xt w) (by rw [h1]; exact C_tell w i hi he C) (fun s hs => by rw [h2 s hs]; exact R_finds i hi he hs)
theorem tl1 {st : kM} {r1 : Option (Int32 × kM)} {f6 : kM → Option (Int32 × kM)} {a b : kY} {x : uX} {l : uL} (w : Wok a b x) (C : CW st a b x l) (R : RW st a b x l) (h1 : r1 = fX5_tell (-1000000001) st) (h2 : ∀ s, RW s a b x l → f6 s = fX6_finds (-1000000001) s) : ∃ q1 q2 : Int32 × kM, r1 = some q1 ∧ f6 q1.2 = some q2 ∧ q1.1 = q2.1 ∧ Iv q2.2 := tl 0 _ (by omega) (by decide) w C R h1 h2
theorem tl2 {st : kM} {r1 : Option (Int32 × kM)} {f6 : kM → Option (Int32 × kM)} {a b : kY} {x : uX} {l : uL} (w : Wok a b x) (C : CW st a b x l) (R : RW st a b x l) (h1 : r1 = fX5_tell (-1000000002) st) (h2 : ∀ s, RW s a b x l → f6 s = fX6_finds (-1000000002) s) : ∃ q1 q2 : Int32 × kM, r1 = some q1 ∧ f6 q1.2 = some q2 ∧ q1.1 = q2.1 ∧ Iv q2.2 := tl 1 _ (by omega) (by decide) w C R h1 h2
theorem tl3 {st : kM} {r1 : Option (Int32 × kM)} {f6 : kM → Option (Int32 × kM)} {a b : kY} {x : uX} {l : uL} (w : Wok a b x) (C : CW st a b x l) (R : RW st a b x l) (h1 : r1 = fX5_tell (-1000000003) st) (h2 : ∀ s, RW s a b x l → f6 s = fX6_finds (-1000000003) s) : ∃ q1 q2 : Int32 × kM, r1 = some q1 ∧ f6 q1.2 = some q2 ∧ q1.1 = q2.1 ∧ Iv q2.2 := tl 2 _ (by omega) (by decide) w C R h1 h2
theorem tl4 {st : kM} {r1 : Option (Int32 × kM)} {f6 : kM → Option (Int32 × kM)} {a b : kY} {x : uX} {l : uL} (w : Wok a b x) (C : CW st a b x l) (R : RW st a b x l) (h1 : r1 = fX5_tell (-1000000004) st) (h2 : ∀ s, RW s a b x l → f6 s = fX6_finds (-1000000004) s) : ∃ q1 q2 : Int32 × kM, r1 = some q1 ∧ f6 q1.2 = some q2 ∧ q1.1 = q2.1 ∧ Iv q2.2 := tl 3 _ (by omega) (by decide) w C R h1 h2
theorem tl5 {st : kM} {r1 : Option (Int32 × kM)} {f6 : kM → Option (Int32 × kM)} {a b : kY} {x : uX} {l : uL} (w : Wok a b x) (C : CW st a b x l) (R : RW st a b x l) (h1 : r1 = fX5_tell (-1000000005) st) (h2 : ∀ s, RW s a b x l → f6 s = fX6_finds (-1000000005) s) : ∃ q1 q2 : Int32 × kM, r1 = some q1 ∧ f6 q1.2 = some q2 ∧ q1.1 = q2.1 ∧ Iv q2.2 := tl 4 _ (by omega) (by decide) w C R h1 h2
theorem tl6 {st : kM} {r1 : Option (Int32 × kM)} {f6 : kM → Option (Int32 × kM)} {a b : kY} {x : uX} {l : uL} (w : Wok a b x) (C : CW st a b x l) (R : RW st a b x l) (h1 : r1 = fX5_tell (-1000000006) st) (h2 : ∀ s, RW s a b x l → f6 s = fX6_finds (-1000000006) s) : ∃ q1 q2 : Int32 × kM, r1 = some q1 ∧ f6 q1.2 = some q2 ∧ q1.1 = q2.1 ∧ Iv q2.2 := tl 5 _ (by omega) (by decide) w C R h1 h2
theorem tl7 {st : kM} {r1 : Option (Int32 × kM)} {f6 : kM → Option (Int32 × kM)} {a b : kY} {x : uX} {l : uL} (w : Wok a b x) (C : CW st a b x l) (R : RW st a b x l) (h1 : r1 = fX5_tell (-1000000007) st) (h2 : ∀ s, RW s a b x l → f6 s = fX6_finds (-1000000007) s) : ∃ q1 q2 : Int32 × kM, r1 = some q1 ∧ f6 q1.2 = some q2 ∧ q1.1 = q2.1 ∧ Iv q2.2 := tl 6 _ (by omega) (by decide) w C R h1 h2
-- nothing changes but what is free
def fre (c : Nat) : Prop := c = 5 ∨ (16 ≤ c ∧ c < 31) ∨ c = 48
theorem CW.fr {st st' : kM} {a b : kY} {x : uX} {l : uL} (w : Wok a b x) (h : CW st a b x l) (f : Fr fre st st') : CW st' a b x l := by
  obtain ⟨c1, c2, c3, c4, c5, c6, c7⟩ := h
  have ne : ∀ c, ¬ fre c → st'.1 c = st.1 c := f.2
  unfold fre at ne
  refine ⟨c1.cong w.1.1 (fun b hb => ne b (by omega)), fun e => ?_, by rw [ne 0 (by omega)]; exact c3, by rw [ne 46 (by omega)]; exact c4, by rw [ne 47 (by omega)]; exact c5, fun s hs => ?_, by rw [ne 50 (by omega)]; exact c7⟩
  · have ok : Ok b := by
      rcases w.2.1 with q | q
      · rw [q] at e; exact absurd e (by decide)
      · exact q.2.1
    exact (c2 e).cong ok (fun b hb => ne b (by omega))
  · rw [ne _ (show ¬ _ by omega), f.1]; exact c6 s hs
theorem Hi_fre {st st' : kM} (f : Fr fre st st') : Hi st st' := Hi.fr f (fun c hc => by unfold fre at hc; omega)
theorem SC.same {α : Type} {r : Option (α × kM)} {st : kM} {v : α} {a b : kY} {x : uX} {l : uL} (w : Wok a b x) (C : CW st a b x l) (h : ∃ s, r = some (v, s) ∧ Fr fre st s) : SC r st v a b x l := by
  obtain ⟨s, e, f⟩ := h
  exact ⟨s, e, C.fr w f, Hi_fre f⟩
theorem SC.rf {α : Type} {r : Option (α × kM)} {st : kM} {v : α} {a b : kY} {x : uX} {l : uL} (C : CW st a b x l) (h : r = some (v, st)) : SC r st v a b x l := ⟨st, h, C, Hi.rf⟩
theorem SR.rf {α : Type} {r : Option (α × kM)} {st : kM} {v : α} {a b : kY} {x : uX} {l : uL} (R : RW st a b x l) (h : r = some (v, st)) : SR r st v a b x l := ⟨st, h, R, Lo.rf⟩
/-- the present yard anew -/
theorem CW.yard {st st' : kM} {a a' b : kY} {x : uX} {l : uL} (w : Wok a b x) (h : CW st a b x l) (f : Fr (yc 1) st st') (hc : CY st' 1 a') : CW st' a' b x l := by
  obtain ⟨c1, c2, c3, c4, c5, c6, c7⟩ := h
  have ne : ∀ c, ¬ yc 1 c → st'.1 c = st.1 c := f.2
  unfold yc at ne
  refine ⟨hc, fun e => ?_, by rw [ne 0 (by omega)]; exact c3, by rw [ne 46 (by omega)]; exact c4, by rw [ne 47 (by omega)]; exact c5, fun s hs => ?_, by rw [ne 50 (by omega)]; exact c7⟩
  · have ok : Ok b := by
      rcases w.2.1 with q | q
      · rw [q] at e; exact absurd e (by decide)
      · exact q.2.1
    exact (c2 e).cong ok (fun b hb => ne b (by omega))
  · rw [ne _ (show ¬ _ by omega), f.1]; exact c6 s hs
theorem SC.yard {α : Type} {r : Option (α × kM)} {st : kM} {v : α} {a a' b : kY} {x : uX} {l : uL} (w : Wok a b x) (C : CW st a b x l) (h : ∃ s, r = some (v, s) ∧ Fr (yc 1) st s ∧ CY s 1 a') : SC r st v a' b x l := by
  obtain ⟨s, e, f, c⟩ := h
  exact ⟨s, e, C.yard w f c, Hi.fr f (fun c hc => by unfold yc at hc; omega)⟩
theorem RW.row {st : kM} {a a' b : kY} {x : uX} {l : uL} {ρ : Nat → Int32} (h : RW st a b x l) (hr : RR ρ a') : RW (kset st 60 ρ) a' b x l := by
  unfold RW
  rw [kset_same, kset_ne _ _ (by omega), kset_ne _ _ (by omega), kset_ne _ _ (by omega), kset_ne _ _ (by omega), kset_ne _ _ (by omega), kset_ne _ _ (by omega), kset_2]
  exact ⟨hr, h.2⟩
theorem SR.row {α : Type} {r : Option (α × kM)} {st : kM} {v : α} {a a' b : kY} {x : uX} {l : uL} (R : RW st a b x l) (h : ∃ ρ, r = some (v, kset st 60 ρ) ∧ RR ρ a') : SR r st v a' b x l := by
  obtain ⟨ρ, e, c⟩ := h
  exact ⟨_, e, R.row c, Lo.set (by omega)⟩
theorem RW.buf {st : kM} {a b : kY} {x : uX} {l : uL} {c : Nat} {φ : Nat → Int32} (h : RW st a b x l) (hc : c = 62 ∨ c = 63 ∨ c = 70) : RW (kset st c φ) a b x l := by
  unfold RW
  rw [kset_ne _ _ (by omega), kset_ne _ _ (by omega), kset_ne _ _ (by omega), kset_ne _ _ (by omega), kset_ne _ _ (by omega), kset_ne _ _ (by omega), kset_ne _ _ (by omega), kset_2]
  exact h
theorem SR.buf {α : Type} {r : Option (α × kM)} {st : kM} {v : α} {a b : kY} {x : uX} {l : uL} {c : Nat} {φ : Nat → Int32} (hc : c = 62 ∨ c = 63 ∨ c = 70) (R : SR r (kset st c φ) v a b x l) : SR r st v a b x l := by
  obtain ⟨s, e, r1, l1⟩ := R
  exact ⟨s, e, r1, (Lo.set (by omega)).tr l1⟩
-- within
theorem C_in_f {v lo hi : Int32} {st : kM} (h : v < lo ∨ hi < v) : fX5_isWithin v lo hi st = some (0, st) := by
  unfold fX5_isWithin
  by_cases h1 : v < lo
  · rw [if_pos h1]
  · rw [if_neg h1, if_pos (h.resolve_left h1)]
theorem C_in_t {v lo hi : Int32} {st : kM} (h : ¬ (v < lo ∨ hi < v)) : fX5_isWithin v lo hi st = some (1, st) := by
  unfold fX5_isWithin
  rw [if_neg (fun q => h (Or.inl q)), if_neg (fun q => h (Or.inr q))]
theorem R_in_f {v lo hi : Int32} {st : kM} (h : v < lo ∨ hi < v) : fX6_in v lo hi st = some (0, st) := by
  unfold fX6_in
  by_cases h1 : v < lo
  · rw [if_pos h1]
  · rw [if_neg h1, if_pos (h.resolve_left h1)]
theorem R_in_t {v lo hi : Int32} {st : kM} (h : ¬ (v < lo ∨ hi < v)) : fX6_in v lo hi st = some (1, st) := by
  unfold fX6_in
  rw [if_neg (fun q => h (Or.inl q)), if_neg (fun q => h (Or.inr q))]
theorem C_mast_f {v : Int32} {st : kM} (h : v < 0 ∨ 3 < v) : fX5_isMast v st = some (0, st) := by unfold fX5_isMast; rw [C_in_f h]; rfl
theorem C_mast_t {v : Int32} {st : kM} (h : ¬ (v < 0 ∨ 3 < v)) : fX5_isMast v st = some (1, st) := by unfold fX5_isMast; rw [C_in_t h]; rfl
theorem R_mast_f {v : Int32} {st : kM} (h : v < 0 ∨ 3 < v) : fX6_isMast v st = some (0, st) := by unfold fX6_isMast; rw [R_in_f h]; rfl
theorem R_mast_t {v : Int32} {st : kM} (h : ¬ (v < 0 ∨ 3 < v)) : fX6_isMast v st = some (1, st) := by unfold fX6_isMast; rw [R_in_t h]; rfl
theorem C_kind_f {v : Int32} {st : kM} (h : v < 0 ∨ 5 < v) : fX5_isKind v st = some (0, st) := by unfold fX5_isKind; rw [C_in_f h]; rfl
theorem C_kind_t {v : Int32} {st : kM} (h : ¬ (v < 0 ∨ 5 < v)) : fX5_isKind v st = some (1, st) := by unfold fX5_isKind; rw [C_in_t h]; rfl
theorem R_kind_f {v : Int32} {st : kM} (h : v < 0 ∨ 5 < v) : fX6_isKind v st = some (0, st) := by unfold fX6_isKind; rw [R_in_f h]; rfl
theorem R_kind_t {v : Int32} {st : kM} (h : ¬ (v < 0 ∨ 5 < v)) : fX6_isKind v st = some (1, st) := by unfold fX6_isKind; rw [R_in_t h]; rfl
theorem C_sheet_f {v : Int32} {st : kM} (h : v < 0 ∨ 3 < v) : fX5_isSheet v st = some (0, st) := by unfold fX5_isSheet; rw [C_in_f h]; rfl
theorem C_sheet_t {v : Int32} {st : kM} (h : ¬ (v < 0 ∨ 3 < v)) : fX5_isSheet v st = some (1, st) := by unfold fX5_isSheet; rw [C_in_t h]; rfl
theorem R_sheet_f {v : Int32} {st : kM} (h : v < 0 ∨ 3 < v) : fX6_isSheet v st = some (0, st) := by unfold fX6_isSheet; rw [R_in_f h]; rfl
theorem R_sheet_t {v : Int32} {st : kM} (h : ¬ (v < 0 ∨ 3 < v)) : fX6_isSheet v st = some (1, st) := by unfold fX6_isSheet; rw [R_in_t h]; rfl
/-- no knot has this number -/
def nk (a : kY) (v : Int32) : Prop := v < 0 ∨ iI (a 0 1) - 1 < v
theorem C_knot_f {v : Int32} {st : kM} {a b : kY} {x : uX} {l : uL} (C : CW st a b x l) (h : nk a v) : fX5_isKnot v st = some (0, st) := by unfold fX5_isKnot; rw [C.1.1.2.1, C_in_f h]; rfl
theorem C_knot_t {v : Int32} {st : kM} {a b : kY} {x : uX} {l : uL} (C : CW st a b x l) (h : ¬ nk a v) : fX5_isKnot v st = some (1, st) := by unfold fX5_isKnot; rw [C.1.1.2.1, C_in_t h]; rfl
theorem R_one_f {v : Int32} {st : kM} {a b : kY} {x : uX} {l : uL} (R : RW st a b x l) (h : nk a v) : fX6_isOne v st = some (0, st) := by unfold fX6_isOne; rw [R.1.2.1, R_in_f h]; rfl
theorem R_one_t {v : Int32} {st : kM} {a b : kY} {x : uX} {l : uL} (R : RW st a b x l) (h : ¬ nk a v) : fX6_isOne v st = some (1, st) := by unfold fX6_isOne; rw [R.1.2.1, R_in_t h]; rfl
theorem inN {v hi : Int32} (h : Int) (e : hi = iI h) (hb : -1 ≤ h ∧ h < 2147483648) (n : ¬ (v < 0 ∨ hi < v)) : ∃ k : Nat, (k : Int) ≤ h ∧ v = iI k := by
  obtain ⟨z, z1, z2, rfl⟩ := iI_any v
  subst e
  simp (disch := omega) only [iI_ofNat, iI_add, iI_sub, iI_mul, iI_neg, iI_lt, iI_le, iI_eq, iI_cl] at n
  exact ⟨z.toNat, by omega, by congr 1; omega⟩
theorem inN1 {v hi : Int32} (h : Int) (e : hi = iI h) (hb : -1 ≤ h ∧ h < 2147483648) (n : ¬ (v < 1 ∨ hi < v)) : ∃ k : Nat, 1 ≤ k ∧ (k : Int) ≤ h ∧ v = iI k := by
  obtain ⟨z, z1, z2, rfl⟩ := iI_any v
  subst e
  simp (disch := omega) only [iI_ofNat, iI_add, iI_sub, iI_mul, iI_neg, iI_lt, iI_le, iI_eq, iI_cl] at n
  exact ⟨z.toNat, by omega, by omega, by congr 1; omega⟩
theorem inK {v : Int32} {a : kY} (ok : Ok a) (n : ¬ nk a v) : ∃ k : Nat, k < nn a ∧ v = iI k := by
  have hn := ok.n10
  have := ok.2.1
  obtain ⟨k, h1, h2⟩ := inN (a 0 1 - 1) (iI_sub (a 0 1) 1) (by omega) n
  exact ⟨k, by omega, h2⟩
