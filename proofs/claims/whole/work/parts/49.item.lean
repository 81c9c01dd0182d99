/-! items -/
def KC (B : Nat → Int) (t p : Nat) (a : kY) (s : kM) : Prop := tcp s B t ∧ TC B t p (s.1 48) ∧ CY s 16 a
def KR (B : Nat → Int) (t p : Nat) (a : kY) (s : kM) : Prop := trp s B t ∧ TR B t p (s.1 59) (s.2 59) ∧ RR (s.1 60) a ∧ s.1 59 11 = 1
def FT (s s' : kM) : Prop := (∀ c, c ≠ 59 → c ≠ 60 → s'.1 c = s.1 c) ∧ (∀ c, c ≠ 59 → s'.2 c = s.2 c) ∧ s'.1 59 5 = s.1 59 5 ∧ s'.1 59 18 = s.1 59 18
theorem FT.rf {s : kM} : FT s s := ⟨fun _ _ _ => rfl, fun _ _ => rfl, rfl, rfl⟩
theorem FT.tr {s1 s2 s3 : kM} (h1 : FT s1 s2) (h2 : FT s2 s3) : FT s1 s3 := ⟨fun c q r => (h2.1 c q r).trans (h1.1 c q r), fun c q => (h2.2.1 c q).trans (h1.2.1 c q), h2.2.2.1.trans h1.2.2.1, h2.2.2.2.trans h1.2.2.2⟩
theorem FT.rs {s : kM} {φ : Nat → Int32} {ω : Nat → Int64} (h : ∀ j, j < 6 ∨ 10 < j → φ j = s.1 59 j) : FT s (rs s φ ω) := ⟨fun _ h1 _ => rs_ne h1, fun _ h1 => rs_ne2 h1, by rw [rs_1]; exact h 5 (by omega), by rw [rs_1]; exact h 18 (by omega)⟩
theorem FT.row {s : kM} {ρ : Nat → Int32} : FT s (kset s 60 ρ) := ⟨fun _ _ h2 => kset_ne _ _ h2, fun _ _ => rfl, by rw [kset_ne _ _ (by omega)], by rw [kset_ne _ _ (by omega)]⟩
theorem FT.g {s : kM} {v : Int32} : FT s (kwr s 59 11 v) := ⟨fun _ h1 _ => kwr_ne _ _ _ h1, fun _ _ => rfl, by rw [kwr_same, up_ne _ _ (by omega)], by rw [kwr_same, up_ne _ _ (by omega)]⟩
theorem KR.rs {B : Nat → Int} {t p p' : Nat} {a : kY} {s : kM} {φ : Nat → Int32} {ω : Nat → Int64} (K : KR B t p a s) (h1 : TR B t p' φ ω) (h : ∀ j, j < 6 ∨ 10 < j → φ j = s.1 59 j) : KR B t p' a (rs s φ ω) :=
  ⟨⟨by rw [rs_1, h 5 (by omega)]; exact K.1.1, by rw [rs_ne (by omega)]; exact K.1.2⟩, by rw [rs_1, rs_2]; exact h1, by rw [rs_ne (by omega)]; exact K.2.2.1, by rw [rs_1, h 11 (by omega)]; exact K.2.2.2⟩
theorem KR.row {B : Nat → Int} {t p : Nat} {a a' : kY} {s : kM} {ρ : Nat → Int32} (K : KR B t p a s) (h : RR ρ a') : KR B t p a' (kset s 60 ρ) :=
  ⟨⟨by rw [kset_ne _ _ (by omega)]; exact K.1.1, by rw [kset_ne _ _ (by omega)]; exact K.1.2⟩, by rw [kset_ne _ _ (by omega)]; exact K.2.1, by rw [kset_same]; exact h, by rw [kset_ne _ _ (by omega)]; exact K.2.2.2⟩
theorem KC.k48 {B : Nat → Int} {t p p' : Nat} {a : kY} {s : kM} {φ : Nat → Int32} (K : KC B t p a s) (ok : Ok a) (h : TC B t p' φ) : KC B t p' a (kset s 48 φ) := ⟨K.1.k48, by rw [kset_same]; exact h, K.2.2.cong ok (fun b hb => kset_ne _ _ (by omega))⟩
theorem Fr48 {s : kM} {φ : Nat → Int32} : Fr fre s (kset s 48 φ) := Fr.set _ (by unfold fre; omega)
theorem KC.yard {B : Nat → Int} {t p : Nat} {a a' : kY} {s s' : kM} (K : KC B t p a s) (f : Fr (yc 16) s s') (h : CY s' 16 a') : KC B t p a' s' := by
  have ne : ∀ c, ¬ yc 16 c → s'.1 c = s.1 c := f.2
  unfold yc at ne
  exact ⟨⟨by rw [ne _ (by omega)]; exact K.1.1, by rw [ne _ (by omega)]; exact K.1.2⟩, by rw [ne _ (by omega)]; exact K.2.1, h⟩
theorem te_ge {B : Nat → Int} {t p : Nat} (T : TB B t) (hp : p ≤ t) : p ≤ te B t p := by
  have := (tok_ok T hp).1
  unfold te
  omega
-- the class
theorem C_wt {B : Nat → Int} {t p w : Nat} {a : kY} {s : kM} (T : TB B t) (hp : p ≤ t) (ok : Ok a) (hw : w < 12) (K : KC B t p a s) (h : Wd B t p w) : ∃ s', fX3_takeWord w s = some (1, s') ∧ Fr fre s s' ∧ KC B t (te B t p) a s' := by
  have hte := (tok_ok T hp).2.2.1
  obtain ⟨φ, q1, q2, q3⟩ := C_tok T K.1 hte K.2.1.1
  refine ⟨_, ?_, Fr48, K.k48 ok q2⟩
  unfold fX3_takeWord
  rw [(C_iw T K.1 hp K.2.1 hw).1 h, bnd, if_neg (show ¬ (1 : Int32) = 0 by decide), q1, bnd]
theorem C_wf {B : Nat → Int} {t p w : Nat} {a : kY} {s : kM} (T : TB B t) (hp : p ≤ t) (hw : w < 12) (K : KC B t p a s) (h : ¬ Wd B t p w) : fX3_takeWord w s = some (0, s) := by
  unfold fX3_takeWord
  rw [(C_iw T K.1 hp K.2.1 hw).2 h, bnd, if_pos rfl]
theorem C_nt {B : Nat → Int} {t p : Nat} {z : Int} {v : Int32} {a : kY} {s : kM} (T : TB B t) (hp : p ≤ t) (ok : Ok a) (hz : -1 ≤ z ∧ z ≤ 999) (hv : v = iI z) (K : KC B t p a s) (h : Nm B t p z) : ∃ s', fX3_takeNumber v s = some (1, s') ∧ Fr fre s s' ∧ KC B t (te B t p) a s' ∧ s'.1 48 6 = iI (nv B t p) := by
  obtain ⟨φ, q1, q2, q3⟩ := (C_tn T K.1 hp K.2.1 hz hv).1 h
  exact ⟨_, q1, Fr48, K.k48 ok q2, by rw [kset_same]; exact q3⟩
theorem C_nf {B : Nat → Int} {t p : Nat} {z : Int} {v : Int32} {a : kY} {s : kM} (T : TB B t) (hp : p ≤ t) (hz : -1 ≤ z ∧ z ≤ 999) (hv : v = iI z) (K : KC B t p a s) (h : ¬ Nm B t p z) : fX3_takeNumber v s = some (0, s) := (C_tn T K.1 hp K.2.1 hz hv).2 h
-- the reference
theorem R_wt {B : Nat → Int} {t p w : Nat} {v : Int64} {a : kY} {s : kM} (T : TB B t) (hp : p ≤ t) (hw : w < 12) (hv : v = iL (hH (wb w) (wz w))) (K : KR B t p a s) (h : Wd B t p w) : ∃ s', fX6_may v s = some (1, s') ∧ FT s s' ∧ KR B t (te B t p) a s' := by
  obtain ⟨φ, ω, q1, q2, q3⟩ := (R_my T K.1 hp K.2.1 K.2.2.2 hw hv).1 h
  exact ⟨_, q1, FT.rs q3, K.rs q2 q3⟩
theorem R_wf {B : Nat → Int} {t p w : Nat} {v : Int64} {a : kY} {s : kM} (T : TB B t) (hp : p ≤ t) (hw : w < 12) (hv : v = iL (hH (wb w) (wz w))) (K : KR B t p a s) (h : ¬ Wd B t p w) : fX6_may v s = some (0, s) := (R_my T K.1 hp K.2.1 K.2.2.2 hw hv).2 h
theorem R_nt {B : Nat → Int} {t p : Nat} {z : Int} {v : Int32} {a : kY} {s : kM} (T : TB B t) (hp : p ≤ t) (hz : -1 ≤ z ∧ z ≤ 999) (hv : v = iI z) (K : KR B t p a s) (h : Nm B t p z) : ∃ s', fX6_wantNumber 0 v s = some (iI (nv B t p), s') ∧ FT s s' ∧ KR B t (te B t p) a s' := by
  obtain ⟨φ, ω, q1, q2, q3⟩ := (R_wn T K.1 hp K.2.1 K.2.2.2 hz hv).1 h
  exact ⟨_, q1, FT.rs q3, K.rs q2 q3⟩
/-- the reference tells a fault at p -/
def Bf (B : Nat → Int) (t p : Nat) (s : kM) : Prop := s.1 59 11 = 0 ∧ s.1 59 7 = iI ((tq B t p : Nat) : Int)
theorem Bf.g {B : Nat → Int} {t p : Nat} {a : kY} {s : kM} (K : KR B t p a s) : Bf B t p (kwr s 59 11 0) := ⟨by rw [kwr_same, up_eq], by rw [kwr_same, up_ne _ _ (by omega)]; exact K.2.1.2.1⟩
theorem R_nf {B : Nat → Int} {t p : Nat} {z : Int} {v : Int32} {a : kY} {s : kM} (T : TB B t) (hp : p ≤ t) (hz : -1 ≤ z ∧ z ≤ 999) (hv : v = iI z) (K : KR B t p a s) (h : ¬ Nm B t p z) : ∃ u s', fX6_wantNumber 0 v s = some (u, s') ∧ FT s s' ∧ Bf B t p s' := by
  obtain ⟨u, q1⟩ := (R_wn T K.1 hp K.2.1 K.2.2.2 hz hv).2 h
  exact ⟨u, _, q1, FT.g, Bf.g K⟩
/-- what comes of an item -/
def IT (B : Nat → Int) (t : Nat) (f5 : kM → Option (Int32 × kM)) (f6 : kM → Option kM) (p : Nat) (a : kY) (lo : Nat) : Prop :=
  (∃ (a' : kY) (p' : Nat), Ok a' ∧ a' 0 0 = a 0 0 ∧ lo ≤ p' ∧ p' ≤ t ∧ (∀ s, KC B t p a s → ∃ s', f5 s = some (1, s') ∧ Fr fre s s' ∧ KC B t p' a' s') ∧ ∀ s, KR B t p a s → ∃ s', f6 s = some s' ∧ FT s s' ∧ KR B t p' a' s')
  ∨ ∃ p' : Nat, p' ≤ t ∧ (∀ s, KC B t p a s → ∃ s', f5 s = some (0, s') ∧ Fr fre s s' ∧ s'.1 48 4 = iI ((tq B t p' : Nat) : Int)) ∧ ∀ s, KR B t p a s → ∃ s', f6 s = some s' ∧ FT s s' ∧ Bf B t p' s'
theorem KC.at {B : Nat → Int} {t p : Nat} {a : kY} {s : kM} (K : KC B t p a s) : s.1 48 4 = iI ((tq B t p : Nat) : Int) := K.2.1.2.2.1
theorem n10 : ¬ (1 : Int32) = 0 := by decide
theorem cl_12 {k : Nat} (hk : k < 12) : ¬ ((iI (k : Int)) < 0 ∨ 12 ≤ k) := by rw [iI_ofNat, iI_lt (by omega) (by omega) (by omega) (by omega)]; omega
theorem it_wind {B : Nat → Int} {t p : Nat} {a : kY} (T : TB B t) (hp : p ≤ t) (ok : Ok a) : IT B t fX3_readWind fX6_wantWind p a p := by
  have hp1 := (tok_ok T hp).2.2.1
  have hp2 := (tok_ok T hp1).2.2.1
  have g1 := te_ge T hp
  have g2 := te_ge T hp1
  by_cases h1 : Nm B t p 11
  · have v1 := nv_ok T hp h1
    obtain ⟨m, hm⟩ : ∃ m : Nat, nv B t p = (m : Int) := ⟨(nv B t p).toNat, by omega⟩
    by_cases h2 : Nm B t (te B t p) 99
    · have v2 := nv_ok T hp1 h2
      refine Or.inl ⟨ya a 1 m (nv B t (te B t p)), te B t (te B t p), Ok_wind ok v2, by rw [ya_row (by omega)], by omega, hp2, fun s K => ?_, fun s K => ?_⟩
      · obtain ⟨s1, q1, q2, q3, q4⟩ := C_nt (z := 11) (v := 11) T hp ok (by omega) rfl K h1
        obtain ⟨s2, r1, r2, r3, r4⟩ := C_nt (z := 99) (v := 99) T hp1 ok (by omega) rfl q3 h2
        rw [hm] at q4
        refine ⟨kwr s2 (16 + 1) m (iI (nv B t (te B t p))), ?_, (q2.tr r2).tr (Fr16 Fr.y1), r3.yard Fr.y1 (r3.2.2.wind ok)⟩
        unfold fX3_readWind
        rw [q1, bnd, if_neg n10, bnd, r1, bnd, if_neg n10, q4, cn_k (by omega), if_neg (cl_12 (by omega)), r4, bnd]
      · obtain ⟨s1, q1, q2, q3⟩ := R_nt (z := 11) (v := 11) T hp (by omega) rfl K h1
        obtain ⟨s2, r1, r2, r3⟩ := R_nt (z := 99) (v := 99) T hp1 (by omega) rfl q3 h2
        rw [hm] at q1
        have e5 : (2 : Int32) + iI (m : Int) = iI ((2 + m : Nat) : Int) := by rw [iI_ofNat, iI_add]; exact congrArg iI (by omega)
        have hcl : ¬ ((iI ((2 + m : Nat) : Int)) < 0 ∨ 72 ≤ 2 + m) := by rw [iI_ofNat, iI_lt (by omega) (by omega) (by omega) (by omega)]; omega
        refine ⟨kwr s2 60 (2 + m) (iI (nv B t (te B t p))), ?_, (q2.tr r2).tr FT.row, r3.row (RR.wind r3.2.2.1 (by omega))⟩
        unfold fX6_wantWind fX6_wantWind_26
        rw [q1, bnd, q3.2.2.2, if_neg n10, r1, bnd, r3.2.2.2, if_neg n10, e5, cn_k (by omega), if_neg hcl, bnd]
    · refine Or.inr ⟨te B t p, hp1, fun s K => ?_, fun s K => ?_⟩
      · obtain ⟨s1, q1, q2, q3, q4⟩ := C_nt (z := 11) (v := 11) T hp ok (by omega) rfl K h1
        refine ⟨s1, ?_, q2, q3.at⟩
        unfold fX3_readWind
        rw [q1, bnd, if_neg n10, bnd, C_nf (z := 99) (v := 99) T hp1 (by omega) rfl q3 h2, bnd, if_pos rfl]
      · obtain ⟨s1, q1, q2, q3⟩ := R_nt (z := 11) (v := 11) T hp (by omega) rfl K h1
        obtain ⟨u, s2, r1, r2, r3⟩ := R_nf (z := 99) (v := 99) T hp1 (by omega) rfl q3 h2
        refine ⟨s2, ?_, q2.tr r2, r3⟩
        unfold fX6_wantWind fX6_wantWind_26
        rw [q1, bnd, q3.2.2.2, if_neg n10, r1, bnd, if_pos r3.1]
  · refine Or.inr ⟨p, hp, fun s K => ?_, fun s K => ?_⟩
    · refine ⟨s, ?_, Fr.rf, K.at⟩
      unfold fX3_readWind
      rw [C_nf (z := 11) (v := 11) T hp (by omega) rfl K h1, bnd, if_pos rfl]
    · obtain ⟨u, s2, r1, r2, r3⟩ := R_nf (z := 11) (v := 11) T hp (by omega) rfl K h1
      refine ⟨s2, ?_, r2, r3⟩
      unfold fX6_wantWind fX6_wantWind_26
      rw [r1, bnd, if_pos r3.1, if_pos r3.1]
theorem R_42 {s : kM} {m : Nat} {w u : Int} {v : Int32} (hg : s.1 59 11 = 1) (hm : m < 4) (hv : v = iI u) : fX6_wantMast_42 (iI m) (iI w) v s = some (kwr (kwr s 60 (14 + 2 * m) (iI w)) 60 (14 + 2 * m + 1) (iI u)) := by
  subst hv
  unfold fX6_wantMast_42
  rw [hg, if_neg n10, R_q0 hm, bnd, R_q1 hm, bnd]
theorem R_26 {s : kM} {x y : Int32} (hg : s.1 59 11 = 0) : fX6_wantMast_26 x y s = some s := by
  unfold fX6_wantMast_26 fX6_wantMast_42
  rw [R_my0 hg, bnd, if_pos rfl, if_pos hg]
theorem c_down : (90302 : Int64) = iL (hH (wb 1) (wz 1)) := by decide +kernel
theorem it_mast {B : Nat → Int} {t p : Nat} {a : kY} (T : TB B t) (hp : p ≤ t) (ok : Ok a) : IT B t fX3_readMast fX6_wantMast p a p := by
  have hp1 := (tok_ok T hp).2.2.1
  have hp2 := (tok_ok T hp1).2.2.1
  have hp3 := (tok_ok T hp2).2.2.1
  have g1 := te_ge T hp
  have g2 := te_ge T hp1
  have g3 := te_ge T hp2
  by_cases h1 : Nm B t p 3
  · have v1 := nv_ok T hp h1
    obtain ⟨m, hm⟩ : ∃ m : Nat, nv B t p = (m : Int) := ⟨(nv B t p).toNat, by omega⟩
    have hm4 : m < 4 := by omega
    by_cases h2 : Nm B t (te B t p) 999
    · have v2 := nv_ok T hp1 h2
      have ok1 := Ok_weight (i := m) ok v2
      have hu : ∀ m' : Nat, m' < 4 → (ya a 2 m (nv B t (te B t p))) 3 m' = 0 ∨ (ya a 2 m (nv B t (te B t p))) 3 m' = 1 := fun m' h => (ok1.2.2.2.1 m' h).2
      have cl : ∀ s, KC B t p a s → ∃ s3, Fr fre s s3 ∧ KC B t (te B t (te B t p)) (ya a 2 m (nv B t (te B t p))) s3 ∧ fX3_readMast s = ((fX3_takeWord 1 s3).bind fun q12 => (if q12.1 = 0 then ((fX4_putUp 16 (iI (m : Int)) (1 : Int32) q12.2).bind fun s17 => (some ((1 : Int32), s17))) else ((fX4_putUp 16 (iI (m : Int)) (0 : Int32) q12.2).bind fun s15 => (some ((1 : Int32), s15))))) := fun s K => by
        obtain ⟨s1, q1, q2, q3, q4⟩ := C_nt (z := 3) (v := 3) T hp ok (by omega) rfl K h1
        obtain ⟨s2, r1, r2, r3, r4⟩ := C_nt (z := 999) (v := 999) T hp1 ok (by omega) rfl q3 h2
        rw [hm] at q4
        refine ⟨kwr s2 (16 + 2) m (iI (nv B t (te B t p))), (q2.tr r2).tr (Fr16 Fr.y2), r3.yard Fr.y2 (r3.2.2.weight ok), ?_⟩
        unfold fX3_readMast
        rw [q1, bnd, if_neg n10, bnd, r1, bnd, if_neg n10, q4, cn_k (by omega), if_neg (cl_4 hm4), r4, bnd]
      have rf : ∀ s, KR B t p a s → ∃ s2, FT s s2 ∧ KR B t (te B t (te B t p)) a s2 ∧ fX6_wantMast s = fX6_wantMast_26 (iI m) (iI (nv B t (te B t p))) s2 := fun s K => by
        obtain ⟨s1, q1, q2, q3⟩ := R_nt (z := 3) (v := 3) T hp (by omega) rfl K h1
        obtain ⟨s2, r1, r2, r3⟩ := R_nt (z := 999) (v := 999) T hp1 (by omega) rfl q3 h2
        rw [hm] at q1
        refine ⟨s2, q2.tr r2, r3, ?_⟩
        unfold fX6_wantMast
        rw [q1, bnd, q3.2.2.2, if_neg n10, r1, bnd]
      by_cases h3 : Wd B t (te B t (te B t p)) 1
      · refine Or.inl ⟨ya (ya a 2 m (nv B t (te B t p))) 3 m 0, te B t (te B t (te B t p)), Ok_up ok1 (Or.inl rfl), by rw [ya_row (by omega), ya_row (by omega)], by omega, hp3, fun s K => ?_, fun s K => ?_⟩
        · obtain ⟨s3, c1, c2, c3⟩ := cl s K
          obtain ⟨s4, d1, d2, d3⟩ := C_wt T hp2 ok1 (by omega) c2 h3
          refine ⟨_, ?_, (c1.tr d2).tr (Fr16 Fr.y0), d3.yard Fr.y0 (d3.2.2.up ok1)⟩
          rw [c3, d1, bnd, if_neg n10, (S_putUp d3.2.2.1.2.2 hu hm4).1, bnd]
        · obtain ⟨s2, c1, c2, c3⟩ := rf s K
          obtain ⟨s4, d1, d2, d3⟩ := R_wt T hp2 (by omega) c_down c2 h3
          have K4 := d3.row (RR.weight (z := nv B t (te B t p)) d3.2.2.1 hm4)
          have K5 := K4.row (RR.up (z := 0) K4.2.2.1 ok1 hm4)
          refine ⟨_, ?_, ((c1.tr d2).tr FT.row).tr FT.row, K5⟩
          rw [c3]
          unfold fX6_wantMast_26
          rw [d1, bnd, if_neg n10, R_42 (v := 0) (u := 0) d3.2.2.2 hm4 rfl]
          rfl
      · refine Or.inl ⟨ya (ya a 2 m (nv B t (te B t p))) 3 m 1, te B t (te B t p), Ok_up ok1 (Or.inr rfl), by rw [ya_row (by omega), ya_row (by omega)], by omega, hp2, fun s K => ?_, fun s K => ?_⟩
        · obtain ⟨s3, c1, c2, c3⟩ := cl s K
          refine ⟨_, ?_, c1.tr (Fr16 Fr.y0), c2.yard Fr.y0 (c2.2.2.up ok1)⟩
          rw [c3, C_wf T hp2 (by omega) c2 h3, bnd, if_pos rfl, (S_putUp c2.2.2.1.2.2 hu hm4).2, bnd]
        · obtain ⟨s2, c1, c2, c3⟩ := rf s K
          have K4 := c2.row (RR.weight (z := nv B t (te B t p)) c2.2.2.1 hm4)
          have K5 := K4.row (RR.up (z := 1) K4.2.2.1 ok1 hm4)
          refine ⟨_, ?_, (c1.tr FT.row).tr FT.row, K5⟩
          rw [c3]
          unfold fX6_wantMast_26
          rw [R_wf T hp2 (by omega) c_down c2 h3, bnd, if_pos rfl, R_42 (v := 1) (u := 1) c2.2.2.2 hm4 rfl]
          rfl
    · refine Or.inr ⟨te B t p, hp1, fun s K => ?_, fun s K => ?_⟩
      · obtain ⟨s1, q1, q2, q3, q4⟩ := C_nt (z := 3) (v := 3) T hp ok (by omega) rfl K h1
        refine ⟨s1, ?_, q2, q3.at⟩
        unfold fX3_readMast
        rw [q1, bnd, if_neg n10, bnd, C_nf (z := 999) (v := 999) T hp1 (by omega) rfl q3 h2, bnd, if_pos rfl]
      · obtain ⟨s1, q1, q2, q3⟩ := R_nt (z := 3) (v := 3) T hp (by omega) rfl K h1
        obtain ⟨u, s2, r1, r2, r3⟩ := R_nf (z := 999) (v := 999) T hp1 (by omega) rfl q3 h2
        refine ⟨s2, ?_, q2.tr r2, r3⟩
        unfold fX6_wantMast
        rw [q1, bnd, q3.2.2.2, if_neg n10, r1, bnd, R_26 r3.1]
  · refine Or.inr ⟨p, hp, fun s K => ?_, fun s K => ?_⟩
    · refine ⟨s, ?_, Fr.rf, K.at⟩
      unfold fX3_readMast
      rw [C_nf (z := 3) (v := 3) T hp (by omega) rfl K h1, bnd, if_pos rfl]
    · obtain ⟨u, s2, r1, r2, r3⟩ := R_nf (z := 3) (v := 3) T hp (by omega) rfl K h1
      refine ⟨s2, ?_, r2, r3⟩
      unfold fX6_wantMast
      rw [r1, bnd, if_pos r3.1, R_26 r3.1]
def f6T (s : kM) : Option kM := (fX6_wantNumber (0 : Int32) ((s.1 60 1) - (1 : Int32)) s).bind fun q15 => (if (q15.2.1 59 11) = 0 then (some q15.2) else ((fX6_teases q15.1 q15.2).bind fun s18 => (some s18)))
theorem it_tease {B : Nat → Int} {t p : Nat} {a : kY} (T : TB B t) (hp : p ≤ t) (ok : Ok a) : IT B t fX3_readTease f6T p a p := by
  have hp1 := (tok_ok T hp).2.2.1
  have g1 := te_ge T hp
  have hn := ok.n10
  have hz : -1 ≤ a 0 1 - 1 ∧ a 0 1 - 1 ≤ 999 := by have := ok.2.1; omega
  have ev : iI (a 0 1) - (1 : Int32) = iI (a 0 1 - 1) := by rw [iI_ofNat, iI_sub]
  by_cases h1 : Nm B t p (a 0 1 - 1)
  · have v1 := nv_ok T hp h1
    obtain ⟨k, hk⟩ : ∃ k : Nat, nv B t p = (k : Int) := ⟨(nv B t p).toNat, by omega⟩
    have hkn : k < nn a := by omega
    have hcl := Cl_rng (a (4 + k) 2 + Tg (a (4 + k)))
    refine Or.inl ⟨ya a (4 + k) 2 (Cl (a (4 + k) 2 + Tg (a (4 + k)))), te B t p, Ok_knot ok (by omega), by rw [ya_row (by omega)], by omega, hp1, fun s K => ?_, fun s K => ?_⟩
    · obtain ⟨s1, q1, q2, q3, q4⟩ := C_nt (v := s.1 16 1 - 1) T hp ok hz (by rw [K.2.2.1.2.1, ev]) K h1
      rw [hk] at q4
      refine ⟨_, ?_, q2.tr (Fr16 (Fr.yk (show k < 10 by omega))), q3.yard (Fr.yk (show k < 10 by omega)) (q3.2.2.knot (j := 2) (z := Cl (a (4 + k) 2 + Tg (a (4 + k)))) ok hkn)⟩
      unfold fX3_readTease
      rw [q1, bnd, if_neg n10, q4, cn_k (by omega), if_neg (cl_k (by omega)), S_beTeased (q3.2.2.2.2.2 k hkn) (ok.2.2.2.2 k hkn), bnd]
    · obtain ⟨s1, q1, q2, q3⟩ := R_nt (v := s.1 60 1 - 1) T hp hz (by rw [K.2.2.1.2.1, ev]) K h1
      obtain ⟨ρ, r1, r2⟩ := R_teases (st := s1) q3.2.2.1 ok hkn
      rw [kset_self] at r1
      refine ⟨_, ?_, q2.tr FT.row, q3.row r2⟩
      unfold f6T
      rw [q1, bnd, q3.2.2.2, if_neg n10, hk, r1, bnd]
  · refine Or.inr ⟨p, hp, fun s K => ?_, fun s K => ?_⟩
    · refine ⟨s, ?_, Fr.rf, K.at⟩
      unfold fX3_readTease
      rw [C_nf (v := s.1 16 1 - 1) T hp hz (by rw [K.2.2.1.2.1, ev]) K h1, bnd, if_pos rfl]
    · obtain ⟨u, s2, r1, r2, r3⟩ := R_nf (v := s.1 60 1 - 1) T hp hz (by rw [K.2.2.1.2.1, ev]) K h1
      refine ⟨s2, ?_, r2, r3⟩
      unfold f6T
      rw [r1, bnd, if_pos r3.1]
