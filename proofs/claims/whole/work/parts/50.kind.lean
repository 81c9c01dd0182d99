/-! a knot of a text; an item -/
def nmk (y : Nat) : Nat := if y = 1 then 4 else if y = 2 then 5 else if y = 3 then 6 else if y = 4 then 7 else if y = 5 then 8 else 9
theorem nmk_lt {y : Nat} : nmk y < 12 := by
  unfold nmk
  repeat' split
  all_goals omega
theorem nmk_ge {y : Nat} : 4 ≤ nmk y ∧ nmk y ≤ 9 := by
  unfold nmk
  repeat' split
  all_goals omega
theorem nmk_inj : ∀ y : Nat, y < 6 → ∀ z : Nat, z < 6 → nmk y = nmk z → y = z := by decide
theorem C_nameOf {s : kM} : ∀ y : Nat, y < 6 → fX3_nameOf (iI (y : Int)) s = some (nmk y, s) := by
  intro y hy
  have h : y = 0 ∨ y = 1 ∨ y = 2 ∨ y = 3 ∨ y = 4 ∨ y = 5 := by omega
  unfold fX3_nameOf
  rcases h with rfl | rfl | rfl | rfl | rfl | rfl
  · rw [if_neg (by decide), if_neg (by decide), if_neg (by decide), if_neg (by decide), if_neg (by decide)]; rfl
  · rw [if_pos (by decide)]; rfl
  · rw [if_neg (by decide), if_pos (by decide)]; rfl
  · rw [if_neg (by decide), if_neg (by decide), if_pos (by decide)]; rfl
  · rw [if_neg (by decide), if_neg (by decide), if_neg (by decide), if_pos (by decide)]; rfl
  · rw [if_neg (by decide), if_neg (by decide), if_neg (by decide), if_neg (by decide), if_pos (by decide)]; rfl
theorem C_kt2 {B : Nat → Int} {t p : Nat} {a : kY} {s : kM} (T : TB B t) (hp : p ≤ t) (K : KC B t p a s) : ∀ (r k : Nat), k + r = 6 → ∀ fuel, r < fuel → (∀ y, k ≤ y → y < 6 → Wd B t p (nmk y) → fX3_kindTold_2 fuel (iI k) s = some (iI (y : Int), s)) ∧ ((∀ y, k ≤ y → y < 6 → ¬ Wd B t p (nmk y)) → fX3_kindTold_2 fuel (iI k) s = some (-1, s)) := by
  intro r
  induction r with
  | zero =>
    intro k hk fuel hf
    obtain ⟨f, rfl⟩ : ∃ f, fuel = f + 1 := ⟨fuel - 1, by omega⟩
    have hc : (6 : Int32) ≤ iI (k : Int) := by rw [iI_ofNat, iI_le (by omega) (by omega) (by omega) (by omega)]; omega
    refine ⟨fun y h1 h2 => absurd h1 (by omega), fun _ => ?_⟩
    rw [fX3_kindTold_2, if_pos hc]
  | succ r ih =>
    intro k hk fuel hf
    obtain ⟨f, rfl⟩ : ∃ f, fuel = f + 1 := ⟨fuel - 1, by omega⟩
    have hc : ¬ ((6 : Int32) ≤ iI (k : Int)) := by rw [iI_ofNat, iI_le (by omega) (by omega) (by omega) (by omega)]; omega
    obtain ⟨i1, i2⟩ := ih (k + 1) (by omega) f (by omega)
    obtain ⟨w1, w2⟩ := C_iw T K.1 hp K.2.1 (nmk_lt (y := k))
    rw [fX3_kindTold_2, if_neg hc, C_nameOf k (by omega), bnd, if_pos (show nmk k < kSn from nmk_lt), ix_1]
    by_cases e : Wd B t p (nmk k)
    · rw [w1 e, bnd, if_neg n10]
      refine ⟨fun y h1 h2 h3 => ?_, fun q => absurd e (q k (by omega) (by omega))⟩
      rw [nmk_inj y h2 k (by omega) (Wd_ne nmk_lt nmk_lt h3 e)]
    · rw [w2 e, bnd, if_pos rfl]
      refine ⟨fun y h1 h2 h3 => ?_, fun q => i2 (fun y h1 h2 => q y (by omega) h2)⟩
      have hne : y ≠ k := fun q => e (by rw [← q]; exact h3)
      exact i1 y (by omega) h2 h3
theorem C_kt {B : Nat → Int} {t p : Nat} {a : kY} {s : kM} (T : TB B t) (hp : p ≤ t) (K : KC B t p a s) : (∀ y, y < 6 → Wd B t p (nmk y) → fX3_kindTold s = some (iI (y : Int), s)) ∧ ((∀ y, y < 6 → ¬ Wd B t p (nmk y)) → fX3_kindTold s = some (-1, s)) := by
  obtain ⟨i1, i2⟩ := C_kt2 T hp K 6 0 (by omega) kfu (by unfold kfu; omega)
  rw [iI_n0] at i1 i2
  exact ⟨fun y h1 h2 => i1 y (by omega) h1 h2, fun q => i2 (fun y _ h => q y h)⟩
theorem c_k0 : (227144 : Int64) = iL (hH (wb 9) (wz 9)) := by decide +kernel
theorem c_k1 : (281375132 : Int64) = iL (hH (wb 4) (wz 4)) := by decide +kernel
theorem c_k2 : (4443344 : Int64) = iL (hH (wb 5) (wz 5)) := by decide +kernel
theorem c_k3 : (129450 : Int64) = iL (hH (wb 6) (wz 6)) := by decide +kernel
theorem c_k4 : (115789410 : Int64) = iL (hH (wb 7) (wz 7)) := by decide +kernel
theorem c_k5 : (16466 : Int64) = iL (hH (wb 8) (wz 8)) := by decide +kernel
theorem c_mast : (257141 : Int64) = iL (hH (wb 0) (wz 0)) := by decide +kernel
theorem c_wind : (459652 : Int64) = iL (hH (wb 2) (wz 2)) := by decide +kernel
theorem c_tease : (10728482 : Int64) = iL (hH (wb 3) (wz 3)) := by decide +kernel
theorem c_open : (307058 : Int64) = iL (hH (wb 10) (wz 10)) := by decide +kernel
theorem c_loose : (6683990 : Int64) = iL (hH (wb 11) (wz 11)) := by decide +kernel
theorem R_kh {B : Nat → Int} {t p : Nat} {a : kY} {s : kM} (T : TB B t) (hp : p ≤ t) (K : KR B t p a s) : (∀ y, y < 6 → Wd B t p (nmk y) → fX6_kindHere s = some (iI (y : Int), s)) ∧ ((∀ y, y < 6 → ¬ Wd B t p (nmk y)) → fX6_kindHere s = some (-1, s)) := by
  obtain ⟨a0, b0⟩ := R_iw T hp K.2.1 (by omega) c_k0
  obtain ⟨a1, b1⟩ := R_iw T hp K.2.1 (by omega) c_k1
  obtain ⟨a2, b2⟩ := R_iw T hp K.2.1 (by omega) c_k2
  obtain ⟨a3, b3⟩ := R_iw T hp K.2.1 (by omega) c_k3
  obtain ⟨a4, b4⟩ := R_iw T hp K.2.1 (by omega) c_k4
  obtain ⟨a5, b5⟩ := R_iw T hp K.2.1 (by omega) c_k5
  have ne : ∀ {v w : Nat}, v < 12 → w < 12 → Wd B t p v → v ≠ w → ¬ Wd B t p w := fun h1 h2 h3 h4 h5 => h4 (Wd_ne h1 h2 h3 h5)
  unfold fX6_kindHere
  refine ⟨fun y hy h => ?_, fun q => ?_⟩
  · have hc : y = 0 ∨ y = 1 ∨ y = 2 ∨ y = 3 ∨ y = 4 ∨ y = 5 := by omega
    rcases hc with rfl | rfl | rfl | rfl | rfl | rfl
    · have h' : Wd B t p 9 := h
      simp only [a0 h', bnd, i10, itF]; rfl
    · have h' : Wd B t p 4 := h
      simp only [b0 (ne (by omega) (by omega) h' (by omega)), a1 h', bnd, i00, itT, i10, itF]; rfl
    · have h' : Wd B t p 5 := h
      simp only [b0 (ne (by omega) (by omega) h' (by omega)), b1 (ne (by omega) (by omega) h' (by omega)), a2 h', bnd, i00, itT, i10, itF]; rfl
    · have h' : Wd B t p 6 := h
      simp only [b0 (ne (by omega) (by omega) h' (by omega)), b1 (ne (by omega) (by omega) h' (by omega)), b2 (ne (by omega) (by omega) h' (by omega)), a3 h', bnd, i00, itT, i10, itF]; rfl
    · have h' : Wd B t p 7 := h
      simp only [b0 (ne (by omega) (by omega) h' (by omega)), b1 (ne (by omega) (by omega) h' (by omega)), b2 (ne (by omega) (by omega) h' (by omega)), b3 (ne (by omega) (by omega) h' (by omega)), a4 h', bnd, i00, itT, i10, itF]; rfl
    · have h' : Wd B t p 8 := h
      simp only [b0 (ne (by omega) (by omega) h' (by omega)), b1 (ne (by omega) (by omega) h' (by omega)), b2 (ne (by omega) (by omega) h' (by omega)), b3 (ne (by omega) (by omega) h' (by omega)), b4 (ne (by omega) (by omega) h' (by omega)), a5 h', bnd, i00, itT, i10, itF]; rfl
  · simp only [b0 (q 0 (by omega)), b1 (q 1 (by omega)), b2 (q 2 (by omega)), b3 (q 3 (by omega)), b4 (q 4 (by omega)), b5 (q 5 (by omega)), bnd, i00, itT]
-- a knot
theorem ak_of {a : kY} {y m o f : Int} : ya (ya (ak a y m 50 1) (4 + nn a) 2 o) (4 + nn a) 4 f = ak a y m o f := by
  funext i j
  rw [ya_eq, ya_eq]
  unfold ak
  repeat' split
  all_goals first | rfl | (exfalso; omega)
theorem ak_f {a : kY} {y m f : Int} : ya (ak a y m 50 1) (4 + nn a) 4 f = ak a y m 50 f := by
  funext i j
  rw [ya_eq]
  unfold ak
  repeat' split
  all_goals first | rfl | (exfalso; omega)
theorem C_84 {B : Nat → Int} {t p n : Nat} {a : kY} {s : kM} (T : TB B t) (hp : p ≤ t) (ok : Ok a) (hn : n < nn a) (K : KC B t p a s) : (Wd B t p 11 → ∃ s', fX3_readKnot_84 (16 + 5 + n) s = some (1, s') ∧ Fr fre s s' ∧ KC B t (te B t p) (ya a (4 + n) 4 0) s') ∧ (¬ Wd B t p 11 → ∃ s', fX3_readKnot_84 (16 + 5 + n) s = some (1, s') ∧ Fr fre s s' ∧ KC B t p (ya a (4 + n) 4 1) s') := by
  have h10 := ok.n10
  refine ⟨fun h => ?_, fun h => ?_⟩
  · obtain ⟨s1, q1, q2, q3⟩ := C_wt T hp ok (by omega) K h
    refine ⟨kwr s1 (16 + 5 + n) 4 (iI 0), ?_, q2.tr (Fr16 (Fr.yk (by omega))), q3.yard (Fr.yk (by omega)) (q3.2.2.knot ok hn)⟩
    unfold fX3_readKnot_84
    rw [q1, bnd, if_neg n10, bnd]
    rfl
  · refine ⟨kwr s (16 + 5 + n) 4 (iI 1), ?_, Fr16 (Fr.yk (by omega)), K.yard (Fr.yk (by omega)) (K.2.2.knot ok hn)⟩
    unfold fX3_readKnot_84
    rw [C_wf T hp (by omega) K h, bnd, if_pos rfl, bnd]
    rfl
/-- the end of one, behind its openness -/
def f6L (y m o : Int32) (s : kM) : Option kM := (fX6_may (6683990 : Int64) s).bind fun q11 => (if q11.1 = 0 then (fX6_wantOne_67 y m o (1 : Int32) q11.2) else (fX6_wantOne_67 y m o (0 : Int32) q11.2))
theorem R_L {B : Nat → Int} {t p : Nat} {a : kY} {s : kM} {y m o : Int} (T : TB B t) (hp : p ≤ t) (ok : Ok a) (hn : nn a < 10) (K : KR B t p a s) : (Wd B t p 11 → ∃ s', f6L (iI y) (iI m) (iI o) s = some s' ∧ FT s s' ∧ KR B t (te B t p) (ak a y m o 0) s') ∧ (¬ Wd B t p 11 → ∃ s', f6L (iI y) (iI m) (iI o) s = some s' ∧ FT s s' ∧ KR B t p (ak a y m o 1) s') := by
  refine ⟨fun h => ?_, fun h => ?_⟩
  · obtain ⟨s1, q1, q2, q3⟩ := R_wt T hp (by omega) c_loose K h
    obtain ⟨ρ, r1, r2⟩ := R_adds (st := s1) (y := y) (m := m) (o := o) (f := 0) q3.2.2.1 ok hn
    rw [kset_self] at r1
    refine ⟨_, ?_, q2.tr FT.row, q3.row r2⟩
    unfold f6L fX6_wantOne_67
    rw [q1, bnd, if_neg n10, q3.2.2.2, if_neg n10, show (0 : Int32) = iI 0 from rfl, r1, bnd]
  · obtain ⟨ρ, r1, r2⟩ := R_adds (st := s) (y := y) (m := m) (o := o) (f := 1) K.2.2.1 ok hn
    rw [kset_self] at r1
    refine ⟨_, ?_, FT.row, K.row r2⟩
    unfold f6L fX6_wantOne_67
    rw [R_wf T hp (by omega) c_loose K h, bnd, if_pos rfl, K.2.2.2, if_neg n10, show (1 : Int32) = iI 1 from rfl, r1, bnd]
theorem R_L0 {s : kM} {x y z : Int32} (hg : s.1 59 11 = 0) : f6L x y z s = some s := by
  unfold f6L fX6_wantOne_67
  rw [R_my0 hg, bnd, if_pos rfl, if_pos hg]
theorem es11 {s : kM} (hg : s.1 59 11 = 1) : kwr s 59 11 1 = s := by
  rw [kwr]
  have : va_up (s.1 59) 11 1 = s.1 59 := by
    funext j
    by_cases ej : j = 11
    · rw [ej, up_eq, hg]
    · rw [up_ne _ _ ej]
  rw [this, kset_self]
theorem R_mw {B : Nat → Int} {t p : Nat} {a : kY} {s : kM} (T : TB B t) (hp : p ≤ t) (K : KR B t p a s) (h : Wd B t p 10) : (Nm B t (te B t p) 99 → ∃ s', fX6_mayWant 307058 0 99 50 s = some (iI (nv B t (te B t p)), s') ∧ FT s s' ∧ KR B t (te B t (te B t p)) a s') ∧ (¬ Nm B t (te B t p) 99 → ∃ u s', fX6_mayWant 307058 0 99 50 s = some (u, s') ∧ FT s s' ∧ Bf B t (te B t p) s') := by
  have hp1 := (tok_ok T hp).2.2.1
  obtain ⟨φ, ω, q1, q2, q3⟩ := R_adv T K.1 hp1 K.2.1.2.2.1
  have K1 := K.rs q2 q3
  unfold fX6_mayWant
  rw [K.2.2.2, if_neg n10, (R_iw T hp K.2.1 (by omega) c_open).1 h, bnd, if_neg n10, q1, bnd]
  refine ⟨fun h2 => ?_, fun h2 => ?_⟩
  · obtain ⟨s2, r1, r2, r3⟩ := R_nt (z := 99) (v := 99) T hp1 (by omega) rfl K1 h2
    exact ⟨s2, by rw [r1, bnd], (FT.rs q3).tr r2, r3⟩
  · obtain ⟨u, s2, r1, r2, r3⟩ := R_nf (z := 99) (v := 99) T hp1 (by omega) rfl K1 h2
    exact ⟨u, s2, by rw [r1, bnd], (FT.rs q3).tr r2, r3⟩
theorem R_mwf {B : Nat → Int} {t p : Nat} {a : kY} {s : kM} (T : TB B t) (hp : p ≤ t) (K : KR B t p a s) (h : ¬ Wd B t p 10) : fX6_mayWant 307058 0 99 50 s = some (50, s) := by
  unfold fX6_mayWant
  rw [K.2.2.2, if_neg n10, (R_iw T hp K.2.1 (by omega) c_open).2 h, bnd, if_pos rfl]
theorem R_mw0 {s : kM} (hg : s.1 59 11 = 0) : fX6_mayWant 307058 0 99 50 s = some (50, s) := by
  unfold fX6_mayWant
  rw [if_pos hg]
theorem it_knot {B : Nat → Int} {t p y : Nat} {a : kY} (T : TB B t) (hp : p ≤ t) (ok : Ok a) (hy : y < 6) (h0 : Wd B t p (nmk y)) : IT B t fX3_readKnot (fX6_wantOne (iI (y : Int))) p a (p + 1) := by
  have hp1 := (tok_ok T hp).2.2.1
  have hp2 := (tok_ok T hp1).2.2.1
  have hp3 := (tok_ok T hp2).2.2.1
  have hp4 := (tok_ok T hp3).2.2.1
  have hp5 := (tok_ok T hp4).2.2.1
  have g1 : p + 1 ≤ te B t p := (tok_ok T hp).2.2.2.1 (by rw [h0.1]; omega)
  have g2 := te_ge T hp1
  have g3 := te_ge T hp2
  have g4 := te_ge T hp3
  have g5 := te_ge T hp4
  have hn := ok.n10
  have h01 := ok.2.1
  by_cases hf : 10 ≤ nn a
  · refine Or.inr ⟨p, hp, fun s K => ?_, fun s K => ?_⟩
    · refine ⟨s, ?_, Fr.rf, K.at⟩
      have hc : ¬ (iI (a 0 1) < (10 : Int32)) := by rw [iI_ofNat, iI_lt (by omega) (by omega) (by omega) (by omega)]; omega
      unfold fX3_readKnot fX4_isFull
      rw [(C_kt T hp K).1 y hy h0, bnd, if_neg (nneg (by omega)), K.2.2.1.2.1, if_neg hc, bnd, if_neg n10]
    · refine ⟨_, ?_, FT.g, Bf.g K⟩
      have hc : (10 : Int32) ≤ iI (a 0 1) := by rw [iI_ofNat, iI_le (by omega) (by omega) (by omega) (by omega)]; omega
      unfold fX6_wantOne fX6_wantOne_17
      rw [K.2.2.1.2.1, if_pos hc, if_pos (Or.inl rfl), bnd, kwr_same, up_eq, if_pos rfl]
  · have hc5 : iI (a 0 1) < (10 : Int32) := by rw [iI_ofNat, iI_lt (by omega) (by omega) (by omega) (by omega)]; omega
    have hc6 : ¬ ((10 : Int32) ≤ iI (a 0 1)) := by rw [iI_ofNat, iI_le (by omega) (by omega) (by omega) (by omega)]; omega
    have cl0 : ∀ s, KC B t p a s → ∃ s1, Fr fre s s1 ∧ KC B t (te B t p) a s1 ∧ fX3_readKnot s = ((fX3_takeNumber (3 : Int32) s1).bind fun q9 => (if q9.1 = 0 then (some ((0 : Int32), q9.2)) else ((fX4_addKnot 16 (iI (y : Int)) (q9.2.1 48 6) q9.2).bind fun q12 => (if q12.1 < 0 ∨ 10 ≤ q12.1.toNatClampNeg then none else ((fX3_takeWord 10 q12.2).bind fun q15 => (if q15.1 = 0 then (fX3_readKnot_84 (16 + 5 + q12.1.toNatClampNeg) q15.2) else ((fX3_takeNumber (99 : Int32) q15.2).bind fun q18 => (if q18.1 = 0 then (some ((0 : Int32), q18.2)) else ((some (kwr q18.2 (16 + 5 + q12.1.toNatClampNeg) 2 (q18.2.1 48 6))).bind fun s21 => (fX3_readKnot_84 (16 + 5 + q12.1.toNatClampNeg) s21)))))))))) := fun s K => by
      obtain ⟨φ, q1, q2, q3⟩ := C_tok T K.1 hp1 K.2.1.1
      refine ⟨_, Fr48, K.k48 ok q2, ?_⟩
      unfold fX3_readKnot fX4_isFull
      rw [(C_kt T hp K).1 y hy h0, bnd, if_neg (nneg (by omega)), K.2.2.1.2.1, if_pos hc5, bnd, if_pos rfl, q1, bnd]
    have rf0 : ∀ s, KR B t p a s → ∃ s1, FT s s1 ∧ KR B t (te B t p) a s1 ∧ fX6_wantOne (iI (y : Int)) s = ((fX6_wantNumber (0 : Int32) (3 : Int32) s1).bind fun q7 => ((fX6_mayWant (307058 : Int64) (0 : Int32) (99 : Int32) (50 : Int32) q7.2).bind fun q9 => f6L (iI (y : Int)) q7.1 q9.1 q9.2)) := fun s K => by
      obtain ⟨φ, ω, q1, q2, q3⟩ := R_adv T K.1 hp1 K.2.1.2.2.1
      refine ⟨_, FT.rs q3, K.rs q2 q3, ?_⟩
      unfold fX6_wantOne fX6_wantOne_17
      rw [K.2.2.1.2.1, if_neg hc6, if_pos (Or.inr rfl), bnd, es11 K.2.2.2, K.2.2.2, if_neg n10, q1, bnd]
      rfl
    by_cases h1 : Nm B t (te B t p) 3
    · have v1 := nv_ok T hp1 h1
      have ok1 : Ok (ak a y (nv B t (te B t p)) 50 1) := Ok_ak ok (by omega) (by omega) v1 (by omega) (Or.inr rfl)
      have hn1 : nn a < nn (ak a y (nv B t (te B t p)) 50 1) := by rw [nn_ak ok]; omega
      have cl : ∀ s, KC B t p a s → ∃ s3, Fr fre s s3 ∧ KC B t (te B t (te B t p)) (ak a y (nv B t (te B t p)) 50 1) s3 ∧ fX3_readKnot s = ((fX3_takeWord 10 s3).bind fun q15 => (if q15.1 = 0 then (fX3_readKnot_84 (16 + 5 + nn a) q15.2) else ((fX3_takeNumber (99 : Int32) q15.2).bind fun q18 => (if q18.1 = 0 then (some ((0 : Int32), q18.2)) else ((some (kwr q18.2 (16 + 5 + nn a) 2 (q18.2.1 48 6))).bind fun s21 => (fX3_readKnot_84 (16 + 5 + nn a) s21)))))) := fun s K => by
        obtain ⟨s1, c1, c2, c3⟩ := cl0 s K
        obtain ⟨s2, r1, r2, r3, r4⟩ := C_nt (z := 3) (v := 3) T hp1 ok (by omega) rfl c2 h1
        obtain ⟨s3, d1, d2, d3⟩ := S_addKnot (y := (y : Int)) (m := nv B t (te B t p)) r3.2.2 ok (by omega)
        refine ⟨s3, (c1.tr r2).tr (Fr16 d2), r3.yard d2 d3, ?_⟩
        rw [c3, r1, bnd, if_neg n10, r4, d1, bnd]
        simp only [cn_k (show nn a < 2147483648 by omega), if_neg (cl_k (show nn a < 10 by omega))]
      have rf : ∀ s, KR B t p a s → ∃ s2, FT s s2 ∧ KR B t (te B t (te B t p)) a s2 ∧ fX6_wantOne (iI (y : Int)) s = ((fX6_mayWant (307058 : Int64) (0 : Int32) (99 : Int32) (50 : Int32) s2).bind fun q9 => f6L (iI (y : Int)) (iI (nv B t (te B t p))) q9.1 q9.2) := fun s K => by
        obtain ⟨s1, c1, c2, c3⟩ := rf0 s K
        obtain ⟨s2, r1, r2, r3⟩ := R_nt (z := 3) (v := 3) T hp1 (by omega) rfl c2 h1
        exact ⟨s2, c1.tr r2, r3, by rw [c3, r1, bnd]⟩
      by_cases h2 : Wd B t (te B t (te B t p)) 10
      · by_cases h3 : Nm B t (te B t (te B t (te B t p))) 99
        · have v3 := nv_ok T hp3 h3
          have ok2 : Ok (ya (ak a y (nv B t (te B t p)) 50 1) (4 + nn a) 2 (nv B t (te B t (te B t (te B t p))))) := Ok_knot ok1 (by omega)
          have hn2 : nn a < nn (ya (ak a y (nv B t (te B t p)) 50 1) (4 + nn a) 2 (nv B t (te B t (te B t (te B t p))))) := by rw [nn_ya (by omega)]; exact hn1
          have cm : ∀ s, KC B t p a s → ∃ s5, Fr fre s s5 ∧ KC B t (te B t (te B t (te B t (te B t p)))) (ya (ak a y (nv B t (te B t p)) 50 1) (4 + nn a) 2 (nv B t (te B t (te B t (te B t p))))) s5 ∧ fX3_readKnot s = fX3_readKnot_84 (16 + 5 + nn a) s5 := fun s K => by
            obtain ⟨s3, c1, c2, c3⟩ := cl s K
            obtain ⟨s4, d1, d2, d3⟩ := C_wt T hp2 ok1 (by omega) c2 h2
            obtain ⟨s5, r1, r2, r3, r4⟩ := C_nt (z := 99) (v := 99) T hp3 ok1 (by omega) rfl d3 h3
            refine ⟨_, ((c1.tr d2).tr r2).tr (Fr16 (Fr.yk (k := nn a) (by omega))), r3.yard (Fr.yk (by omega)) (r3.2.2.knot (j := 2) (z := nv B t (te B t (te B t (te B t p)))) ok1 hn1), ?_⟩
            rw [c3, d1, bnd, if_neg n10, r1, bnd, if_neg n10, r4, bnd]
          have rm : ∀ s, KR B t p a s → ∃ s3, FT s s3 ∧ KR B t (te B t (te B t (te B t (te B t p)))) a s3 ∧ fX6_wantOne (iI (y : Int)) s = f6L (iI (y : Int)) (iI (nv B t (te B t p))) (iI (nv B t (te B t (te B t (te B t p))))) s3 := fun s K => by
            obtain ⟨s2, c1, c2, c3⟩ := rf s K
            obtain ⟨s3, d1, d2, d3⟩ := (R_mw T hp2 c2 h2).1 h3
            exact ⟨s3, c1.tr d2, d3, by rw [c3, d1, bnd]⟩
          by_cases h4 : Wd B t (te B t (te B t (te B t (te B t p)))) 11
          · refine Or.inl ⟨ak a y (nv B t (te B t p)) (nv B t (te B t (te B t (te B t p)))) 0, te B t (te B t (te B t (te B t (te B t p)))), Ok_ak ok (by omega) (by omega) v1 v3 (Or.inl rfl), ak_00, by omega, hp5, fun s K => ?_, fun s K => ?_⟩
            · obtain ⟨s5, c1, c2, c3⟩ := cm s K
              obtain ⟨s6, d1, d2, d3⟩ := (C_84 T hp4 ok2 hn2 c2).1 h4
              rw [ak_of] at d3
              exact ⟨s6, by rw [c3, d1], c1.tr d2, d3⟩
            · obtain ⟨s3, c1, c2, c3⟩ := rm s K
              obtain ⟨s4, d1, d2, d3⟩ := (R_L (y := (y : Int)) (m := nv B t (te B t p)) (o := nv B t (te B t (te B t (te B t p)))) T hp4 ok (by omega) c2).1 h4
              exact ⟨s4, by rw [c3, d1], c1.tr d2, d3⟩
          · refine Or.inl ⟨ak a y (nv B t (te B t p)) (nv B t (te B t (te B t (te B t p)))) 1, te B t (te B t (te B t (te B t p))), Ok_ak ok (by omega) (by omega) v1 v3 (Or.inr rfl), ak_00, by omega, hp4, fun s K => ?_, fun s K => ?_⟩
            · obtain ⟨s5, c1, c2, c3⟩ := cm s K
              obtain ⟨s6, d1, d2, d3⟩ := (C_84 T hp4 ok2 hn2 c2).2 h4
              rw [ak_of] at d3
              exact ⟨s6, by rw [c3, d1], c1.tr d2, d3⟩
            · obtain ⟨s3, c1, c2, c3⟩ := rm s K
              obtain ⟨s4, d1, d2, d3⟩ := (R_L (y := (y : Int)) (m := nv B t (te B t p)) (o := nv B t (te B t (te B t (te B t p)))) T hp4 ok (by omega) c2).2 h4
              exact ⟨s4, by rw [c3, d1], c1.tr d2, d3⟩
        · refine Or.inr ⟨te B t (te B t (te B t p)), hp3, fun s K => ?_, fun s K => ?_⟩
          · obtain ⟨s3, c1, c2, c3⟩ := cl s K
            obtain ⟨s4, d1, d2, d3⟩ := C_wt T hp2 ok1 (by omega) c2 h2
            refine ⟨s4, ?_, c1.tr d2, d3.at⟩
            rw [c3, d1, bnd, if_neg n10, C_nf (z := 99) (v := 99) T hp3 (by omega) rfl d3 h3, bnd, if_pos rfl]
          · obtain ⟨s2, c1, c2, c3⟩ := rf s K
            obtain ⟨u, s3, d1, d2, d3⟩ := (R_mw T hp2 c2 h2).2 h3
            exact ⟨s3, by rw [c3, d1, bnd, R_L0 d3.1], c1.tr d2, d3⟩
      · by_cases h4 : Wd B t (te B t (te B t p)) 11
        · refine Or.inl ⟨ak a y (nv B t (te B t p)) 50 0, te B t (te B t (te B t p)), Ok_ak ok (by omega) (by omega) v1 (by omega) (Or.inl rfl), ak_00, by omega, hp3, fun s K => ?_, fun s K => ?_⟩
          · obtain ⟨s3, c1, c2, c3⟩ := cl s K
            obtain ⟨s6, d1, d2, d3⟩ := (C_84 T hp2 ok1 hn1 c2).1 h4
            rw [ak_f] at d3
            exact ⟨s6, by rw [c3, C_wf T hp2 (by omega) c2 h2, bnd, if_pos rfl, d1], c1.tr d2, d3⟩
          · obtain ⟨s2, c1, c2, c3⟩ := rf s K
            obtain ⟨s4, d1, d2, d3⟩ := (R_L (y := (y : Int)) (m := nv B t (te B t p)) (o := 50) T hp2 ok (by omega) c2).1 h4
            exact ⟨s4, by rw [c3, R_mwf T hp2 c2 h2, bnd]; exact d1, c1.tr d2, d3⟩
        · refine Or.inl ⟨ak a y (nv B t (te B t p)) 50 1, te B t (te B t p), ok1, ak_00, by omega, hp2, fun s K => ?_, fun s K => ?_⟩
          · obtain ⟨s3, c1, c2, c3⟩ := cl s K
            obtain ⟨s6, d1, d2, d3⟩ := (C_84 T hp2 ok1 hn1 c2).2 h4
            rw [ak_f] at d3
            exact ⟨s6, by rw [c3, C_wf T hp2 (by omega) c2 h2, bnd, if_pos rfl, d1], c1.tr d2, d3⟩
          · obtain ⟨s2, c1, c2, c3⟩ := rf s K
            obtain ⟨s4, d1, d2, d3⟩ := (R_L (y := (y : Int)) (m := nv B t (te B t p)) (o := 50) T hp2 ok (by omega) c2).2 h4
            exact ⟨s4, by rw [c3, R_mwf T hp2 c2 h2, bnd]; exact d1, c1.tr d2, d3⟩
    · refine Or.inr ⟨te B t p, hp1, fun s K => ?_, fun s K => ?_⟩
      · obtain ⟨s1, c1, c2, c3⟩ := cl0 s K
        refine ⟨s1, ?_, c1, c2.at⟩
        rw [c3, C_nf (z := 3) (v := 3) T hp1 (by omega) rfl c2 h1, bnd, if_pos rfl]
      · obtain ⟨s1, c1, c2, c3⟩ := rf0 s K
        obtain ⟨u, s2, d1, d2, d3⟩ := R_nf (z := 3) (v := 3) T hp1 (by omega) rfl c2 h1
        exact ⟨s2, by rw [c3, d1, bnd, R_mw0 d3.1, bnd, R_L0 d3.1], c1.tr d2, d3⟩
