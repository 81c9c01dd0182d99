/-! words and numbers -/
theorem p27 : ∀ n : Nat, n ≤ 12 → (27 : Int) ^ n ≤ 150094635296999121 := by decide +kernel
theorem hH_rng {f : Nat → Int} : ∀ (n : Nat), (∀ j, j < n → 97 ≤ f j ∧ f j ≤ 122) → 0 ≤ hH f n ∧ hH f n < 27 ^ n
  | 0, _ => by unfold hH; exact ⟨by omega, by decide⟩
  | n + 1, h => by
    have ih := hH_rng n (fun j hj => h j (by omega))
    have hb := h n (by omega)
    have e : hH f (n + 1) = 27 * hH f n + f n - 96 := rfl
    have e2 : (27 : Int) ^ (n + 1) = 27 ^ n * 27 := Int.pow_succ 27 n
    omega
theorem hH_inj {f g : Nat → Int} : ∀ (n m : Nat), (∀ j, j < n → 97 ≤ f j ∧ f j ≤ 122) → (∀ j, j < m → 97 ≤ g j ∧ g j ≤ 122) → hH f n = hH g m → n = m ∧ ∀ j, j < n → f j = g j
  | 0, 0, _, _, _ => ⟨rfl, fun j hj => absurd hj (by omega)⟩
  | 0, m + 1, hf, hg, h => by
    have h1 := (hH_rng m (fun j hj => hg j (by omega))).1
    have h2 := hg m (by omega)
    have e : hH g (m + 1) = 27 * hH g m + g m - 96 := rfl
    have e0 : hH f 0 = 0 := rfl
    omega
  | n + 1, 0, hf, hg, h => by
    have h1 := (hH_rng n (fun j hj => hf j (by omega))).1
    have h2 := hf n (by omega)
    have e : hH f (n + 1) = 27 * hH f n + f n - 96 := rfl
    have e0 : hH g 0 = 0 := rfl
    omega
  | n + 1, m + 1, hf, hg, h => by
    have h1 := hf n (by omega)
    have h2 := hg m (by omega)
    have e : hH f (n + 1) = 27 * hH f n + f n - 96 := rfl
    have e0 : hH g (m + 1) = 27 * hH g m + g m - 96 := rfl
    have hd : f n = g m ∧ hH f n = hH g m := by omega
    obtain ⟨q1, q2⟩ := hH_inj n m (fun j hj => hf j (by omega)) (fun j hj => hg j (by omega)) hd.2
    subst q1
    refine ⟨rfl, fun j hj => ?_⟩
    by_cases ej : j = n
    · rw [ej]; exact hd.1
    · exact q2 j (by omega)
theorem hH_cong {f g : Nat → Int} : ∀ (n : Nat), (∀ j, j < n → f j = g j) → hH f n = hH g n
  | 0, _ => rfl
  | n + 1, h => by
    have e : hH f (n + 1) = 27 * hH f n + f n - 96 := rfl
    have e0 : hH g (n + 1) = 27 * hH g n + g n - 96 := rfl
    rw [e, e0, hH_cong n (fun j hj => h j (by omega)), h n (by omega)]
/-- byte i of word w; how long it is -/
def wb (w i : Nat) : Int := ((kByt.getD w []).getD i 0).toInt
def wz (w : Nat) : Nat := kLen.getD w 0
theorem wb_let : ∀ w : Nat, w < 12 → ∀ i : Nat, i < wz w → 97 ≤ wb w i ∧ wb w i ≤ 122 := by decide +kernel
theorem wz_le : ∀ w : Nat, w < 12 → wz w ≤ 6 := by decide +kernel
theorem wh_ne : ∀ w : Nat, w < 12 → ∀ v : Nat, v < 12 → hH (wb w) (wz w) = hH (wb v) (wz v) → w = v := by decide +kernel
/-- word w stands at p -/
def Wd (B : Nat → Int) (t p w : Nat) : Prop := tsr B t p = 1 ∧ tm B t p = wz w ∧ ∀ i, i < wz w → B (tq B t p + i) = wb w i
theorem Wd_ne {B : Nat → Int} {t p w v : Nat} (hw : w < 12) (hv : v < 12) (h1 : Wd B t p w) (h2 : Wd B t p v) : w = v := by
  refine wh_ne w hw v hv ?_
  have e : wz w = wz v := by rw [← h1.2.1, h2.2.1]
  rw [← e]
  exact hH_cong _ (fun j hj => by rw [← h1.2.2 j hj, h2.2.2 j (by omega)])
theorem tg_ts {B : Nat → Int} {t p : Nat} : (tsr B t p = 0 ∧ tg B t p = 0) ∨ (tsr B t p = 1 ∧ tg B t p = 1) ∨ (tsr B t p = 2 ∧ tg B t p = 2) ∨ (tsr B t p = 3 ∧ B (tq B t p) = 59 ∧ tg B t p = 3) ∨ (tsr B t p = 3 ∧ B (tq B t p) ≠ 59 ∧ tg B t p = 4) := by
  unfold tsr tg
  repeat' split
  all_goals omega
theorem tg_rng {B : Nat → Int} {t p : Nat} : 0 ≤ tg B t p ∧ tg B t p ≤ 4 ∧ 0 ≤ tsr B t p ∧ tsr B t p ≤ 3 := by
  have := @tg_ts B t p
  omega
theorem tg_eq {B : Nat → Int} {t p : Nat} {z : Int} (hz : 0 ≤ z ∧ z ≤ 4) : (iI (tg B t p) = iI z) = (tg B t p = z) := by
  have := @tg_rng B t p
  rw [iI_eq (by omega) (by omega) (by omega) (by omega)]
theorem tsr_eq {B : Nat → Int} {t p : Nat} {z : Int} (hz : 0 ≤ z ∧ z ≤ 4) : (iI (tsr B t p) = iI z) = (tsr B t p = z) := by
  have := @tg_rng B t p
  rw [iI_eq (by omega) (by omega) (by omega) (by omega)]
theorem wz_n {w : Nat} : Int32.ofNat (kLen.getD w 0) = iI ((wz w : Nat) : Int) := (iI_nI (wz w)).symm
theorem C_iw28 {s : kM} {B : Nat → Int} {t p w : Nat} (T : TB B t) (h : tcp s B t) (hp : p ≤ t) (h4 : s.1 48 4 = iI ((tq B t p : Nat) : Int)) (hw : w < 12) : ∀ (r i : Nat), i + r = wz w → ∀ fuel, r < fuel → ((∀ j, i ≤ j → j < wz w → B (tq B t p + j) = wb w j) → fX3_isWord_28 fuel w (iI i) s = some (1, s)) ∧ ((¬ ∀ j, i ≤ j → j < wz w → B (tq B t p + j) = wb w j) → fX3_isWord_28 fuel w (iI i) s = some (0, s)) := by
  intro r
  have h6 := wz_le w hw
  have ht := T.1
  have hq := (tok_ok T hp).2.1
  induction r with
  | zero =>
    intro i hi fuel hf
    obtain ⟨f, rfl⟩ : ∃ f, fuel = f + 1 := ⟨fuel - 1, by omega⟩
    refine ⟨fun _ => ?_, fun n => absurd (fun j h1 h2 => absurd h1 (by omega)) n⟩
    rw [fX3_isWord_28, wz_n, if_pos (le_t (by omega) (by omega))]
  | succ r ih =>
    intro i hi fuel hf
    obtain ⟨f, rfl⟩ : ∃ f, fuel = f + 1 := ⟨fuel - 1, by omega⟩
    have ix : iI ((tq B t p : Nat) : Int) + iI (i : Int) = iI ((tq B t p + i : Nat) : Int) := by rw [iI_add]; rfl
    have hcl : ¬ ((iI (i : Int)) < 0 ∨ kLen.getD w 0 ≤ i) := by
      have : kLen.getD w 0 = wz w := rfl
      rw [iI_ofNat, iI_lt (by omega) (by omega) (by omega) (by omega)]; omega
    have hr := T.rng (tq B t p + i)
    have hl := wb_let w hw i (by omega)
    have ew : (kByt.getD w []).getD i 0 = iI (wb w i) := (iI_toInt _).symm
    rw [fX3_isWord_28, wz_n, if_neg (le_f (by omega) (by omega)), h4, ix, C_by T h (by omega), bnd, cn_k (by omega), if_neg hcl, ew, ix_1]
    obtain ⟨i1, i2⟩ := ih (i + 1) (by omega) f (by omega)
    by_cases e : B (tq B t p + i) = wb w i
    · rw [if_pos (congrArg iI e)]
      refine ⟨fun q => i1 (fun j h1 h2 => q j (by omega) h2), fun q => i2 (fun q2 => q (fun j h1 h2 => ?_))⟩
      by_cases ej : j = i
      · rw [ej]; exact e
      · exact q2 j (by omega) h2
    · have hc : ¬ (iI (B (tq B t p + i)) = iI (wb w i)) := by rw [iI_eq (by omega) (by omega) (by omega) (by omega)]; exact e
      rw [if_neg hc]
      exact ⟨fun q => absurd (q i (by omega) (by omega)) e, fun _ => rfl⟩
theorem C_iw {s : kM} {B : Nat → Int} {t p w : Nat} (T : TB B t) (h : tcp s B t) (hp : p ≤ t) (hC : TC B t p (s.1 48)) (hw : w < 12) : (Wd B t p w → fX3_isWord w s = some (1, s)) ∧ (¬ Wd B t p w → fX3_isWord w s = some (0, s)) := by
  obtain ⟨h2, h3, h4, -⟩ := hC
  have ht := T.1
  have h6 := wz_le w hw
  obtain ⟨-, hq, hte, -⟩ := tok_ok T hp
  have hte' : tq B t p + tm B t p ≤ t := hte
  have hg := @tg_ts B t p
  have ed : iI ((te B t p : Nat) : Int) - iI ((tq B t p : Nat) : Int) = iI ((tm B t p : Nat) : Int) := by rw [iI_sub]; exact congrArg iI (by unfold te; omega)
  obtain ⟨i1, i2⟩ := C_iw28 T h hp h4 hw (wz w) 0 (by omega) kfu (by unfold kfu; omega)
  rw [iI_n0] at i1 i2
  unfold fX3_isWord
  rw [h3, h2, h4, ed, wz_n]
  by_cases e1 : tsr B t p = 1
  · have hc : iI (tg B t p) = 1 := by rw [show tg B t p = 1 by omega]; rfl
    rw [if_pos hc]
    by_cases e2 : tm B t p = wz w
    · rw [if_pos (by rw [e2])]
      refine ⟨fun q => i1 (fun j _ h2 => q.2.2 j h2), fun q => i2 (fun q2 => q ⟨e1, e2, fun j hj => q2 j (by omega) hj⟩)⟩
    · have hc2 : ¬ (iI ((tm B t p : Nat) : Int) = iI ((wz w : Nat) : Int)) := by rw [iI_eq (by omega) (by omega) (by omega) (by omega)]; omega
      rw [if_neg hc2]
      exact ⟨fun q => absurd q.2.1 e2, fun _ => rfl⟩
  · have hc : ¬ (iI (tg B t p) = 1) := by rw [show (1 : Int32) = iI 1 from rfl, tg_eq (by omega)]; omega
    rw [if_neg hc]
    exact ⟨fun q => absurd q.1 e1, fun _ => rfl⟩
theorem C_tok' {s : kM} {B : Nat → Int} {t p : Nat} {φ0 : Nat → Int32} (T : TB B t) (h : tcp s B t) (hp : p ≤ t) (h2 : φ0 2 = iI (p : Int)) : ∃ φ, fX3_readToken (kset s 48 φ0) = some (kset s 48 φ) ∧ TC B t p φ ∧ φ 6 = φ0 6 := by
  obtain ⟨φ, q1, q2, q3⟩ := C_tok (s := kset s 48 φ0) T h.k48 hp (by rw [kset_same]; exact h2)
  rw [kset_kset] at q1
  rw [kset_same] at q3
  exact ⟨φ, q1, q2, q3⟩
/-- a number that may be stands at p; what it is worth -/
def Nm (B : Nat → Int) (t p : Nat) (z : Int) : Prop := tsr B t p = 2 ∧ dcv B (tq B t p) (tm B t p) ≤ z
def nv (B : Nat → Int) (t p : Nat) : Int := dcv B (tq B t p) (tm B t p)
theorem nv_ok {B : Nat → Int} {t p : Nat} {z : Int} (T : TB B t) (hp : p ≤ t) (h : Nm B t p z) : 0 ≤ nv B t p ∧ nv B t p ≤ z := ⟨(dv_ok _ ((tok_ok T hp).2.2.2.2.1 h.1)).1, h.2⟩
theorem C_tn {s : kM} {B : Nat → Int} {t p : Nat} {z : Int} {v : Int32} (T : TB B t) (h : tcp s B t) (hp : p ≤ t) (hC : TC B t p (s.1 48)) (hz : -1 ≤ z ∧ z ≤ 999) (hv : v = iI z) : (Nm B t p z → ∃ φ, fX3_takeNumber v s = some (1, kset s 48 φ) ∧ TC B t (te B t p) φ ∧ φ 6 = iI (nv B t p)) ∧ (¬ Nm B t p z → fX3_takeNumber v s = some (0, s)) := by
  obtain ⟨h2, h3, h4, h5⟩ := hC
  have hte := (tok_ok T hp).2.2.1
  have hg := @tg_ts B t p
  subst hv
  unfold fX3_takeNumber
  rw [h3]
  by_cases e1 : tsr B t p = 2
  · have hc : iI (tg B t p) = 2 := by rw [show tg B t p = 2 by omega]; rfl
    have hd := dv_ok (B := B) _ ((tok_ok T hp).2.2.2.2.1 e1)
    rw [if_pos hc, h5 e1]
    by_cases e2 : dcv B (tq B t p) (tm B t p) ≤ z
    · have hc2 : iI (dcv B (tq B t p) (tm B t p)) ≤ iI z := by rw [iI_le (by omega) (by omega) (by omega) (by omega)]; exact e2
      refine ⟨fun _ => ?_, fun q => absurd ⟨e1, e2⟩ q⟩
      obtain ⟨φ, q1, q2, q3⟩ := C_tok' (s := s) (φ0 := va_up (s.1 48) 6 (iI (dcv B (tq B t p) (tm B t p)))) T h hte (by rw [up_ne _ _ (by omega)]; exact h2)
      refine ⟨φ, ?_, q2, by rw [q3, up_eq]; rfl⟩
      rw [if_pos hc2, bnd, kwr, q1, bnd]
    · have hc2 : ¬ (iI (dcv B (tq B t p) (tm B t p)) ≤ iI z) := by rw [iI_le (by omega) (by omega) (by omega) (by omega)]; exact e2
      rw [if_neg hc2]
      exact ⟨fun q => absurd q.2 e2, fun _ => rfl⟩
  · have hc : ¬ (iI (tg B t p) = 2) := by rw [show (2 : Int32) = iI 2 from rfl, tg_eq (by omega)]; omega
    rw [if_neg hc]
    exact ⟨fun q => absurd q.1 e1, fun _ => rfl⟩
-- the reference
theorem R_iw {s : kM} {B : Nat → Int} {t p w : Nat} {v : Int64} (T : TB B t) (hp : p ≤ t) (hR : TR B t p (s.1 59) (s.2 59)) (h12 : w < 12) (hv : v = iL (hH (wb w) (wz w))) : (Wd B t p w → fX6_isWord v s = some (1, s)) ∧ (¬ Wd B t p w → fX6_isWord v s = some (0, s)) := by
  obtain ⟨h6, h7, h8, h9, -⟩ := hR
  have hz := wz_le w h12
  have hwr := hH_rng (f := wb w) (wz w) (wb_let w h12)
  have hp6 := p27 (wz w) (by omega)
  subst hv
  unfold fX6_isWord
  rw [h6]
  by_cases e1 : tsr B t p = 1
  · have hc : iI (tsr B t p) = 1 := by rw [e1]; rfl
    have hl := (tok_ok T hp).2.2.2.2.2 e1
    rw [if_pos hc, h9 e1]
    simp only [eq0]
    have key : (iL (hw B (tq B t p) (tm B t p)) = iL (hH (wb w) (wz w))) ↔ Wd B t p w := by
      have hr : -1 ≤ hw B (tq B t p) (tm B t p) ∧ hw B (tq B t p) (tm B t p) ≤ 150094635296999121 := by
        unfold hw
        by_cases e : tm B t p ≤ 12
        · have h1 := hH_rng (f := fun i => B (tq B t p + i)) (tm B t p) hl
          have h2 := p27 (tm B t p) e
          rw [if_pos e]; omega
        · rw [if_neg e]; omega
      refine ⟨fun q => ?_, fun q => ?_⟩
      · have q2 : hw B (tq B t p) (tm B t p) = hH (wb w) (wz w) := by
          have := congrArg Int64.toInt q
          rw [iL_T (by omega) (by omega), iL_T (by omega) (by omega)] at this
          exact this
        unfold hw at q2
        by_cases e : tm B t p ≤ 12
        · rw [if_pos e] at q2
          obtain ⟨r1, r2⟩ := hH_inj (f := fun i => B (tq B t p + i)) (g := wb w) (tm B t p) (wz w) hl (wb_let w h12) q2
          exact ⟨e1, r1, fun i hi => r2 i (by omega)⟩
        · rw [if_neg e] at q2; omega
      · unfold hw
        rw [if_pos (by rw [q.2.1]; omega), q.2.1, hH_cong (f := fun i => B (tq B t p + i)) (g := wb w) (wz w) q.2.2]
    refine ⟨fun q => ?_, fun q => ?_⟩
    · rw [if_pos (key.mpr q)]
    · rw [if_neg (fun r => q (key.mp r))]
  · have hc : ¬ (iI (tsr B t p) = 1) := by rw [show (1 : Int32) = iI 1 from rfl, tsr_eq (by omega)]; exact e1
    rw [if_neg hc]
    exact ⟨fun q => absurd q.1 e1, fun _ => rfl⟩
theorem R_my {s : kM} {B : Nat → Int} {t p w : Nat} {v : Int64} (T : TB B t) (h : trp s B t) (hp : p ≤ t) (hR : TR B t p (s.1 59) (s.2 59)) (hg : s.1 59 11 = 1) (hw : w < 12) (hv : v = iL (hH (wb w) (wz w))) : (Wd B t p w → ∃ φ ω, fX6_may v s = some (1, rs s φ ω) ∧ TR B t (te B t p) φ ω ∧ ∀ j, j < 6 ∨ 10 < j → φ j = s.1 59 j) ∧ (¬ Wd B t p w → fX6_may v s = some (0, s)) := by
  obtain ⟨i1, i2⟩ := R_iw T hp hR hw hv
  have hte := (tok_ok T hp).2.2.1
  unfold fX6_may
  rw [hg, if_neg (show ¬ (1 : Int32) = 0 by decide)]
  refine ⟨fun q => ?_, fun q => ?_⟩
  · obtain ⟨φ, ω, q1, q2, q3⟩ := R_adv T h hte hR.2.2.1
    refine ⟨φ, ω, ?_, q2, q3⟩
    rw [i1 q, bnd, if_neg (show ¬ (1 : Int32) = 0 by decide)]
    unfold fX6_may_20
    rw [if_neg (show ¬ (1 : Int32) = 0 by decide), q1, bnd, if_pos (Or.inr rfl)]
  · rw [i2 q, bnd, if_pos rfl]
    unfold fX6_may_19 fX6_may_20
    rw [if_pos rfl, if_pos (Or.inl rfl)]
theorem R_my0 {s : kM} {v : Int64} (hg : s.1 59 11 = 0) : fX6_may v s = some (0, s) := by
  unfold fX6_may fX6_may_19 fX6_may_20
  rw [if_pos hg, if_pos rfl, if_pos (Or.inl rfl)]
theorem R_wn {s : kM} {B : Nat → Int} {t p : Nat} {z : Int} {v : Int32} (T : TB B t) (h : trp s B t) (hp : p ≤ t) (hR : TR B t p (s.1 59) (s.2 59)) (hg : s.1 59 11 = 1) (hz : -1 ≤ z ∧ z ≤ 999) (hv : v = iI z) : (Nm B t p z → ∃ φ ω, fX6_wantNumber 0 v s = some (iI (nv B t p), rs s φ ω) ∧ TR B t (te B t p) φ ω ∧ ∀ j, j < 6 ∨ 10 < j → φ j = s.1 59 j) ∧ (¬ Nm B t p z → ∃ u, fX6_wantNumber 0 v s = some (u, kwr s 59 11 0)) := by
  have hte := (tok_ok T hp).2.2.1
  subst hv
  have no : ∀ u, fX6_wantNumber_34 u s = some (u, kwr s 59 11 0) := fun u => by
    unfold fX6_wantNumber_34 fX6_wantNumber_35
    rw [if_pos (Or.inl rfl), bnd, kwr_same, up_eq, if_pos rfl]
  unfold fX6_wantNumber
  rw [bnd, hg, if_neg (show ¬ (1 : Int32) = 0 by decide), hR.1]
  by_cases e1 : tsr B t p = 2
  · have hc : iI (tsr B t p) = 2 := by rw [e1]; rfl
    have hd := dv_ok (B := B) _ ((tok_ok T hp).2.2.2.2.1 e1)
    rw [if_pos hc, hR.2.2.2.2.1 e1]
    by_cases e2 : dcv B (tq B t p) (tm B t p) ≤ z
    · have hc2 : ¬ (iI (drv B (tq B t p) (tm B t p)) < 0 ∨ iI z < iI (drv B (tq B t p) (tm B t p))) := by
        rw [iI_ofNat, iI_lt (by omega) (by omega) (by omega) (by omega), iI_lt (by omega) (by omega) (by omega) (by omega)]; omega
      refine ⟨fun _ => ?_, fun q => absurd ⟨e1, e2⟩ q⟩
      have es : kwr s 59 11 1 = s := by
        rw [kwr]
        have : va_up (s.1 59) 11 1 = s.1 59 := by
          funext j
          by_cases ej : j = 11
          · rw [ej, up_eq, hg]
          · rw [up_ne _ _ ej]
        rw [this, kset_self]
      obtain ⟨φ, ω, q1, q2, q3⟩ := R_adv T h hte hR.2.2.1
      refine ⟨φ, ω, ?_, q2, q3⟩
      rw [R_in_t hc2, bnd, if_neg (show ¬ (1 : Int32) = 0 by decide)]
      unfold fX6_wantNumber_35
      rw [if_pos (Or.inr rfl), bnd]
      simp only [es, hg, i10, itF, q1, bnd]
      rw [show drv B (tq B t p) (tm B t p) = nv B t p by unfold nv; omega]
    · have hc2 : iI (drv B (tq B t p) (tm B t p)) < 0 ∨ iI z < iI (drv B (tq B t p) (tm B t p)) := by
        rw [iI_ofNat, iI_lt (by omega) (by omega) (by omega) (by omega), iI_lt (by omega) (by omega) (by omega) (by omega)]; omega
      refine ⟨fun q => absurd q.2 e2, fun _ => ⟨iI (drv B (tq B t p) (tm B t p)), ?_⟩⟩
      rw [R_in_f hc2, bnd, if_pos rfl, no]
  · have hc : ¬ (iI (tsr B t p) = 2) := by rw [show (2 : Int32) = iI 2 from rfl, tsr_eq (by omega)]; exact e1
    rw [if_neg hc, no]
    exact ⟨fun q => absurd q.1 e1, fun _ => ⟨_, rfl⟩⟩
