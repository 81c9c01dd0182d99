/-! the tape -/
def byt (v : Int32) (r : Nat) : Int32 := (v >>> (((8 : Int32) * iI (r : Int)) &&& 31)) &&& (255 : Int32)
theorem and255 (y : Int32) : ∃ z : Nat, z ≤ 255 ∧ y &&& 255 = iI (z : Int) := by
  refine ⟨(y &&& 255).toBitVec.toNat, ?_, ?_⟩
  · rw [Int32.toBitVec_and, BitVec.toNat_and]
    exact Nat.le_trans Nat.and_le_right (by decide)
  · rw [iI_nI]
    apply Int32.toBitVec_inj.mp
    show _ = BitVec.ofNat 32 _
    rw [BitVec.ofNat_toNat, BitVec.setWidth_eq]
theorem bv_sh (x : BitVec 32) (s : Nat) (hs : s ≤ 24) : (x >>> s) &&& (255#32) = (x.sshiftRight s) &&& (255#32) := by
  apply BitVec.eq_of_getLsbD_eq
  intro i hi
  rw [BitVec.getLsbD_and, BitVec.getLsbD_and, BitVec.getLsbD_ushiftRight, BitVec.getLsbD_sshiftRight]
  by_cases h8 : i < 8
  · rw [if_pos (by omega)]
    have h32 : ¬ (32 ≤ i) := by omega
    simp [h32]
  · have : (255#32).getLsbD i = false := by
      rw [show (255#32) = BitVec.ofNat 32 255 from rfl, BitVec.getLsbD_ofNat]
      rw [Nat.testBit_lt_two_pow (Nat.lt_of_lt_of_le (show 255 < 2 ^ 8 by decide) (Nat.pow_le_pow_right (by omega) (by omega)))]
      simp
    rw [this]
    simp
theorem byt_eq (v : Int32) : ∀ r : Nat, r < 4 → ((v.toUInt32 >>> (((8 : Int32) * iI (r : Int)).toUInt32 &&& Int32.toUInt32 31)).toInt32) &&& (255 : Int32) = byt v r := by
  intro r hr
  have h4 : r = 0 ∨ r = 1 ∨ r = 2 ∨ r = 3 := by omega
  unfold byt
  rcases h4 with rfl | rfl | rfl | rfl
  · apply Int32.toBitVec_inj.mp
    exact bv_sh v.toBitVec 0 (by omega)
  · apply Int32.toBitVec_inj.mp
    exact bv_sh v.toBitVec 8 (by omega)
  · apply Int32.toBitVec_inj.mp
    exact bv_sh v.toBitVec 16 (by omega)
  · apply Int32.toBitVec_inj.mp
    exact bv_sh v.toBitVec 24 (by omega)
theorem CW.byte {st : kM} {a b : kY} {x : uX} {l : uL} {v : Int32} {t : Nat} (w : Wok a b x) (C : CW st a b x l) : CW (kwr st 47 t v) a b (xu x 2 t v) l := by
  obtain ⟨c1, c2, c3, c4, c5, c6, c7⟩ := C
  have ne : ∀ c, c ≠ 47 → (kwr st 47 t v).1 c = st.1 c := fun c h2 => kwr_ne _ _ _ h2
  refine ⟨c1.cong w.1.1 (fun c hc => ne c (by omega)), fun e => ?_, ?_, ?_, ?_, ?_, ?_⟩
  · rw [xu_ne (by omega)] at e
    have ok : Ok b := by
      rcases w.2.1 with q | q
      · rw [q] at e; exact absurd e (by decide)
      · exact q.2.1
    exact (c2 e).cong ok (fun b hb => ne b (by omega))
  · rw [ne _ (by omega), xu_ne (by omega)]; exact c3
  · rw [ne _ (by omega), xu_ne (by omega)]; exact c4
  · intro j hj
    rw [kwr_same]
    unfold xu
    by_cases e : j = t
    · subst e; rw [up_eq, if_pos ⟨rfl, rfl⟩]
    · rw [up_ne _ _ e, if_neg (by omega)]; exact c5 j hj
  · intro i hi; rw [ne _ (by omega), xu_ne (by omega), xu_ne (by omega)]; exact c6 i hi
  · rw [ne _ (by omega), xu_ne (by omega)]; exact c7
theorem RW.byte {s : kM} {a b : kY} {x : uX} {l : uL} {v : Int32} {t : Nat} (R : RW s a b x l) : RW (kwr s 64 t v) a b (xu x 2 t v) l := by
  obtain ⟨c1, c2, c3, c4, c5, c6, c7⟩ := R
  have ne : ∀ c, c ≠ 64 → (kwr s 64 t v).1 c = s.1 c := fun c h2 => kwr_ne _ _ _ h2
  refine ⟨?_, fun e => ?_, ?_, ?_, ?_, ?_, ?_⟩
  · rw [ne _ (by omega)]; exact c1
  · rw [xu_ne (by omega)] at e; rw [ne _ (by omega)]; exact c2 e
  · rw [ne _ (by omega), xu_ne (by omega)]; exact c3
  · rw [ne _ (by omega), xu_ne (by omega)]; exact c4
  · intro j hj
    rw [kwr_same]
    unfold xu
    by_cases e : j = t
    · subst e; rw [up_eq, if_pos ⟨rfl, rfl⟩]
    · rw [up_ne _ _ e, if_neg (by omega)]; exact c5 j hj
  · rw [ne _ (by omega), ne _ (by omega), xu_ne (by omega), xu_ne (by omega)]; exact c6
  · rw [ne _ (by omega), xu_ne (by omega)]; exact c7
theorem Wok_byte {a b : kY} {x : uX} {t z : Nat} {v : Int32} (w : Wok a b x) (hz : z ≤ 255) (hv : v = iI (z : Int)) : Wok a b (xu x 2 t v) := by
  refine ⟨w.1, by rw [xu_ne (by omega)]; exact w.2.1, by rw [xu_ne (by omega)]; exact w.2.2.1, fun j hj => ?_, by rw [xu_ne (by omega), xu_ne (by omega)]; exact w.2.2.2.2⟩
  unfold xu
  by_cases e : j = t
  · rw [if_pos ⟨rfl, e⟩]; exact ⟨z, hz, hv⟩
  · rw [if_neg (by omega)]; exact w.2.2.2.1 j hj
def fdx (v : Int32) : Nat → uX → Nat → uX
  | 0, x, _ => x
  | r + 1, x, t => fdx v r (xu (xu x 2 t (byt v r)) 1 0 (iI ((t + 1 : Nat) : Int))) (t + 1)
theorem Wok_fdx {a b : kY} {v : Int32} : ∀ (r : Nat) {x : uX} {t : Nat}, Wok a b x → t + r ≤ 120 → Wok a b (fdx v r x t)
  | 0, _, _, w, _ => w
  | r + 1, x, t, w, h => by
    obtain ⟨z, z1, z2⟩ := and255 (v >>> (((8 : Int32) * iI (r : Int)) &&& 31))
    exact Wok_fdx r (Wok_len (Wok_byte (t := t) w z1 z2) (by omega)) (by omega)
theorem C_feed {a b : kY} {l : uL} {v : Int32} : ∀ (r : Nat), r ≤ 4 → ∀ fuel, r < fuel → ∀ (x : uX) (t : Nat) (s : kM), x 1 0 = iI (t : Int) → t + r ≤ 120 → Wok a b x → CW s a b x l → ∃ s', fX5_feed_41 fuel v (iI ((r : Int) - 1)) s = some (iI ((t + r : Nat) : Int), s') ∧ CW s' a b (fdx v r x t) l ∧ Hi s s' := by
  intro r
  induction r with
  | zero =>
    intro h4 fuel hf x t s hx ht w C
    obtain ⟨f, rfl⟩ : ∃ f, fuel = f + 1 := ⟨fuel - 1, by omega⟩
    refine ⟨s, ?_, C, Hi.rf⟩
    have hc : iI (((0 : Nat) : Int) - 1) < 0 := by rw [iI_ofNat, iI_lt (by omega) (by omega) (by omega) (by omega)]; omega
    unfold fX5_feed_41
    rw [if_pos hc, C.2.2.2.1, hx]
    rfl
  | succ r ih =>
    intro h4 fuel hf x t s hx ht w C
    obtain ⟨f, rfl⟩ : ∃ f, fuel = f + 1 := ⟨fuel - 1, by omega⟩
    have hc : ¬ (iI (((r + 1 : Nat) : Int) - 1) < 0) := by rw [iI_ofNat, iI_lt (by omega) (by omega) (by omega) (by omega)]; omega
    have er : iI (((r + 1 : Nat) : Int) - 1) = iI (r : Int) := congrArg iI (by omega)
    have er2 : iI (r : Int) + (-1 : Int32) = iI ((r : Int) - 1) := by rw [m1, iI_add]; exact congrArg iI (by omega)
    have hl : s.1 46 1 = iI (t : Int) := by rw [C.2.2.2.1]; exact hx
    have ha : fX2_add (byt v r) s = some (kwr (kwr s 47 t (byt v r)) 46 1 (iI ((t + 1 : Nat) : Int))) := by
      unfold fX2_add
      rw [hl, cn_k (by omega), if_neg (by rw [iI_ofNat, iI_le (by omega) (by omega) (by omega) (by omega)]; omega), if_neg (by rw [iI_ofNat, iI_lt (by omega) (by omega) (by omega) (by omega)]; omega), bnd, kwr_ne _ _ _ (by omega), hl, bnd, iI_ofNat, iI_add]
      rfl
    obtain ⟨z, z1, z2⟩ := and255 (v >>> (((8 : Int32) * iI (r : Int)) &&& 31))
    have wb : Wok a b (xu x 2 t (byt v r)) := Wok_byte w z1 z2
    have C2 := (C.byte (t := t) (v := byt v r) w).len (v := iI ((t + 1 : Nat) : Int)) wb
    obtain ⟨s3, t1, t2, t3⟩ := ih (by omega) f (by omega) _ (t + 1) _ xu_eq (by omega) (Wok_len wb (by omega)) C2
    refine ⟨s3, ?_, t2, ((Hi.wr (by omega)).tr (Hi.wr (by omega))).tr t3⟩
    unfold fX5_feed_41
    rw [if_neg hc, er, byt_eq v r (by omega), ha, bnd, er2, t1]
    congr 3
    omega
theorem R_feed {a b : kY} {l : uL} {v : Int32} : ∀ (r : Nat), r ≤ 4 → ∀ fuel, r < fuel → ∀ (x : uX) (t : Nat) (s : kM), x 1 0 = iI (t : Int) → t + r ≤ 120 → RW s a b x l → ∃ s', fX6_feed_38 fuel v (iI ((r : Int) - 1)) s = some (iI ((t + r : Nat) : Int), s') ∧ RW s' a b (fdx v r x t) l ∧ Lo s s' := by
  intro r
  induction r with
  | zero =>
    intro h4 fuel hf x t s hx ht C
    obtain ⟨f, rfl⟩ : ∃ f, fuel = f + 1 := ⟨fuel - 1, by omega⟩
    refine ⟨s, ?_, C, Lo.rf⟩
    have hc : iI (((0 : Nat) : Int) - 1) < 0 := by rw [iI_ofNat, iI_lt (by omega) (by omega) (by omega) (by omega)]; omega
    unfold fX6_feed_38
    rw [if_pos hc, C.2.2.2.1, hx]
    rfl
  | succ r ih =>
    intro h4 fuel hf x t s hx ht C
    obtain ⟨f, rfl⟩ : ∃ f, fuel = f + 1 := ⟨fuel - 1, by omega⟩
    have hc : ¬ (iI (((r + 1 : Nat) : Int) - 1) < 0) := by rw [iI_ofNat, iI_lt (by omega) (by omega) (by omega) (by omega)]; omega
    have er : iI (((r + 1 : Nat) : Int) - 1) = iI (r : Int) := congrArg iI (by omega)
    have er2 : iI (r : Int) + (-1 : Int32) = iI ((r : Int) - 1) := by rw [m1, iI_add]; exact congrArg iI (by omega)
    have hl : s.1 59 5 = iI (t : Int) := by rw [C.2.2.2.1]; exact hx
    have hcl : ¬ ((iI (t : Int)) < 0 ∨ 120 ≤ t) := by rw [iI_ofNat, iI_lt (by omega) (by omega) (by omega) (by omega)]; omega
    have e9 : (v >>> (((8 : Int32) * iI (r : Int)) &&& 31)) &&& (255 : Int32) = byt v r := rfl
    have ea : iI (t : Int) + 1 = iI ((t + 1 : Nat) : Int) := by rw [iI_ofNat, iI_add]; rfl
    have C2 := (C.byte (t := t) (v := byt v r)).len (v := iI ((t + 1 : Nat) : Int))
    obtain ⟨s3, t1, t2, t3⟩ := ih (by omega) f (by omega) _ (t + 1) _ xu_eq (by omega) C2
    refine ⟨s3, ?_, t2, ((Lo.wr (by omega)).tr (Lo.wr (by omega))).tr t3⟩
    unfold fX6_feed_38
    rw [if_neg hc, er, hl, cn_k (by omega), if_neg hcl, bnd, kwr_ne _ _ _ (by omega), hl, bnd, e9, er2, ea, t1]
    congr 3
    omega
theorem st_feed : sp_feed Iv := by
  intro st hI v1 v2
  obtain ⟨a, b, x, l, w, C, R⟩ := hI
  by_cases h1 : v2 < 1 ∨ 4 < v2
  · exact tl1 w C R (by simp only [fX5_feed, C_in_f h1, bnd, i00, i10, i01, i11, itT, itF, or_true, true_or, or_false, false_or, bet]) (fun s hs => by simp only [fX6_feed, R_in_f h1, bnd, i00, i10, i01, i11, itT, itF, or_true, true_or, or_false, false_or, bet])
  obtain ⟨n, hn1, hn, rfl⟩ := inN1 4 rfl (by omega) h1
  obtain ⟨t, ht, hx⟩ := w.2.2.1
  have c1 : (iI (t : Int) ≤ (120 : Int32) - iI n) = (t + n ≤ 120) := by
    rw [iI_ofNat, iI_sub, iI_le (by omega) (by omega) (by omega) (by omega)]
    exact propext ⟨fun h => by omega, fun h => by omega⟩
  have c2 : (iI (t : Int) + iI n ≤ (120 : Int32)) = (t + n ≤ 120) := by
    rw [iI_ofNat, iI_add, iI_le (by omega) (by omega) (by omega) (by omega)]
    exact propext ⟨fun h => by omega, fun h => by omega⟩
  have e1 : iI (n : Int) - 1 = iI ((n : Int) - 1) := by rw [iI_ofNat, iI_sub]
  by_cases h2 : t + n ≤ 120
  · refine join (l' := l) (iI ((t + n : Nat) : Int)) R (Wok_fdx (v := v1) n w h2) ?_ (fun s hs => ?_)
    · obtain ⟨s1, q1, q2, q3⟩ := C_feed (v := v1) n (by omega) kfu (by unfold kfu; omega) x t st hx h2 w C
      refine ⟨s1, ?_, q2, q3⟩
      simp only [fX5_feed, C_in_t h1, bnd, i00, i10, i01, i11, itT, itF, or_true, true_or, or_false, false_or, bet, C.2.2.2.1, hx, c1, if_pos h2, e1]
      exact q1
    · obtain ⟨s1, q1, q2, q3⟩ := R_feed (v := v1) n (by omega) kfu (by unfold kfu; omega) x t s hx h2 hs
      refine ⟨s1, ?_, q2, q3⟩
      simp only [fX6_feed, R_in_t h1, bnd, i00, i10, i01, i11, itT, itF, or_true, true_or, or_false, false_or, bet, hs.2.2.2.1, hx, c2, if_pos h2, e1]
      exact q1
  · exact tl2 w C R (by simp only [fX5_feed, C_in_t h1, bnd, i00, i10, i01, i11, itT, itF, or_true, true_or, or_false, false_or, bet, C.2.2.2.1, hx, c1, if_neg h2]) (fun s hs => by simp only [fX6_feed, R_in_t h1, bnd, i00, i10, i01, i11, itT, itF, or_true, true_or, or_false, false_or, bet, hs.2.2.2.1, hx, c2, if_neg h2])
