/-! writing and laying -/
theorem se_le {n : Nat} (x : BitVec n) {v : Nat} (h : v ≤ n) : x.signExtend v = x.setWidth v := by
  apply BitVec.eq_of_getLsbD_eq
  intro i hi
  rw [BitVec.getLsbD_signExtend, BitVec.getLsbD_setWidth, if_pos (by omega)]
theorem bv_n8 (x : BitVec 64) : (((x.setWidth 32).setWidth 8).signExtend 32).signExtend 64 = (x <<< 56).sshiftRight 56 := by
  apply BitVec.eq_of_getLsbD_eq
  intro i hi
  have m8 : ((x.setWidth 32).setWidth 8).msb = x.getLsbD 7 := by rw [BitVec.msb_eq_getLsbD_last]; simp
  have m32 : (((x.setWidth 32).setWidth 8).signExtend 32).msb = x.getLsbD 7 := by rw [BitVec.msb_eq_getLsbD_last, BitVec.getLsbD_signExtend, if_neg (by omega), m8]; simp
  have mr : (x <<< 56).msb = x.getLsbD 7 := by rw [BitVec.msb_eq_getLsbD_last]; simp
  have h64 : ¬ (64 ≤ i) := by omega
  rw [BitVec.getLsbD_signExtend, BitVec.getLsbD_sshiftRight, m32, mr]
  by_cases h8 : i < 8
  · rw [if_pos (show i < 32 by omega), BitVec.getLsbD_signExtend, if_pos h8, if_pos (show 56 + i < 64 by omega), BitVec.getLsbD_shiftLeft, show 56 + i - 56 = i by omega]
    simp [h8, hi, h64, show i < 32 by omega, show 56 + i < 64 by omega]
  · rw [if_neg (show ¬ 56 + i < 64 by omega)]
    by_cases h32 : i < 32
    · rw [if_pos h32, BitVec.getLsbD_signExtend, if_neg h8, m8]
      simp [h32, hi, h64]
    · rw [if_neg h32]
      simp [hi, h64]
theorem bv_n16 (x : BitVec 64) : (((x.setWidth 32).setWidth 16).signExtend 32).signExtend 64 = (x <<< 48).sshiftRight 48 := by
  apply BitVec.eq_of_getLsbD_eq
  intro i hi
  have m8 : ((x.setWidth 32).setWidth 16).msb = x.getLsbD 15 := by rw [BitVec.msb_eq_getLsbD_last]; simp
  have m32 : (((x.setWidth 32).setWidth 16).signExtend 32).msb = x.getLsbD 15 := by rw [BitVec.msb_eq_getLsbD_last, BitVec.getLsbD_signExtend, if_neg (by omega), m8]; simp
  have mr : (x <<< 48).msb = x.getLsbD 15 := by rw [BitVec.msb_eq_getLsbD_last]; simp
  have h64 : ¬ (64 ≤ i) := by omega
  rw [BitVec.getLsbD_signExtend, BitVec.getLsbD_sshiftRight, m32, mr]
  by_cases h8 : i < 16
  · rw [if_pos (show i < 32 by omega), BitVec.getLsbD_signExtend, if_pos h8, if_pos (show 48 + i < 64 by omega), BitVec.getLsbD_shiftLeft, show 48 + i - 48 = i by omega]
    simp [h8, hi, h64, show i < 32 by omega, show 48 + i < 64 by omega]
  · rw [if_neg (show ¬ 48 + i < 64 by omega)]
    by_cases h32 : i < 32
    · rw [if_pos h32, BitVec.getLsbD_signExtend, if_neg h8, m8]
      simp [h32, hi, h64]
    · rw [if_neg h32]
      simp [hi, h64]
theorem nar8 (v : Int64) : ((v.toInt32).toInt8.toInt32).toInt64 = (v <<< ((56 : Int32).toInt64 &&& 63)) >>> ((56 : Int32).toInt64 &&& 63) := by
  rw [show ((56 : Int32).toInt64 &&& 63) = (56 : Int64) by decide]
  apply Int64.toBitVec_inj.mp
  rw [Int64.toBitVec_shiftRight, Int64.toBitVec_shiftLeft, show (56 : Int64).toBitVec.smod 64 = 56#64 by decide]
  have e : v.toInt32.toInt8.toInt32.toInt64.toBitVec = (((v.toBitVec.signExtend 32).signExtend 8).signExtend 32).signExtend 64 := rfl
  rw [e, se_le v.toBitVec (show 32 ≤ 64 by omega), se_le (v.toBitVec.setWidth 32) (show 8 ≤ 32 by omega), bv_n8]
  rfl
theorem nar16 (v : Int64) : ((v.toInt32).toInt16.toInt32).toInt64 = (v <<< ((48 : Int32).toInt64 &&& 63)) >>> ((48 : Int32).toInt64 &&& 63) := by
  rw [show ((48 : Int32).toInt64 &&& 63) = (48 : Int64) by decide]
  apply Int64.toBitVec_inj.mp
  rw [Int64.toBitVec_shiftRight, Int64.toBitVec_shiftLeft, show (48 : Int64).toBitVec.smod 64 = 48#64 by decide]
  have e : v.toInt32.toInt16.toInt32.toInt64.toBitVec = (((v.toBitVec.signExtend 32).signExtend 16).signExtend 32).signExtend 64 := rfl
  rw [e, se_le v.toBitVec (show 32 ≤ 64 by omega), se_le (v.toBitVec.setWidth 32) (show 16 ≤ 32 by omega), bv_n16]
  rfl
/-- a long as a sheet of u bits keeps it -/
def nar (u : Int32) (v : Int64) : Int64 := if u = 8 then ((v.toInt32).toInt8.toInt32).toInt64 else if u = 16 then ((v.toInt32).toInt16.toInt32).toInt64 else v
theorem S_put {st : kM} {c k : Nat} {v : Int64} (hk : k < 40) : fX1_put c (iI k) v st = some (kwl st (c + 1) k (nar (st.1 c 0) v)) := by
  have hcl : ¬ ((iI (k : Int)) < 0 ∨ 40 ≤ k) := by rw [iI_ofNat, iI_lt (by omega) (by omega) (by omega) (by omega)]; omega
  unfold fX1_put nar
  simp only [cn_k (show k < 2147483648 by omega), if_neg hcl, bnd]
  by_cases e : st.1 c 0 = 8
  · rw [if_pos e, if_pos e]
  · rw [if_neg e, if_neg e]
    by_cases e2 : st.1 c 0 = 16
    · rw [if_pos e2, if_pos e2]
    · rw [if_neg e2, if_neg e2]
theorem R_nar {s : kM} {u : Int32} {v : Int64} : fX6_narrow u v s = some (nar u v, s) := by
  unfold fX6_narrow nar
  rw [nar8, nar16]
  by_cases e : u = 8
  · rw [if_pos e, if_pos e]
  · rw [if_neg e, if_neg e]
    by_cases e2 : u = 16
    · rw [if_pos e2, if_pos e2]
    · rw [if_neg e2, if_neg e2]
theorem tlL {st : kM} {r1 : Option (Int64 × kM)} {f6 : kM → Option (Int64 × kM)} {a b : kY} {x : uX} {l : uL} (i : Nat) (e : Int32) (hi : i < 7) (he : (-1000000001 : Int32) - e = iI i) (w : Wok a b x) (C : CW st a b x l) (R : RW st a b x l) (h1 : r1 = (fX5_tell e st).bind fun q => some (q.1.toInt64, q.2)) (h2 : ∀ s, RW s a b x l → f6 s = (fX6_finds e s).bind fun q => some (q.1.toInt64, q.2)) : ∃ q1 q2 : Int64 × kM, r1 = some q1 ∧ f6 q1.2 = some q2 ∧ q1.1 = q2.1 ∧ Iv q2.2 := by
  refine join (l' := l) e.toInt64 R (Wok_xt (i := i) w) ?_ (fun s hs => ?_)
  · obtain ⟨s1, q1, q2, q3⟩ := C_tell w i hi he C
    exact ⟨s1, by rw [h1, q1, bnd], q2, q3⟩
  · obtain ⟨s1, q1, q2, q3⟩ := R_finds i hi he hs
    exact ⟨s1, by rw [h2 s hs, q1, bnd], q2, q3⟩
theorem C_miss {st : kM} {a b : kY} {x : uX} {l : uL} {m : Nat} (C : CW st a b x l) (hm : m < 4) : fX1_isMissing (51 + 2 * m) st = some (if x 3 m = 0 then 1 else 0, st) := by
  unfold fX1_isMissing
  rw [(C.2.2.2.2.2.1 m hm).1]
  split <;> rfl
theorem st_write : sp_write Iv := by
  intro st hI v1 v2 v3
  obtain ⟨a, b, x, l, w, C, R⟩ := hI
  by_cases h1 : v1 < 0 ∨ 3 < v1
  · exact tlL 0 (-1000000001) (by omega) (by decide) w C R (by simp only [fX5_write, C_sheet_f h1, bnd, i00, i10, i01, i11, itT, itF, or_true, true_or, or_false, false_or, bet]) (fun s hs => by simp only [fX6_write, R_sheet_f h1, bnd, i00, i10, i01, i11, itT, itF, or_true, true_or, or_false, false_or, bet])
  obtain ⟨m, hm, rfl⟩ := inN 3 rfl (by omega) h1
  have hm4 : m < 4 := by omega
  have hcl : ¬ ((iI (m : Int)) < 0 ∨ 4 ≤ m) := by rw [iI_ofNat, iI_lt (by omega) (by omega) (by omega) (by omega)]; omega
  have hcn := cn_k (show m < 2147483648 by omega)
  by_cases h2 : x 3 m = 0
  · refine tlL 5 (-1000000006) (by omega) (by decide) w C R ?_ (fun s hs => ?_)
    · simp only [fX5_write, C_sheet_t h1, bnd, i00, i10, i01, i11, itT, itF, or_true, true_or, or_false, false_or, bet, hcn, if_neg hcl, C_miss C hm4, if_pos h2]
    · simp only [fX6_write, R_sheet_t h1, bnd, i00, i10, i01, i11, itT, itF, or_true, true_or, or_false, false_or, bet, hcn, if_neg hcl, (hs.2.2.2.2.2.1 m hm4).1, if_pos h2]
  obtain ⟨-, n, hn, hx⟩ := w.2.2.2.2 m hm4
  have hC4 := (C.2.2.2.2.2.1 m hm4).2.1
  rw [hx] at hC4
  by_cases h3 : v2 < 0 ∨ iI (n : Int) - 1 < v2
  · refine tlL 0 (-1000000001) (by omega) (by decide) w C R ?_ (fun s hs => ?_)
    · simp only [fX5_write, C_sheet_t h1, bnd, i00, i10, i01, i11, itT, itF, or_true, true_or, or_false, false_or, bet, hcn, if_neg hcl, C_miss C hm4, if_neg h2, hC4, C_in_f h3]
    · have h4 := (hs.2.2.2.2.2.1 m hm4).2.1
      rw [hx] at h4
      simp only [fX6_write, R_sheet_t h1, bnd, i00, i10, i01, i11, itT, itF, or_true, true_or, or_false, false_or, bet, hcn, if_neg hcl, (hs.2.2.2.2.2.1 m hm4).1, if_neg h2, h4, R_in_f h3]
  obtain ⟨k, hk, rfl⟩ := inN ((n : Int) - 1) (iI_sub (n : Int) 1) (by omega) h3
  have hk40 : k < 40 := by omega
  have hck : ¬ ((iI (k : Int)) < 0 ∨ 40 ≤ k) := by rw [iI_ofNat, iI_lt (by omega) (by omega) (by omega) (by omega)]; omega
  have hcnk := cn_k (show k < 2147483648 by omega)
  refine join (l' := lu l m (va_up (l m) k (nar (x 3 m) v3))) (l m k) R w ?_ (fun s hs => ?_)
  · refine ⟨kwl st (51 + 2 * m + 1) k (nar (x 3 m) v3), ?_, C.num w hm4 rfl (fun c hc => ksetL_ne _ _ hc) (fun j hj => ?_), fun c hc => ⟨rfl, ksetL_ne _ _ (by omega)⟩⟩
    · simp only [fX5_write, C_sheet_t h1, bnd, i00, i10, i01, i11, itT, itF, or_true, true_or, or_false, false_or, bet, hcn, if_neg hcl, C_miss C hm4, if_neg h2, hC4, C_in_t h3, hcnk, if_neg hck, S_put hk40, (C.2.2.2.2.2.1 m hm4).1, (C.2.2.2.2.2.1 m hm4).2.2 k hk40]
    · rw [kwl, ksetL_same]
      by_cases e : j = k
      · subst e; rw [up_eq, up_eq]
      · rw [up_ne _ _ e, up_ne _ _ e]; exact (C.2.2.2.2.2.1 m hm4).2.2 j hj
  · have h4 := (hs.2.2.2.2.2.1 m hm4).2.1
    rw [hx] at h4
    have e4 : (40 : Int32) * iI (m : Int) + iI (k : Int) = iI ((40 * m + k : Nat) : Int) := by rw [iI_ofNat, iI_mul, iI_add]; exact congrArg iI (by omega)
    have hc4 : ¬ ((iI ((40 * m + k : Nat) : Int)) < 0 ∨ 160 ≤ 40 * m + k) := by rw [iI_ofNat, iI_lt (by omega) (by omega) (by omega) (by omega)]; omega
    have hcn4 := cn_k (show 40 * m + k < 2147483648 by omega)
    refine ⟨kwl s 67 (40 * m + k) (nar (x 3 m) v3), ?_, hs.num hm4 rfl (fun i hi j hj => ?_), fun c hc => ⟨rfl, ksetL_ne _ _ (by omega)⟩⟩
    · simp only [fX6_write, R_sheet_t h1, bnd, i00, i10, i01, i11, itT, itF, or_true, true_or, or_false, false_or, bet, hcn, if_neg hcl, (hs.2.2.2.2.2.1 m hm4).1, if_neg h2, h4, R_in_t h3, e4, hcn4, if_neg hc4, R_nar, (hs.2.2.2.2.2.1 m hm4).2.2 k hk40]
    · rw [kwl, ksetL_same]
      by_cases e : i = m
      · subst e
        rw [if_pos rfl]
        by_cases e2 : j = k
        · subst e2; rw [up_eq, up_eq]
        · rw [up_ne _ _ (by omega), up_ne _ _ e2]; exact (hs.2.2.2.2.2.1 i hi).2.2 j hj
      · rw [if_neg e, up_ne _ _ (by omega)]
