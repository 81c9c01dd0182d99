/-! a book -/
theorem nar_k : ∀ k : Nat, k < 100 → ((((iI (k : Int)).toInt64.toInt32).toInt8.toInt32).toInt64 = (iI (k : Int)).toInt64 ∧ (((iI (k : Int)).toInt64.toInt32).toInt16.toInt32).toInt64 = (iI (k : Int)).toInt64) := by decide +kernel
theorem nar_o {u : Int32} {z : Int} (hz : 0 ≤ z ∧ z ≤ 99) : nar u (iI z).toInt64 = (iI z).toInt64 := by
  have h := nar_k z.toNat (by omega)
  rw [show ((z.toNat : Nat) : Int) = z by omega] at h
  unfold nar
  rw [h.1, h.2]
  split
  · rfl
  · split <;> rfl
theorem cl_40 {k : Nat} (hk : k < 40) : ¬ ((iI (k : Int)) < 0 ∨ 40 ≤ k) := by rw [iI_ofNat, iI_lt (by omega) (by omega) (by omega) (by omega)]; omega
theorem cl_4 {k : Nat} (hk : k < 4) : ¬ ((iI (k : Int)) < 0 ∨ 4 ≤ k) := by rw [iI_ofNat, iI_lt (by omega) (by omega) (by omega) (by omega)]; omega
theorem cl_160 {k : Nat} (hk : k < 160) : ¬ ((iI (k : Int)) < 0 ∨ 160 ≤ k) := by rw [iI_ofNat, iI_lt (by omega) (by omega) (by omega) (by omega)]; omega
theorem ix_40 {m i : Nat} : (40 : Int32) * iI (m : Int) + iI (i : Int) = iI ((40 * m + i : Nat) : Int) := by rw [iI_ofNat, iI_mul, iI_add]; exact congrArg iI (by omega)
theorem ix_1 {i : Nat} : iI (i : Int) + 1 = iI ((i + 1 : Nat) : Int) := by rw [iI_ofNat, iI_add]; rfl
theorem le_t {i n : Nat} (hi : i ≤ 1000) (h : n ≤ i) : iI (n : Int) ≤ iI (i : Int) := by
  rw [iI_le (by omega) (by omega) (by omega) (by omega)]; omega
theorem le_f {i n : Nat} (hn : n ≤ 1000) (h : i < n) : ¬ (iI (n : Int) ≤ iI (i : Int)) := by
  rw [iI_le (by omega) (by omega) (by omega) (by omega)]; omega
theorem C_bk {k m n : Nat} {u : Int32} (hm : m < 4) (hn : n ≤ 40) : ∀ (r i : Nat), i + r = n → ∀ fuel, r < fuel → ∀ (s : kM) (b : kY), CY s 16 b → Ok b → k < nn b → b 0 0 + r < 2000000000 → s.1 (51 + 2 * m) 0 = u → s.1 (51 + 2 * m) 1 = iI (n : Int) → ∃ s', fX5_book_64 fuel (iI k) (51 + 2 * m) (iI i) s = some (iI (n : Int), s') ∧ (∀ c, ¬ fre c → s'.1 c = s.1 c) ∧ (∀ c, c ≠ 51 + 2 * m + 1 → s'.2 c = s.2 c) ∧ ∀ j, s'.2 (51 + 2 * m + 1) j = if i ≤ j ∧ j < i + r then (iI (itr (j - i) b (4 + k) 2)).toInt64 else s.2 (51 + 2 * m + 1) j := by
  intro r
  induction r with
  | zero =>
    intro i hi fuel hf s b h ok hk hb h0 h1
    obtain ⟨f, rfl⟩ : ∃ f, fuel = f + 1 := ⟨fuel - 1, by omega⟩
    refine ⟨s, ?_, fun _ _ => rfl, fun _ _ => rfl, fun j => ?_⟩
    · rw [fX5_book_64, h1, if_pos (le_t (by omega) (by omega))]
    · rw [if_neg (by omega)]
  | succ r ih =>
    intro i hi fuel hf s b h ok hk hb h0 h1
    obtain ⟨f, rfl⟩ : ∃ f, fuel = f + 1 := ⟨fuel - 1, by omega⟩
    have hn10 := ok.n10
    obtain ⟨o0, o1, o2, o3, o4⟩ := ok.2.2.2.2 k hk
    have g2 := (h.2.2.2 k hk).get.2.2.1
    have hp := @S_put s (51 + 2 * m) i (iI (b (4 + k) 2)).toInt64 (by omega)
    rw [nar_o o2] at hp
    have h' : CY (kwl s (51 + 2 * m + 1) i (iI (b (4 + k) 2)).toInt64) 16 b := h.cong ok (fun _ _ => rfl)
    obtain ⟨s2, q1, q2, q3⟩ := S_passHour h' ok (by omega)
    have ne : ∀ c, ¬ yc 16 c → s2.1 c = s.1 c := fun c hc => q2.2 c hc
    unfold yc at ne
    obtain ⟨s3, p1, p2, p3, p4⟩ := ih (i + 1) (by omega) f (by omega) s2 (hour b) q3 (Ok_hour ok) (by rw [nn_hour]; exact hk) (by rw [(hour_0 b).1]; omega) (by rw [ne _ (by omega)]; exact h0) (by rw [ne _ (by omega)]; exact h1)
    have e2 : s2.2 = (kwl s (51 + 2 * m + 1) i (iI (b (4 + k) 2)).toInt64).2 := q2.1
    refine ⟨s3, ?_, fun c hc => ?_, fun c hc => ?_, fun j => ?_⟩
    · rw [fX5_book_64, h1, if_neg (le_f (by omega) (by omega)), cn_k (by omega), if_neg (cl_k (by omega)), g2, hp, bnd, q1, bnd, ix_1]
      exact p1
    · rw [p2 c hc, ne c (by unfold fre at hc; omega)]
    · rw [p3 c hc, e2, kwl, ksetL_ne _ _ hc]
    · rw [p4 j, e2, kwl, ksetL_same]
      by_cases e : j = i
      · subst e
        rw [if_neg (by omega), if_pos (by omega), up_eq, Nat.sub_self]
        rfl
      · rw [up_ne _ _ e]
        by_cases e3 : i + 1 ≤ j ∧ j < i + 1 + r
        · rw [if_pos e3, if_pos (by omega), show j - i = (j - (i + 1)) + 1 by omega]
          rfl
        · rw [if_neg e3, if_neg (by omega)]
theorem kwl_in {t : kM} {ψ : Nat → Int64} {ρ : Nat → Int32} {q : Nat} {v : Int64} : kwl (kset (ksetL t 67 ψ) 60 ρ) 67 q v = kset (ksetL t 67 (va_up ψ q v)) 60 ρ := by
  have e : (kset (ksetL t 67 ψ) 60 ρ).2 67 = ψ := ksetL_same t 67 ψ
  rw [kwl, e]
  have e3 : ksetL (kset (ksetL t 67 ψ) 60 ρ) 67 (va_up ψ q v) = kset (ksetL (ksetL t 67 ψ) 67 (va_up ψ q v)) 60 ρ := rfl
  rw [e3, ksetL_ksetL]
theorem R_bk {k m n : Nat} {t : kM} (hm : m < 4) (hn : n ≤ 40) (ht : t.1 66 m = iI (n : Int)) : ∀ (r i : Nat), i + r = n → ∀ fuel, r < fuel → ∀ (ρ : Nat → Int32) (ψ : Nat → Int64) (b : kY), RR ρ b → Ok b → k < nn b → b 0 0 + r < 2000000000 → ∃ ρ' ψ', fX6_book_43 fuel (iI m) (iI k) (iI i) (kset (ksetL t 67 ψ) 60 ρ) = some (iI (n : Int), kset (ksetL t 67 ψ') 60 ρ') ∧ (∀ j, j < 72 → ρ' j = t.1 62 j) ∧ ∀ q, ψ' q = if 40 * m + i ≤ q ∧ q < 40 * m + i + r then (iI (itr (q - (40 * m + i)) b (4 + k) 2)).toInt64 else ψ q := by
  intro r
  have h66 : ∀ (ρ : Nat → Int32) (ψ : Nat → Int64), (kset (ksetL t 67 ψ) 60 ρ).1 66 m = iI (n : Int) := fun ρ ψ => by rw [kset_ne _ _ (by omega)]; exact ht
  induction r with
  | zero =>
    intro i hi fuel hf ρ ψ b h ok hk hb
    obtain ⟨f, rfl⟩ : ∃ f, fuel = f + 1 := ⟨fuel - 1, by omega⟩
    obtain ⟨ρ2, q1, q2⟩ := R_move0 (c := 62) (st := ksetL t 67 ψ) (ρ := ρ) (by omega)
    refine ⟨ρ2, ψ, ?_, q2, fun q => ?_⟩
    · rw [fX6_book_43, cn_k (by omega), if_neg (cl_4 hm), h66, if_pos (le_t (by omega) (by omega)), q1, bnd, h66]
    · rw [if_neg (by omega)]
  | succ r ih =>
    intro i hi fuel hf ρ ψ b h ok hk hb
    obtain ⟨f, rfl⟩ : ∃ f, fuel = f + 1 := ⟨fuel - 1, by omega⟩
    have hn10 := ok.n10
    have hR : RR ((kset (ksetL t 67 ψ) 60 ρ).1 60) b := by rw [kset_same]; exact h
    obtain ⟨ρ2, q1, q2⟩ := R_oneHour (st := ksetL t 67 (va_up ψ (40 * m + i) (iI (b (4 + k) 2)).toInt64)) h ok (by omega)
    obtain ⟨ρ3, ψ3, p1, p2, p3⟩ := ih (i + 1) (by omega) f (by omega) ρ2 (va_up ψ (40 * m + i) (iI (b (4 + k) 2)).toInt64) (hour b) q2 (Ok_hour ok) (by rw [nn_hour]; exact hk) (by rw [(hour_0 b).1]; omega)
    refine ⟨ρ3, ψ3, ?_, p2, fun q => ?_⟩
    · rw [fX6_book_43, cn_k (show m < 2147483648 by omega), if_neg (cl_4 hm), h66, if_neg (le_f (by omega) (by omega)), R_i2 hR ok hk, bnd, ix_40, cn_k (by omega), if_neg (cl_160 (by omega)), bnd, kwl_in, q1, bnd, ix_1]
      exact p1
    · rw [p3 q]
      by_cases e : q = 40 * m + i
      · subst e
        rw [if_neg (by omega), if_pos (by omega), up_eq, Nat.sub_self]
        rfl
      · rw [up_ne _ _ e]
        by_cases e3 : 40 * m + (i + 1) ≤ q ∧ q < 40 * m + (i + 1) + r
        · rw [if_pos e3, if_pos (by omega), show q - (40 * m + i) = (q - (40 * m + (i + 1))) + 1 by omega]
          rfl
        · rw [if_neg e3, if_neg (by omega)]
/-- what the calls that take a sheet and a knot share -/
theorem R_bad_f {v : Int32} {s : kM} (h : v < 0 ∨ 3 < v) : fX6_badSheet v s = some (-1000000001, s) := by unfold fX6_badSheet; rw [R_sheet_f h]; rfl
theorem nb1 : ¬ (-1000000001 : Int32) = 0 := by decide
theorem nb6 : ¬ (-1000000006 : Int32) = 0 := by decide
theorem st_book : sp_book Iv := by
  intro st hI v1 v2
  obtain ⟨a, b, x, l, w, C, R⟩ := hI
  have ok := w.1.1
  have hb := w.1.2
  by_cases h1 : v1 < 0 ∨ 3 < v1
  · exact tl1 w C R (by simp only [fX5_book, C_sheet_f h1, bnd, i00, i10, i01, i11, itT, itF, or_true, true_or, or_false, false_or, bet]) (fun s hs => by simp only [fX6_book, R_bad_f h1, bnd, if_neg nb1, bet])
  obtain ⟨m, hm, rfl⟩ := inN 3 rfl (by omega) h1
  have hm4 : m < 4 := by omega
  have hcl := cl_4 hm4
  have hcn := cn_k (show m < 2147483648 by omega)
  by_cases h2 : x 3 m = 0
  · refine tl6 w C R ?_ (fun s hs => ?_)
    · simp only [fX5_book, C_sheet_t h1, bnd, i00, i10, i01, i11, itT, itF, or_true, true_or, or_false, false_or, bet, hcn, if_neg hcl, C_miss C hm4, if_pos h2]
    · simp only [fX6_book, R_bad hs hm4 h1, if_pos h2, bnd, if_neg nb6, bet]
  by_cases h3 : nk a v2
  · refine tl1 w C R ?_ (fun s hs => ?_)
    · simp only [fX5_book, C_sheet_t h1, bnd, i00, i10, i01, i11, itT, itF, or_true, true_or, or_false, false_or, bet, hcn, if_neg hcl, C_miss C hm4, if_neg h2, C_knot_f C h3]
    · simp only [fX6_book, R_bad hs hm4 h1, if_neg h2, bnd, i00, i10, i01, i11, itT, itF, or_true, true_or, or_false, false_or, bet, R_one_f hs h3]
  obtain ⟨k, hk, rfl⟩ := inK ok h3
  obtain ⟨-, n, hn, hx⟩ := w.2.2.2.2 m hm4
  refine join (l' := lu l m (fun j => if 0 ≤ j ∧ j < 0 + n then (iI (itr (j - 0) a (4 + k) 2)).toInt64 else l m j)) (iI (n : Int)) R w ?_ (fun s hs => ?_)
  · obtain ⟨s1, q1, q2, q3⟩ := C_trial w C
    have C1 := C.fr w q2
    obtain ⟨s2, p1, p2, p3, p4⟩ := C_bk (k := k) (u := x 3 m) hm4 hn n 0 (by omega) kfu (by unfold kfu; omega) s1 a q3 ok hk (by omega) (C1.2.2.2.2.2.1 m hm4).1 (by rw [(C1.2.2.2.2.2.1 m hm4).2.1]; exact hx)
    have C2 : CW (s2.1, s1.2) a b x l := C1.fr w ⟨rfl, p2⟩
    refine ⟨s2, ?_, C2.num w hm4 rfl p3 (fun j hj => ?_), fun c hc => ⟨?_, ?_⟩⟩
    · simp only [fX5_book, C_sheet_t h1, bnd, i00, i10, i01, i11, itT, itF, or_true, true_or, or_false, false_or, bet, hcn, if_neg hcl, C_miss C hm4, if_neg h2, C_knot_t C h3, q1]
      rw [iI_n0] at p1
      exact p1
    · rw [p4 j, (C1.2.2.2.2.2.1 m hm4).2.2 j hj]
    · rw [p2 c (by unfold fre; omega), q2.2 c (by unfold fre; omega)]
    · rw [p3 c (by omega), q2.1]
  · obtain ⟨t, m1', m2, m3, m4⟩ := R_trial w hs
    have ht : t.1 66 m = iI (n : Int) := by rw [(m2.2.2.2.2.2.1 m hm4).2.1]; exact hx
    obtain ⟨ρ, ψ, p1, p2, p3⟩ := R_bk (k := k) (t := t) hm4 hn ht n 0 (by omega) kfu (by unfold kfu; omega) (t.1 60) (t.2 67) a m2.1 ok hk (by omega)
    rw [ksetL_self, kset_self, iI_n0] at p1
    refine SR.pre m4 ⟨kset (ksetL t 67 ψ) 60 ρ, ?_, ?_, fun c hc => ⟨kset_ne _ _ (by omega), ksetL_ne _ _ (by omega)⟩⟩
    · simp only [fX6_book, R_bad hs hm4 h1, if_neg h2, bnd, i00, i10, i01, i11, itT, itF, or_true, true_or, or_false, false_or, bet, R_one_t hs h3, m1']
      exact p1
    · have m5 : RW (ksetL t 67 ψ) a b x (lu l m (fun j => if 0 ≤ j ∧ j < 0 + n then (iI (itr (j - 0) a (4 + k) 2)).toInt64 else l m j)) := m2.num hm4 rfl (fun i hi j hj => ?_)
      · exact R_back w m5 m3 p2
      · rw [ksetL_same, p3]
        by_cases e : i = m
        · subst e
          rw [if_pos rfl]
          by_cases e3 : 0 ≤ j ∧ j < 0 + n
          · rw [if_pos e3, if_pos (by omega), show 40 * i + j - (40 * i + 0) = j - 0 by omega]
          · rw [if_neg e3, if_neg (by omega)]; exact (m2.2.2.2.2.2.1 i hi).2.2 j hj
        · rw [if_neg e, if_neg (by omega)]
