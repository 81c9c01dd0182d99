/-! open, firmest -/
/-- the first that does -/
def ff (p : Nat → Int) : Nat → Nat → Option Nat
  | 0, _ => none
  | r + 1, i => if p i = 1 then some i else ff p r (i + 1)
theorem ff_lt {p : Nat → Int} : ∀ (r i : Nat) {j : Nat}, ff p r i = some j → j < i + r
  | 0, _, _, h => by cases h
  | r + 1, i, j, h => by
    unfold ff at h
    split at h
    · injection h with h; omega
    · have := ff_lt r (i + 1) h; omega
def hop (a : kY) (k n : Nat) (i : Nat) : Int := lst (4 + k) 4 n (ya a (4 + k) 2 i)
theorem lst_k {x : Nat} : ∀ (r : Nat) {a : kY}, Ok a → x < nn a → lst (4 + x) 4 r a = 0 ∨ lst (4 + x) 4 r a = 1
  | 0, a, ok, hx => (ok.2.2.2.2 x hx).2.2.2.2
  | r + 1, a, ok, hx => by
    unfold lst
    split
    · exact lst_k r (Ok_hour ok) (by rw [nn_hour]; exact hx)
    · exact Or.inl rfl
theorem lst_m {m : Nat} (hm : m < 4) : ∀ (r : Nat) {a : kY}, Ok a → lst 3 m r a = 0 ∨ lst 3 m r a = 1
  | 0, a, ok => (ok.2.2.2.1 m hm).2
  | r + 1, a, ok => by
    unfold lst
    split
    · exact lst_m hm r (Ok_hour ok)
    · exact Or.inl rfl
theorem hop_rng {a : kY} {k n i : Nat} (ok : Ok a) (hk : k < nn a) (hi : i < 100) : hop a k n i = 0 ∨ hop a k n i = 1 :=
  lst_k n (Ok_knot (k := k) (j := 2) (z := (i : Int)) ok (by omega)) (by rw [nn_ya (by omega)]; exact hk)
def an5 (o : Option Nat) (s : kM) : Option (Int32 × kM) := match o with
  | some j => some (iI (j : Int), s)
  | none => fX5_tell (-1000000004) s
def an6 (o : Option Nat) (s : kM) : Option (Int32 × kM) := match o with
  | some j => some (iI (j : Int), s)
  | none => fX6_finds (-1000000004) s
theorem C_op {a b : kY} {x : uX} {l : uL} {k n : Nat} (w : Wok a b x) (hk : k < nn a) (hnn : n ≤ 1000) : ∀ (r i : Nat), i + r = 100 → ∀ fuel, r < fuel → ∀ s, CW s a b x l → ∃ s', fX5_open_27 fuel (iI k) (iI n) (iI i) s = an5 (ff (hop a k n) r i) s' ∧ Fr fre s s' := by
  intro r
  have ok := w.1.1
  have hb := w.1.2
  have hn := ok.n10
  induction r with
  | zero =>
    intro i hi fuel hf s C
    obtain ⟨f, rfl⟩ : ∃ f, fuel = f + 1 := ⟨fuel - 1, by omega⟩
    refine ⟨s, ?_, Fr.rf⟩
    have hc : (99 : Int32) < iI (i : Int) := by rw [iI_ofNat, iI_lt (by omega) (by omega) (by omega) (by omega)]; omega
    unfold fX5_open_27
    rw [if_pos hc, bet]
    rfl
  | succ r ih =>
    intro i hi fuel hf s C
    obtain ⟨f, rfl⟩ : ∃ f, fuel = f + 1 := ⟨fuel - 1, by omega⟩
    have hv := hop_rng (n := n) ok hk (show i < 100 by omega)
    have e2 : iI (i : Int) + 1 = iI ((i + 1 : Nat) : Int) := by rw [iI_ofNat, iI_add]; rfl
    have hc : ¬ ((99 : Int32) < iI (i : Int)) := by rw [iI_ofNat, iI_lt (by omega) (by omega) (by omega) (by omega)]; omega
    obtain ⟨s1, q1, q2, q3⟩ := C_trial w C
    have okn := Ok_knot (k := k) (j := 2) (z := (i : Int)) ok (by omega)
    obtain ⟨s2, p1, p2⟩ := S_staysFast (x := k) (n := n) (q3.knot (j := 2) (z := (i : Int)) ok hk) okn hnn (by rw [nn_ya (by omega)]; exact hk) (by rw [ya_row (by omega)]; omega)
    have f2 : Fr fre s s2 := (q2.tr (Fr16 (Fr.yk (by omega)))).tr (Fr16 p2)
    have e9 : lst (4 + k) 4 n (ya a (4 + k) 2 i) = hop a k n i := rfl
    rw [e9] at p1
    unfold fX5_open_27
    simp only [if_neg hc, q1, bnd, cn_k (show k < 2147483648 by omega), if_neg (cl_k (show k < 10 by omega)), p1, e2]
    rcases hv with e | e
    · rw [e, if_pos (show iI 0 = 0 from rfl)]
      have e3 : ff (hop a k n) (r + 1) i = ff (hop a k n) r (i + 1) := by show (if _ then _ else _) = _; rw [if_neg (by omega)]
      rw [e3]
      obtain ⟨s3, t1, t2⟩ := ih (i + 1) (by omega) f (by omega) s2 (C.fr w f2)
      exact ⟨s3, t1, f2.tr t2⟩
    · have e3 : ff (hop a k n) (r + 1) i = some i := by show (if _ then _ else _) = _; rw [if_pos e]
      rw [e, e3, if_neg (show ¬ iI 1 = 0 by decide)]
      exact ⟨s2, rfl, f2⟩
theorem R_op {a b : kY} {x : uX} {t : kM} {k n : Nat} (w : Wok a b x) (hk : k < nn a) (hnn : n ≤ 1000) (ht : RR (t.1 62) a) : ∀ (r i : Nat), i + r = 100 → ∀ fuel, r < fuel → ∀ ρ, RR ρ a → ∃ ρ', fX6_open_39 (fuel + 1) (iI k) (iI n) (iI ((i : Int) - 1)) 0 (kset t 60 ρ) = an6 (ff (hop a k n) r i) (kset t 60 ρ') ∧ RR ρ' a := by
  intro r
  have ok := w.1.1
  have hb := w.1.2
  have hn := ok.n10
  have eix : (22 : Int32) + (5 : Int32) * iI k + (3 : Int32) = iI ((22 + 5 * k + 3 : Nat) : Int) := by simp only [iI_ofNat, iI_add, iI_mul]; exact congrArg iI (by omega)
  induction r with
  | zero =>
    intro i hi fuel hf ρ h
    refine ⟨ρ, ?_, h⟩
    have hc : (99 : Int32) ≤ iI ((i : Int) - 1) := by rw [iI_ofNat, iI_le (by omega) (by omega) (by omega) (by omega)]; omega
    unfold fX6_open_39
    rw [if_pos hc]
    unfold fX6_open_78
    rw [if_pos rfl, bet]
    rfl
  | succ r ih =>
    intro i hi fuel hf ρ h
    obtain ⟨f, rfl⟩ : ∃ f, fuel = f + 1 := ⟨fuel - 1, by omega⟩
    have hv := hop_rng (n := n) ok hk (show i < 100 by omega)
    have hc : ¬ ((99 : Int32) ≤ iI ((i : Int) - 1)) := by rw [iI_ofNat, iI_le (by omega) (by omega) (by omega) (by omega)]; omega
    have ei : iI ((i : Int) - 1) + 1 = iI (i : Int) := by rw [iI_ofNat, iI_add]; exact congrArg iI (by omega)
    have okn := Ok_knot (k := k) (j := 2) (z := (i : Int)) ok (by omega)
    have h2 := RR.knot (k := k) (j := 2) (z := (i : Int)) h (by omega)
    rw [show fm 2 = 2 from rfl] at h2
    obtain ⟨ρ2, p1, p2⟩ := R_lasts (st := t) (n := n) (Ix_k (k := k) (N := nn (ya a (4 + k) 2 i)) (by rw [nn_ya (by omega)]; exact hk) (by rw [nn_ya (by omega)]; exact hn.1)) hnn h2 okn (by rw [ya_row (by omega)]; omega)
    have h3 : RR ρ2 a := RR.row ht ok p2
    have e9 : lst (4 + k) 4 n (ya a (4 + k) 2 i) = hop a k n i := rfl
    rw [e9] at p1
    rw [fX6_open_39]
    simp only [if_neg hc, i00, itT, ei, R_p2 (show k < 10 by omega), bnd, kwr_kset, eix, p1]
    rcases hv with e | e
    · have e3 : ff (hop a k n) (r + 1) i = ff (hop a k n) r (i + 1) := by show (if _ then _ else _) = _; rw [if_neg (by omega)]
      rw [e, e3]
      obtain ⟨ρ3, t1, t2⟩ := ih (i + 1) (by omega) f (by omega) ρ2 h3
      rw [show ((i + 1 : Nat) : Int) - 1 = (i : Int) by omega] at t1
      exact ⟨ρ3, t1, t2⟩
    · have e3 : ff (hop a k n) (r + 1) i = some i := by show (if _ then _ else _) = _; rw [if_pos e]
      rw [e, e3]
      refine ⟨ρ2, ?_, h3⟩
      rw [fX6_open_39]
      simp only [fX6_open_78, if_neg (show ¬ iI 1 = 0 by decide)]
      split <;> rfl
theorem st_open : sp_open Iv := by
  intro st hI v1 v2
  obtain ⟨a, b, x, l, w, C, R⟩ := hI
  have ok := w.1.1
  by_cases h1 : nk a v1
  · exact tl1 w C R (by simp only [fX5_open, C_knot_f C h1, bnd, i00, i10, i01, i11, itT, itF, or_true, true_or, or_false, false_or, bet]) (fun s hs => by simp only [fX6_open, R_one_f hs h1, bnd, i00, i10, i01, i11, itT, itF, or_true, true_or, or_false, false_or, bet])
  by_cases h2 : v2 < 0 ∨ 100 < v2
  · exact tl1 w C R (by simp only [fX5_open, C_knot_t C h1, C_in_f h2, bnd, i00, i10, i01, i11, itT, itF, or_true, true_or, or_false, false_or, bet]) (fun s hs => by simp only [fX6_open, R_one_t hs h1, R_in_f h2, bnd, i00, i10, i01, i11, itT, itF, or_true, true_or, or_false, false_or, bet])
  obtain ⟨k, hk, rfl⟩ := inK ok h1
  obtain ⟨n, hn, rfl⟩ := inN 100 rfl (by omega) h2
  obtain ⟨s1, q1, q2⟩ := C_op (l := l) (n := n) w hk (by omega) 100 0 (by omega) kfu (by unfold kfu; omega) st C
  have ce : fX5_open (iI k) (iI n) st = an5 (ff (hop a k n) 100 0) s1 := by
    unfold fX5_open
    rw [C_knot_t C h1, bnd, C_in_t h2, bnd]
    simp only [i10, itF]
    rw [iI_n0] at q1
    exact q1
  have re : ∀ s, RW s a b x l → ∃ t ρ, fX6_open (iI k) (iI n) s = an6 (ff (hop a k n) 100 0) (kset t 60 ρ) ∧ RW (kset t 60 ρ) a b x l ∧ Lo s (kset t 60 ρ) := fun s hs => by
    obtain ⟨t, m1', m2, m3, m4⟩ := R_trial w hs
    obtain ⟨ρ, k3, k4⟩ := R_op (t := t) (n := n) w hk (by omega) m3 100 0 (by omega) (kfu - 1) (by unfold kfu; omega) (t.1 60) m2.1
    rw [kset_self, show kfu - 1 + 1 = kfu from rfl, show iI (((0 : Nat) : Int) - 1) = iI (-1) from rfl] at k3
    refine ⟨t, ρ, ?_, m2.row k4, m4.tr (Lo.set (by omega))⟩
    unfold fX6_open
    rw [R_one_t hs h1, bnd, R_in_t h2, bnd, m1', m1]
    simp only [i10, itF, bnd]
    exact k3
  cases ho : ff (hop a k n) 100 0 with
  | some j =>
    rw [ho] at ce
    refine join (l' := l) (iI (j : Int)) R w (SC.same w C ⟨s1, ce, q2⟩) (fun s hs => ?_)
    obtain ⟨t, ρ, e1, e2, e3⟩ := re s hs
    rw [ho] at e1
    exact ⟨_, e1, e2, e3⟩
  | none =>
    rw [ho] at ce
    refine join (l' := l) (-1000000004 : Int32) R (Wok_xt (i := 3) w) (SC.pre (Hi_fre q2) ?_) (fun s hs => ?_)
    · rw [ce]; exact C_tell w 3 (e := -1000000004) (by omega) (by decide) (C.fr w q2)
    · obtain ⟨t, ρ, e1, e2, e3⟩ := re s hs
      rw [ho] at e1
      refine SR.pre e3 ?_
      rw [e1]; exact R_finds 3 (e := -1000000004) (by omega) (by decide) e2
-- firmest
theorem cnt_pos {a : kY} {k : Nat} (h4 : a (4 + k) 4 = 1) : ∀ {n : Nat}, k < n → 1 ≤ cnt a (a (4 + k) 1) n
  | 0, h => by omega
  | n + 1, h => by
    have := cnt_rng a (a (4 + k) 1) n
    unfold cnt
    by_cases e : k = n
    · subst e; rw [if_pos ⟨rfl, h4⟩]; omega
    · have := cnt_pos h4 (show k < n by omega)
      split <;> omega
theorem hh_pos {a : kY} {k : Nat} {w : Int} (ok : Ok a) (hk : k < nn a) (hw : 0 ≤ w ∧ w ≤ 99) : 0 ≤ hh a k w ∧ hh a k w ≤ 1000 := by
  refine ⟨?_, (hh_rng ok hk hw).2⟩
  obtain ⟨o0, o1, o2, o3, o4⟩ := ok.2.2.2.2 k hk
  have hc : a (4 + k) 4 = 1 → 1 ≤ cnt a (a (4 + k) 1) (nn a) := fun h4 => cnt_pos h4 hk
  unfold hh Hd
  repeat' split
  all_goals omega
def bx (h : Nat → Int) : Nat → Int
  | 0 => -1
  | k + 1 => if bx h k < 0 then k else if h k ≤ h (bx h k).toNat then bx h k else k
theorem bx_rng (h : Nat → Int) : ∀ k : Nat, -1 ≤ bx h k ∧ bx h k < k
  | 0 => by unfold bx; omega
  | k + 1 => by
    have := bx_rng h k
    unfold bx
    repeat' split
    all_goals omega
def bh (h : Nat → Int) (k : Nat) : Int := if bx h k < 0 then -1 else h (bx h k).toNat
theorem C_fi {b : kY} (ok : Ok b) (hb : b 0 0 < 1000000000) : ∀ (r i : Nat), i + r = nn b → ∀ fuel, r < fuel → ∀ s, CY s 16 b → ∃ s', fX5_firmest_44 fuel (iI (bh (fun k => hh b k (wn b)) i)) (iI (bx (fun k => hh b k (wn b)) i)) (iI i) s = (if 0 ≤ iI (bx (fun k => hh b k (wn b)) (nn b)) then some (iI (bx (fun k => hh b k (wn b)) (nn b)), s') else fX5_tell (-1000000004) s') ∧ Fr fre s s' := by
  intro r
  have hn := ok.n10
  have hw := Ok_wn ok
  induction r with
  | zero =>
    intro i hi fuel hf s C
    obtain ⟨f, rfl⟩ : ∃ f, fuel = f + 1 := ⟨fuel - 1, by omega⟩
    have hi' : i = nn b := by omega
    subst hi'
    refine ⟨s, ?_, Fr.rf⟩
    have hc : iI (b 0 1) ≤ iI (nn b) := by rw [iI_le (by omega) (by omega) (by omega) (by omega)]; omega
    unfold fX5_firmest_44
    rw [C.1.2.1, if_pos hc, bet]
  | succ r ih =>
    intro i hi fuel hf s C
    obtain ⟨f, rfl⟩ : ∃ f, fuel = f + 1 := ⟨fuel - 1, by omega⟩
    have hr := bx_rng (fun k => hh b k (wn b)) i
    have hv := hh_pos ok (show i < nn b by omega) hw
    have hbh : bh (fun k => hh b k (wn b)) i = -1 ∧ bx (fun k => hh b k (wn b)) i < 0 ∨ bh (fun k => hh b k (wn b)) i = hh b (bx (fun k => hh b k (wn b)) i).toNat (wn b) ∧ ¬ bx (fun k => hh b k (wn b)) i < 0 := by
      unfold bh
      by_cases e : bx (fun k => hh b k (wn b)) i < 0
      · rw [if_pos e]; exact Or.inl ⟨rfl, e⟩
      · rw [if_neg e]; exact Or.inr ⟨rfl, e⟩
    have hbr : -1 ≤ bh (fun k => hh b k (wn b)) i ∧ bh (fun k => hh b k (wn b)) i ≤ 1000 := by
      rcases hbh with ⟨e, -⟩ | ⟨e, e9⟩
      · rw [e]; omega
      · rw [e]; have := hh_pos ok (show (bx (fun k => hh b k (wn b)) i).toNat < nn b by omega) hw; omega
    have e2 : iI (i : Int) + 1 = iI ((i + 1 : Nat) : Int) := by rw [iI_ofNat, iI_add]; rfl
    have hc : ¬ (iI (b 0 1) ≤ iI (i : Int)) := by rw [iI_le (by omega) (by omega) (by omega) (by omega)]; omega
    obtain ⟨φ, q⟩ := S_holdingOf C ok (show i < nn b by omega) (by omega)
    have f2 : Fr fre s (kset s (16 + 4) φ) := Fr.set _ (by unfold fre; omega)
    unfold fX5_firmest_44
    simp only [C.1.2.1, if_neg hc, bnd, cn_k (show i < 2147483648 by omega), if_neg (cl_k (show i < 10 by omega)), q, e2]
    simp only [iI_le (show -2147483648 ≤ hh b i (wn b) by omega) (show hh b i (wn b) < 2147483648 by omega) (show -2147483648 ≤ bh (fun k => hh b k (wn b)) i by omega) (show bh (fun k => hh b k (wn b)) i < 2147483648 by omega)]
    obtain ⟨s3, t1, t2⟩ := ih (i + 1) (by omega) f (by omega) _ (C.set4 ok φ)
    by_cases h9 : hh b i (wn b) ≤ bh (fun k => hh b k (wn b)) i
    · have hneg : ¬ bx (fun k => hh b k (wn b)) i < 0 := by omega
      have e3 : bx (fun k => hh b k (wn b)) (i + 1) = bx (fun k => hh b k (wn b)) i := by
        show (if _ then _ else if _ then _ else _) = _
        rw [if_neg hneg, if_pos (show hh b i (wn b) ≤ hh b (bx (fun k => hh b k (wn b)) i).toNat (wn b) by omega)]
      have e4 : bh (fun k => hh b k (wn b)) (i + 1) = bh (fun k => hh b k (wn b)) i := by unfold bh; rw [e3]
      rw [e3, e4] at t1
      exact ⟨s3, by rw [if_pos h9]; exact t1, f2.tr t2⟩
    · have e3 : bx (fun k => hh b k (wn b)) (i + 1) = i := by
        show (if _ then _ else if _ then _ else _) = _
        by_cases e : bx (fun k => hh b k (wn b)) i < 0
        · rw [if_pos e]
        · rw [if_neg e, if_neg (show ¬ hh b i (wn b) ≤ hh b (bx (fun k => hh b k (wn b)) i).toNat (wn b) by omega)]
      have e4 : bh (fun k => hh b k (wn b)) (i + 1) = hh b i (wn b) := by unfold bh; rw [e3, if_neg (by omega)]; rfl
      rw [e3, e4] at t1
      exact ⟨s3, by rw [if_neg h9]; exact t1, f2.tr t2⟩
theorem R_fi {b : kY} {t : kM} {ρ : Nat → Int32} (ok : Ok b) (hb : b 0 0 < 1000000000) (h : RR ρ b) : ∀ (r i : Nat), i + r = nn b → ∀ fuel, r < fuel → ∃ ρ', fX6_firmest_36 fuel (iI (bx (fun k => hh b k (wn b)) i)) (iI i) (kset t 60 ρ) = (if 0 ≤ iI (bx (fun k => hh b k (wn b)) (nn b)) then some (iI (bx (fun k => hh b k (wn b)) (nn b)), kset t 60 ρ') else fX6_finds (-1000000004) (kset t 60 ρ')) ∧ ∀ j, j < 72 → ρ' j = t.1 62 j := by
  intro r
  have hn := ok.n10
  have hw := Ok_wn ok
  have hR : RR ((kset t 60 ρ).1 60) b := by rw [kset_same]; exact h
  induction r with
  | zero =>
    intro i hi fuel hf
    obtain ⟨f, rfl⟩ : ∃ f, fuel = f + 1 := ⟨fuel - 1, by omega⟩
    have hi' : i = nn b := by omega
    subst hi'
    obtain ⟨ρ2, r1, r2⟩ := R_move0 (st := t) (c := 62) (ρ := ρ) (by omega)
    refine ⟨ρ2, ?_, r2⟩
    have hc : iI (b 0 1) ≤ iI (nn b) := by rw [iI_le (by omega) (by omega) (by omega) (by omega)]; omega
    unfold fX6_firmest_36
    rw [kset_same, h.2.1, if_pos hc, r1, bnd, bet]
  | succ r ih =>
    intro i hi fuel hf
    obtain ⟨f, rfl⟩ : ∃ f, fuel = f + 1 := ⟨fuel - 1, by omega⟩
    have hr := bx_rng (fun k => hh b k (wn b)) i
    have hv := hh_pos ok (show i < nn b by omega) hw
    have e2 : iI (i : Int) + 1 = iI ((i + 1 : Nat) : Int) := by rw [iI_ofNat, iI_add]; rfl
    have hc : ¬ (iI (b 0 1) ≤ iI (i : Int)) := by rw [iI_le (by omega) (by omega) (by omega) (by omega)]; omega
    have hz : (iI (bx (fun k => hh b k (wn b)) i) < 0) = (bx (fun k => hh b k (wn b)) i < 0) := by rw [iI_ofNat, iI_lt (by omega) (by omega) (by omega) (by omega)]
    obtain ⟨ρ3, t1, t2⟩ := ih (i + 1) (by omega) f (by omega)
    unfold fX6_firmest_36
    by_cases e : bx (fun k => hh b k (wn b)) i < 0
    · have e3 : bx (fun k => hh b k (wn b)) (i + 1) = i := by
        show (if _ then _ else if _ then _ else _) = _
        rw [if_pos e]
      rw [e3] at t1
      refine ⟨ρ3, ?_, t2⟩
      rw [kset_same, h.2.1, if_neg hc, if_pos (by rw [hz]; exact e), e2]
      exact t1
    · have g2 := hh_pos ok (show (bx (fun k => hh b k (wn b)) i).toNat < nn b by omega) hw
      have hq := R_holding (k := (bx (fun k => hh b k (wn b)) i).toNat) hR ok (by omega) (by omega)
      rw [show (((bx (fun k => hh b k (wn b)) i).toNat : Nat) : Int) = bx (fun k => hh b k (wn b)) i by omega] at hq
      simp only [kset_same, h.2.1, if_neg hc, hz, if_neg e, e2, R_holding (k := i) hR ok (show i < nn b by omega) (show b 0 0 < 2147483648 by omega), bnd, hq]
      simp only [iI_le (show -2147483648 ≤ hh b i (wn b) by omega) (show hh b i (wn b) < 2147483648 by omega) (show -2147483648 ≤ hh b (bx (fun k => hh b k (wn b)) i).toNat (wn b) by omega) (show hh b (bx (fun k => hh b k (wn b)) i).toNat (wn b) < 2147483648 by omega)]
      by_cases h9 : hh b i (wn b) ≤ hh b (bx (fun k => hh b k (wn b)) i).toNat (wn b)
      · have e3 : bx (fun k => hh b k (wn b)) (i + 1) = bx (fun k => hh b k (wn b)) i := by
          show (if _ then _ else if _ then _ else _) = _
          rw [if_neg e, if_pos h9]
        rw [e3] at t1
        exact ⟨ρ3, by rw [if_pos h9]; exact t1, t2⟩
      · have e3 : bx (fun k => hh b k (wn b)) (i + 1) = i := by
          show (if _ then _ else if _ then _ else _) = _
          rw [if_neg e, if_neg h9]
        rw [e3] at t1
        exact ⟨ρ3, by rw [if_neg h9]; exact t1, t2⟩
theorem st_firmest : sp_firmest Iv := by
  intro st hI v1
  obtain ⟨a, b, x, l, w, C, R⟩ := hI
  have ok := w.1.1
  have hb := w.1.2
  by_cases h2 : v1 < 0 ∨ 200 < v1
  · exact tl1 w C R (by simp only [fX5_firmest, C_in_f h2, bnd, i00, i10, i01, i11, itT, itF, or_true, true_or, or_false, false_or, bet]) (fun s hs => by simp only [fX6_firmest, R_in_f h2, bnd, i00, i10, i01, i11, itT, itF, or_true, true_or, or_false, false_or, bet])
  obtain ⟨n, hn, rfl⟩ := inN 200 rfl (by omega) h2
  obtain ⟨s1, q1, q2, q3⟩ := C_trial w C
  obtain ⟨s2, p1, p2, p3⟩ := S_passHours (n := n) q3 ok (by omega) (by omega)
  have oki := Ok_itr n ok
  have hbi : itr n a 0 0 < 1000000000 := by rw [(itr_00 n a).1]; omega
  have hni := oki.n10
  obtain ⟨s3, k1, k2⟩ := C_fi oki hbi (nn (itr n a)) 0 (by omega) kfu (by unfold kfu; omega) s2 p3
  have f3 : Fr fre st s3 := (q2.tr (Fr16 p2)).tr k2
  have ce : fX5_firmest (iI n) st = (if 0 ≤ iI (bx (fun k => hh (itr n a) k (wn (itr n a))) (nn (itr n a))) then some (iI (bx (fun k => hh (itr n a) k (wn (itr n a))) (nn (itr n a))), s3) else fX5_tell (-1000000004) s3) := by
    unfold fX5_firmest
    rw [C_in_t h2, bnd, m1]
    simp only [i10, itF, q1, bnd, p1]
    rw [show bh (fun k => hh (itr n a) k (wn (itr n a))) 0 = -1 from rfl, show bx (fun k => hh (itr n a) k (wn (itr n a))) 0 = -1 from rfl, iI_n0] at k1
    exact k1
  have re : ∀ s, RW s a b x l → ∃ t ρ, fX6_firmest (iI n) s = (if 0 ≤ iI (bx (fun k => hh (itr n a) k (wn (itr n a))) (nn (itr n a))) then some (iI (bx (fun k => hh (itr n a) k (wn (itr n a))) (nn (itr n a))), kset t 60 ρ) else fX6_finds (-1000000004) (kset t 60 ρ)) ∧ RW (kset t 60 ρ) a b x l ∧ Lo s (kset t 60 ρ) := fun s hs => by
    obtain ⟨t, m1', m2, m3, m4⟩ := R_trial w hs
    obtain ⟨ρ, o1, o2⟩ := R_passes (st := t) (n := n) m2.1 ok (by omega) (by omega)
    rw [kset_self] at o1
    obtain ⟨ρ2, k3, k4⟩ := R_fi (t := t) oki hbi o2 (nn (itr n a)) 0 (by omega) kfu (by unfold kfu; omega)
    refine ⟨t, ρ2, ?_, R_back w m2 m3 k4, m4.tr (Lo.set (by omega))⟩
    unfold fX6_firmest
    rw [R_in_t h2, bnd, m1', m1]
    simp only [i10, itF, bnd, o1]
    rw [show bx (fun k => hh (itr n a) k (wn (itr n a))) 0 = -1 from rfl, iI_n0] at k3
    exact k3
  by_cases h9 : 0 ≤ iI (bx (fun k => hh (itr n a) k (wn (itr n a))) (nn (itr n a)))
  · rw [if_pos h9] at ce
    refine join (l' := l) (iI (bx (fun k => hh (itr n a) k (wn (itr n a))) (nn (itr n a)))) R w (SC.same w C ⟨s3, ce, f3⟩) (fun s hs => ?_)
    obtain ⟨t, ρ, e1, e2, e3⟩ := re s hs
    rw [if_pos h9] at e1
    exact ⟨_, e1, e2, e3⟩
  · rw [if_neg h9] at ce
    refine join (l' := l) (-1000000004 : Int32) R (Wok_xt (i := 3) w) (SC.pre (Hi_fre f3) ?_) (fun s hs => ?_)
    · rw [ce]; exact C_tell w 3 (e := -1000000004) (by omega) (by decide) (C.fr w f3)
    · obtain ⟨t, ρ, e1, e2, e3⟩ := re s hs
      rw [if_neg h9] at e1
      refine SR.pre e3 ?_
      rw [e1]; exact R_finds 3 (e := -1000000004) (by omega) (by decide) e2
