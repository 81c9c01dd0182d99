/-! many hours; another yard alike -/
def itr : Nat → kY → kY
  | 0, a => a
  | n + 1, a => itr n (hour a)
theorem nn_itr : ∀ (n : Nat) (a : kY), nn (itr n a) = nn a
  | 0, _ => rfl
  | n + 1, a => by unfold itr; rw [nn_itr n, nn_hour]
theorem Ok_itr : ∀ (n : Nat) {a : kY}, Ok a → Ok (itr n a)
  | 0, _, h => h
  | n + 1, _, h => Ok_itr n (Ok_hour h)
theorem itr_00 : ∀ (n : Nat) (a : kY), itr n a 0 0 = a 0 0 + n ∧ itr n a 0 1 = a 0 1
  | 0, a => by simp [itr]
  | n + 1, a => by
    unfold itr
    have := itr_00 n (hour a)
    rw [(hour_0 a).1, (hour_0 a).2] at this
    omega
/-- in how many hours it is no longer 1 -/
def gone (i j : Nat) : Nat → kY → Nat
  | 0, _ => 0
  | r + 1, a => if a i j = 1 then gone i j r (hour a) + 1 else 0
theorem gone_le (i j : Nat) : ∀ (r : Nat) (a : kY), gone i j r a ≤ r
  | 0, _ => Nat.le_refl 0
  | r + 1, a => by have := gone_le i j r (hour a); unfold gone; split <;> omega
/-- whether it stays 1 -/
def lst (i j : Nat) : Nat → kY → Int
  | 0, a => a i j
  | r + 1, a => if a i j = 1 then lst i j r (hour a) else 0
theorem S_ph2 {c n : Nat} (hn : n ≤ 1000) : ∀ (r k : Nat), k + r = n → ∀ fuel, r < fuel → ∀ (st : kM) (b : kY), CY st c b → Ok b → b 0 0 + r < 2000000000 → ∃ st', fX4_passHours_2 c fuel (iI n) (iI k) st = some st' ∧ Fr (yc c) st st' ∧ CY st' c (itr r b) := by
  intro r
  induction r with
  | zero =>
    intro k hk fuel hf st b h ok hb
    obtain ⟨f, rfl⟩ : ∃ f, fuel = f + 1 := ⟨fuel - 1, by omega⟩
    refine ⟨st, ?_, Fr.rf, h⟩
    unfold fX4_passHours_2
    simp (disch := omega) only [iI_ofNat, iI_add, iI_sub, iI_mul, iI_neg, iI_lt, iI_le, iI_eq, iI_cl]
    rw [if_pos (by omega)]
  | succ r ih =>
    intro k hk fuel hf st b h ok hb
    obtain ⟨f, rfl⟩ : ∃ f, fuel = f + 1 := ⟨fuel - 1, by omega⟩
    have e2 : iI ((k : Int) + 1) = iI ((k + 1 : Nat) : Int) := rfl
    obtain ⟨s2, q1, q2, q3⟩ := S_passHour h ok (by omega)
    obtain ⟨s3, p1, p2, p3⟩ := ih (k + 1) (by omega) f (by omega) s2 (hour b) q3 (Ok_hour ok) (by rw [(hour_0 b).1]; omega)
    refine ⟨s3, ?_, q2.tr p2, p3⟩
    unfold fX4_passHours_2
    rw [q1, Option.bind_some]
    simp (disch := omega) only [iI_ofNat, iI_add, iI_sub, iI_mul, iI_neg, iI_lt, iI_le, iI_eq, iI_cl]
    rw [if_neg (by omega), e2]
    exact p1
theorem S_passHours {st : kM} {c n : Nat} {a : kY} (h : CY st c a) (ok : Ok a) (hn : n ≤ 1000) (hb : a 0 0 < 1000000000) : ∃ st', fX4_passHours c (iI n) st = some st' ∧ Fr (yc c) st st' ∧ CY st' c (itr n a) :=
  S_ph2 hn n 0 (by omega) kfu (by unfold kfu; omega) st a h ok (by omega)
theorem lst_rng {i j : Nat} : ∀ (r : Nat) {a : kY}, a i j = 0 ∨ a i j = 1 → (∀ (b : kY), b i j = 0 ∨ b i j = 1 → hour b i j = 0 ∨ hour b i j = 1) → lst i j r a = 0 ∨ lst i j r a = 1
  | 0, _, h, _ => h
  | r + 1, a, h, hs => by
    unfold lst
    split
    · exact lst_rng r (hs a h) hs
    · exact Or.inl rfl
theorem S_su2 {c n m : Nat} (hn : n ≤ 1000) (hm : m < 4) : ∀ (r k : Nat), k + r = n → ∀ fuel, r < fuel → ∀ (st : kM) (b : kY), CY st c b → Ok b → b 0 0 + r < 2000000000 → ∃ st', fX4_staysUp_2 c fuel (iI m) (iI n) (iI k) st = some (iI (lst 3 m r b), st') ∧ Fr (yc c) st st' := by
  intro r
  induction r with
  | zero =>
    intro k hk fuel hf st b h ok hb
    obtain ⟨f, rfl⟩ : ∃ f, fuel = f + 1 := ⟨fuel - 1, by omega⟩
    have hu : ∀ m, m < 4 → b 3 m = 0 ∨ b 3 m = 1 := fun m hm => (ok.2.2.2.1 m hm).2
    have hum := hu m hm
    refine ⟨st, ?_, Fr.rf⟩
    unfold fX4_staysUp_2
    rw [S_isUp h.1.2.2 hu hm, Option.bind_some]
    simp (disch := omega) only [iI_ofNat, iI_add, iI_sub, iI_mul, iI_neg, iI_lt, iI_le, iI_eq, iI_cl]
    rw [if_pos (by omega), if_pos (by omega)]
    rfl
  | succ r ih =>
    intro k hk fuel hf st b h ok hb
    obtain ⟨f, rfl⟩ : ∃ f, fuel = f + 1 := ⟨fuel - 1, by omega⟩
    have hu : ∀ m, m < 4 → b 3 m = 0 ∨ b 3 m = 1 := fun m hm => (ok.2.2.2.1 m hm).2
    have hum := hu m hm
    have e2 : iI ((k : Int) + 1) = iI ((k + 1 : Nat) : Int) := rfl
    unfold fX4_staysUp_2 lst
    simp only [S_isUp h.1.2.2 hu hm, Option.bind_some]
    simp (disch := omega) only [iI_ofNat, iI_add, iI_sub, iI_mul, iI_neg, iI_lt, iI_le, iI_eq, iI_cl]
    rw [if_neg (by omega), e2]
    by_cases h9 : b 3 m = 1
    · obtain ⟨s2, q1, q2, q3⟩ := S_passHour h ok (by omega)
      obtain ⟨s3, p1, p2⟩ := ih (k + 1) (by omega) f (by omega) s2 (hour b) q3 (Ok_hour ok) (by rw [(hour_0 b).1]; omega)
      refine ⟨s3, ?_, q2.tr p2⟩
      rw [if_neg (by omega), q1, Option.bind_some, if_pos h9]
      exact p1
    · refine ⟨st, ?_, Fr.rf⟩
      rw [if_pos (by omega), if_pos (by omega), if_neg h9, show b 3 m = 0 by omega]
theorem S_staysUp {st : kM} {c n m : Nat} {a : kY} (h : CY st c a) (ok : Ok a) (hn : n ≤ 1000) (hm : m < 4) (hb : a 0 0 < 1000000000) : ∃ st', fX4_staysUp c (iI m) (iI n) st = some (iI (lst 3 m n a), st') ∧ Fr (yc c) st st' :=
  S_su2 hn hm n 0 (by omega) kfu (by unfold kfu; omega) st a h ok (by omega)
theorem S_sf2 {c n x : Nat} (hn : n ≤ 1000) : ∀ (r k : Nat), k + r = n → ∀ fuel, r < fuel → ∀ (st : kM) (b : kY), CY st c b → Ok b → x < nn b → b 0 0 + r < 2000000000 → ∃ st', fX4_staysFast_2 c fuel (c + 5 + x) (iI n) (iI k) st = some (iI (lst (4 + x) 4 r b), st') ∧ Fr (yc c) st st' := by
  intro r
  induction r with
  | zero =>
    intro k hk fuel hf st b h ok hx hb
    obtain ⟨f, rfl⟩ : ∃ f, fuel = f + 1 := ⟨fuel - 1, by omega⟩
    have hum := (ok.2.2.2.2 x hx).2.2.2.2
    have g4 := (h.2.2.2 x hx).get.2.2.2.2
    refine ⟨st, ?_, Fr.rf⟩
    unfold fX4_staysFast_2
    rw [g4]
    simp (disch := omega) only [iI_ofNat, iI_add, iI_sub, iI_mul, iI_neg, iI_lt, iI_le, iI_eq, iI_cl]
    rw [if_pos (by omega), if_pos (by omega)]
    rfl
  | succ r ih =>
    intro k hk fuel hf st b h ok hx hb
    obtain ⟨f, rfl⟩ : ∃ f, fuel = f + 1 := ⟨fuel - 1, by omega⟩
    have hum := (ok.2.2.2.2 x hx).2.2.2.2
    have g4 := (h.2.2.2 x hx).get.2.2.2.2
    have e2 : iI ((k : Int) + 1) = iI ((k + 1 : Nat) : Int) := rfl
    unfold fX4_staysFast_2 lst
    rw [g4]
    simp (disch := omega) only [iI_ofNat, iI_add, iI_sub, iI_mul, iI_neg, iI_lt, iI_le, iI_eq, iI_cl]
    rw [if_neg (by omega), e2]
    by_cases h9 : b (4 + x) 4 = 1
    · obtain ⟨s2, q1, q2, q3⟩ := S_passHour h ok (by omega)
      obtain ⟨s3, p1, p2⟩ := ih (k + 1) (by omega) f (by omega) s2 (hour b) q3 (Ok_hour ok) (by rw [nn_hour]; exact hx) (by rw [(hour_0 b).1]; omega)
      refine ⟨s3, ?_, q2.tr p2⟩
      rw [if_neg (by omega), q1, Option.bind_some, if_pos h9]
      exact p1
    · refine ⟨st, ?_, Fr.rf⟩
      rw [if_pos (by omega), if_pos (by omega), if_neg h9, show b (4 + x) 4 = 0 by omega]
theorem S_staysFast {st : kM} {c n x : Nat} {a : kY} (h : CY st c a) (ok : Ok a) (hn : n ≤ 1000) (hx : x < nn a) (hb : a 0 0 < 1000000000) : ∃ st', fX4_staysFast c (c + 5 + x) (iI n) st = some (iI (lst (4 + x) 4 n a), st') ∧ Fr (yc c) st st' :=
  S_sf2 hn n 0 (by omega) kfu (by unfold kfu; omega) st a h ok hx (by omega)
theorem S_hf2 {c m : Nat} (hm : m < 4) : ∀ (r k : Nat), k + r = 201 → ∀ fuel, r < fuel → ∀ (st : kM) (b : kY), CY st c b → Ok b → b 0 0 + r < 2000000000 → ∃ st', fX4_hoursTillFallen_2 c fuel (iI m) (iI k) st = some (iI ((k + gone 3 m r b : Nat) : Int), st') ∧ Fr (yc c) st st' := by
  intro r
  induction r with
  | zero =>
    intro k hk fuel hf st b h ok hb
    obtain ⟨f, rfl⟩ : ∃ f, fuel = f + 1 := ⟨fuel - 1, by omega⟩
    refine ⟨st, ?_, Fr.rf⟩
    unfold fX4_hoursTillFallen_2
    simp (disch := omega) only [iI_ofNat, iI_add, iI_sub, iI_mul, iI_neg, iI_lt, iI_le, iI_eq, iI_cl]
    rw [if_pos (by omega)]
    rfl
  | succ r ih =>
    intro k hk fuel hf st b h ok hb
    obtain ⟨f, rfl⟩ : ∃ f, fuel = f + 1 := ⟨fuel - 1, by omega⟩
    have hu : ∀ m, m < 4 → b 3 m = 0 ∨ b 3 m = 1 := fun m hm => (ok.2.2.2.1 m hm).2
    have hum := hu m hm
    have e2 : iI ((k : Int) + 1) = iI ((k + 1 : Nat) : Int) := rfl
    unfold fX4_hoursTillFallen_2 gone
    simp only [S_isUp h.1.2.2 hu hm, Option.bind_some]
    simp (disch := omega) only [iI_ofNat, iI_add, iI_sub, iI_mul, iI_neg, iI_lt, iI_le, iI_eq, iI_cl]
    rw [if_neg (by omega), e2]
    by_cases h9 : b 3 m = 1
    · obtain ⟨s2, q1, q2, q3⟩ := S_passHour h ok (by omega)
      obtain ⟨s3, p1, p2⟩ := ih (k + 1) (by omega) f (by omega) s2 (hour b) q3 (Ok_hour ok) (by rw [(hour_0 b).1]; omega)
      refine ⟨s3, ?_, q2.tr p2⟩
      rw [if_neg (by omega), q1, Option.bind_some, if_pos h9, show k + (gone 3 m r (hour b) + 1) = k + 1 + gone 3 m r (hour b) by omega]
      exact p1
    · refine ⟨st, ?_, Fr.rf⟩
      rw [if_pos (by omega), if_neg h9]
      rfl
theorem S_fallen {st : kM} {c m : Nat} {a : kY} (h : CY st c a) (ok : Ok a) (hm : m < 4) (hb : a 0 0 < 1000000000) : ∃ st', fX4_hoursTillFallen c (iI m) st = some (iI ((gone 3 m 201 a : Nat) : Int), st') ∧ Fr (yc c) st st' := by
  have := S_hf2 hm 201 0 (by omega) kfu (by unfold kfu; omega) st a h ok (by omega)
  rw [Nat.zero_add] at this
  exact this
theorem S_hl2 {c x : Nat} : ∀ (r k : Nat), k + r = 201 → ∀ fuel, r < fuel → ∀ (st : kM) (b : kY), CY st c b → Ok b → x < nn b → b 0 0 + r < 2000000000 → ∃ st', fX4_hoursTillLoose_2 c fuel (c + 5 + x) (iI k) st = some (iI ((k + gone (4 + x) 4 r b : Nat) : Int), st') ∧ Fr (yc c) st st' := by
  intro r
  induction r with
  | zero =>
    intro k hk fuel hf st b h ok hx hb
    obtain ⟨f, rfl⟩ : ∃ f, fuel = f + 1 := ⟨fuel - 1, by omega⟩
    refine ⟨st, ?_, Fr.rf⟩
    unfold fX4_hoursTillLoose_2
    simp (disch := omega) only [iI_ofNat, iI_add, iI_sub, iI_mul, iI_neg, iI_lt, iI_le, iI_eq, iI_cl]
    rw [if_pos (by omega)]
    rfl
  | succ r ih =>
    intro k hk fuel hf st b h ok hx hb
    obtain ⟨f, rfl⟩ : ∃ f, fuel = f + 1 := ⟨fuel - 1, by omega⟩
    have hum := (ok.2.2.2.2 x hx).2.2.2.2
    have g4 := (h.2.2.2 x hx).get.2.2.2.2
    have e2 : iI ((k : Int) + 1) = iI ((k + 1 : Nat) : Int) := rfl
    unfold fX4_hoursTillLoose_2 gone
    rw [g4]
    simp (disch := omega) only [iI_ofNat, iI_add, iI_sub, iI_mul, iI_neg, iI_lt, iI_le, iI_eq, iI_cl]
    rw [if_neg (by omega), e2]
    by_cases h9 : b (4 + x) 4 = 1
    · obtain ⟨s2, q1, q2, q3⟩ := S_passHour h ok (by omega)
      obtain ⟨s3, p1, p2⟩ := ih (k + 1) (by omega) f (by omega) s2 (hour b) q3 (Ok_hour ok) (by rw [nn_hour]; exact hx) (by rw [(hour_0 b).1]; omega)
      refine ⟨s3, ?_, q2.tr p2⟩
      rw [if_neg (by omega), q1, Option.bind_some, if_pos h9, show k + (gone (4 + x) 4 r (hour b) + 1) = k + 1 + gone (4 + x) 4 r (hour b) by omega]
      exact p1
    · refine ⟨st, ?_, Fr.rf⟩
      rw [if_pos (by omega), if_neg h9]
      rfl
theorem S_loose {st : kM} {c x : Nat} {a : kY} (h : CY st c a) (ok : Ok a) (hx : x < nn a) (hb : a 0 0 < 1000000000) : ∃ st', fX4_hoursTillLoose c (c + 5 + x) st = some (iI ((gone (4 + x) 4 201 a : Nat) : Int), st') ∧ Fr (yc c) st st' := by
  have := S_hl2 (c := c) (x := x) 201 0 (by omega) kfu (by unfold kfu; omega) st a h ok hx (by omega)
  rw [Nat.zero_add] at this
  exact this
-- a yard becomes another
theorem S_be55 {c c1 : Nat} {a : kY} (ok : Ok a) (hd : c + 15 ≤ c1 ∨ c1 + 15 ≤ c) : ∀ (r k : Nat), k + r = nn a → ∀ fuel, r < fuel → ∀ st : kM, st.1 c 1 = iI (a 0 1) → (∀ i, i < nn a → Kr st (c1 + 5 + i) (a (4 + i))) → (∀ i, i < k → Kr st (c + 5 + i) (a (4 + i))) → ∃ st', fX4_become_55 c fuel c1 (iI k) st = some st' ∧ Fr (fun b => c + 5 ≤ b ∧ b < c + 15) st st' ∧ ∀ i, i < nn a → Kr st' (c + 5 + i) (a (4 + i)) := by
  intro r
  have hn := ok.n10
  induction r with
  | zero =>
    intro k hk fuel hf st h0 h1 h2
    obtain ⟨f, rfl⟩ : ∃ f, fuel = f + 1 := ⟨fuel - 1, by omega⟩
    refine ⟨st, ?_, Fr.rf, fun i hi => h2 i (by omega)⟩
    unfold fX4_become_55
    rw [h0]
    simp (disch := omega) only [iI_ofNat, iI_add, iI_sub, iI_mul, iI_neg, iI_lt, iI_le, iI_eq, iI_cl]
    rw [if_pos (by omega)]
  | succ r ih =>
    intro k hk fuel hf st h0 h1 h2
    obtain ⟨f, rfl⟩ : ∃ f, fuel = f + 1 := ⟨fuel - 1, by omega⟩
    have e2 : iI ((k : Int) + 1) = iI ((k + 1 : Nat) : Int) := rfl
    obtain ⟨s2, q1, q2, q3⟩ := S_beLike (c := c + 5 + k) (h1 k (by omega)) (ok.2.2.2.2 k (by omega)) (by omega)
    obtain ⟨s3, p1, p2, p3⟩ := ih (k + 1) (by omega) f (by omega) s2 (by rw [q2.2 _ (by omega)]; exact h0) (fun i hi => (h1 i hi).cong (q2.2 _ (by omega)) (fun _ _ => rfl)) (fun i hi => by
      by_cases e : i = k
      · subst e; exact q3
      · exact (h2 i (by omega)).cong (q2.2 _ (by omega)) (fun _ _ => rfl))
    refine ⟨s3, ?_, (q2.mono (fun b hb => by omega)).tr p2, p3⟩
    unfold fX4_become_55
    rw [h0]
    simp (disch := omega) only [iI_ofNat, iI_add, iI_sub, iI_mul, iI_neg, iI_lt, iI_le, iI_eq, iI_cl, Int.toNat_natCast]
    rw [if_neg (by omega), if_neg (by omega), q1, Option.bind_some, e2]
    exact p1
theorem S_become {st : kM} {c c1 : Nat} {a : kY} (h : CY st c1 a) (ok : Ok a) (hd : c + 15 ≤ c1 ∨ c1 + 15 ≤ c) : ∃ st', fX4_become c c1 st = some st' ∧ Fr (yc c) st st' ∧ CY st' c a := by
  have hn := ok.n10
  unfold fX4_become
  simp only [Option.bind_some]
  rw [show ((0 : Int32).toNatClampNeg) = 0 from rfl, show ((12 : Int32).toNatClampNeg) = 12 from rfl, show ((4 : Int32).toNatClampNeg) = 4 from rfl]
  refine Exists.elim (S_be55 (c := c) (c1 := c1) ok hd (nn a) 0 (by omega) kfu (by unfold kfu; omega) _ ?_ ?_ ?_) (fun s9 q => ⟨s9, q.1, ?_, ?_⟩)
  · simp (disch := omega) only [kset_ne, kwr_ne, kwr_same, up_eq, up_ne]
    exact h.1.2.1
  · intro i hi
    refine (h.2.2.2 i hi).cong ?_ (fun _ _ => rfl)
    simp (disch := omega) only [kset_ne, kwr_ne]
  · intro i hi; omega
  · have m := q.2.1.mono (Q := yc c) (fun b hb => ⟨by omega, by omega⟩)
    refine Fr.tr ?_ m
    exact ((((Fr.wr 0 _ (by unfold yc; omega)).tr (Fr.wr 1 _ (by unfold yc; omega))).tr (Fr.wr 2 _ (by unfold yc; omega))).tr (Fr.set _ (by unfold yc; omega))).tr (Fr.set _ (by unfold yc; omega))
  · have fr := q.2.1.2
    refine ⟨⟨?_, ?_, ?_⟩, ?_, ?_, q.2.2⟩
    · rw [fr _ (by omega)]
      simp (disch := omega) only [kset_ne, kwr_ne, kwr_same, up_eq, up_ne]
      exact h.1.1
    · rw [fr _ (by omega)]
      simp (disch := omega) only [kset_ne, kwr_ne, kwr_same, up_eq, up_ne]
      exact h.1.2.1
    · rw [fr _ (by omega)]
      simp (disch := omega) only [kset_ne, kwr_ne, kwr_same, up_eq, up_ne]
      exact h.1.2.2
    · intro i hi
      rw [fr _ (by omega)]
      simp (disch := omega) only [kset_ne, kset_same, kwr_ne]
      unfold va_cpy
      rw [if_pos (by omega), show 0 + (i - 0) = i by omega]
      exact h.2.1 i hi
    · intro i hi
      rw [fr _ (by omega)]
      simp (disch := omega) only [kset_ne, kset_same, kwr_ne]
      unfold va_cpy
      rw [if_pos (by omega), show 0 + (i - 0) = i by omega]
      exact h.2.2.1 i hi
-- the reference
theorem R_ps2 {n : Nat} {st : kM} (hn : n ≤ 1000) : ∀ (r k : Nat), k + r = n → ∀ fuel, r < fuel → ∀ (ρ : Nat → Int32) (b : kY), RR ρ b → Ok b → b 0 0 + r < 2000000000 → ∃ ρ', fX6_passes_2 fuel (iI n) (iI k) (kset st 60 ρ) = some (kset st 60 ρ') ∧ RR ρ' (itr r b) := by
  intro r
  induction r with
  | zero =>
    intro k hk fuel hf ρ b h ok hb
    obtain ⟨f, rfl⟩ : ∃ f, fuel = f + 1 := ⟨fuel - 1, by omega⟩
    refine ⟨ρ, ?_, h⟩
    unfold fX6_passes_2
    simp (disch := omega) only [iI_ofNat, iI_add, iI_sub, iI_mul, iI_neg, iI_lt, iI_le, iI_eq, iI_cl]
    rw [if_pos (by omega)]
  | succ r ih =>
    intro k hk fuel hf ρ b h ok hb
    obtain ⟨f, rfl⟩ : ∃ f, fuel = f + 1 := ⟨fuel - 1, by omega⟩
    have e2 : iI ((k : Int) + 1) = iI ((k + 1 : Nat) : Int) := rfl
    obtain ⟨ρ2, q1, q3⟩ := R_oneHour (st := st) h ok (by omega)
    obtain ⟨ρ3, p1, p3⟩ := ih (k + 1) (by omega) f (by omega) ρ2 (hour b) q3 (Ok_hour ok) (by rw [(hour_0 b).1]; omega)
    refine ⟨ρ3, ?_, p3⟩
    unfold fX6_passes_2
    rw [q1, Option.bind_some]
    simp (disch := omega) only [iI_ofNat, iI_add, iI_sub, iI_mul, iI_neg, iI_lt, iI_le, iI_eq, iI_cl]
    rw [if_neg (by omega), e2]
    exact p1
theorem R_passes {st : kM} {ρ : Nat → Int32} {n : Nat} {a : kY} (h : RR ρ a) (ok : Ok a) (hn : n ≤ 1000) (hb : a 0 0 < 1000000000) : ∃ ρ', fX6_passes (iI n) (kset st 60 ρ) = some (kset st 60 ρ') ∧ RR ρ' (itr n a) :=
  R_ps2 hn n 0 (by omega) kfu (by unfold kfu; omega) ρ a h ok (by omega)
theorem R_mv0 {c : Nat} {st : kM} (hc : c ≠ 60) : ∀ (r k : Nat), k + r = 72 → ∀ fuel, r < fuel → ∀ ρ : Nat → Int32, (∀ j, j < k → ρ j = st.1 c j) → ∃ ρ', fX6_moveAll_2 fuel 0 c (iI k) (kset st 60 ρ) = some (kset st 60 ρ') ∧ ∀ j, j < 72 → ρ' j = st.1 c j := by
  intro r
  induction r with
  | zero =>
    intro k hk fuel hf ρ h
    obtain ⟨f, rfl⟩ : ∃ f, fuel = f + 1 := ⟨fuel - 1, by omega⟩
    refine ⟨ρ, ?_, fun j hj => h j (by omega)⟩
    unfold fX6_moveAll_2
    simp (disch := omega) only [iI_ofNat, iI_add, iI_sub, iI_mul, iI_neg, iI_lt, iI_le, iI_eq, iI_cl]
    rw [if_pos (by omega)]
  | succ r ih =>
    intro k hk fuel hf ρ h
    obtain ⟨f, rfl⟩ : ∃ f, fuel = f + 1 := ⟨fuel - 1, by omega⟩
    have e2 : iI ((k : Int) + 1) = iI ((k + 1 : Nat) : Int) := rfl
    obtain ⟨ρ3, p1, p3⟩ := ih (k + 1) (by omega) f (by omega) (va_up ρ k (st.1 c k)) (fun j hj => by
      by_cases e : j = k
      · subst e; rw [up_eq]
      · rw [up_ne _ _ e]; exact h j (by omega))
    refine ⟨ρ3, ?_, p3⟩
    unfold fX6_moveAll_2
    simp (disch := omega) only [iI_ofNat, iI_add, iI_le, iI_lt, iI_cl, Int.toNat_natCast, Option.bind_some, kwr_kset, kset_ne]
    rw [if_neg (by omega), if_pos trivial, if_neg (by omega), e2]
    exact p1
theorem R_move0 {c : Nat} {st : kM} {ρ : Nat → Int32} (hc : c ≠ 60) : ∃ ρ', fX6_moveAll 0 c (kset st 60 ρ) = some (kset st 60 ρ') ∧ ∀ j, j < 72 → ρ' j = st.1 c j :=
  R_mv0 hc 72 0 (by omega) kfu (by unfold kfu; omega) ρ (fun j hj => absurd hj (by omega))
theorem R_mv1 {c : Nat} {st : kM} (hc : c ≠ 60) : ∀ (r k : Nat), k + r = 72 → ∀ fuel, r < fuel → ∀ φ : Nat → Int32, (∀ j, j < k → φ j = st.1 60 j) → ∃ φ', fX6_moveAll_2 fuel 1 c (iI k) (kset st c φ) = some (kset st c φ') ∧ ∀ j, j < 72 → φ' j = st.1 60 j := by
  intro r
  induction r with
  | zero =>
    intro k hk fuel hf ρ h
    obtain ⟨f, rfl⟩ : ∃ f, fuel = f + 1 := ⟨fuel - 1, by omega⟩
    refine ⟨ρ, ?_, fun j hj => h j (by omega)⟩
    unfold fX6_moveAll_2
    simp (disch := omega) only [iI_ofNat, iI_add, iI_sub, iI_mul, iI_neg, iI_lt, iI_le, iI_eq, iI_cl]
    rw [if_pos (by omega)]
  | succ r ih =>
    intro k hk fuel hf ρ h
    obtain ⟨f, rfl⟩ : ∃ f, fuel = f + 1 := ⟨fuel - 1, by omega⟩
    have e2 : iI ((k : Int) + 1) = iI ((k + 1 : Nat) : Int) := rfl
    obtain ⟨ρ3, p1, p3⟩ := ih (k + 1) (by omega) f (by omega) (va_up ρ k (st.1 60 k)) (fun j hj => by
      by_cases e : j = k
      · subst e; rw [up_eq]
      · rw [up_ne _ _ e]; exact h j (by omega))
    refine ⟨ρ3, ?_, p3⟩
    unfold fX6_moveAll_2
    have hne : (kset st c ρ).1 60 = st.1 60 := kset_ne _ _ (Ne.symm hc)
    rw [hne]
    simp (disch := omega) only [iI_ofNat, iI_add, iI_le, iI_lt, iI_cl, Int.toNat_natCast, Option.bind_some, kwr_kset]
    rw [if_neg (by omega), if_neg (by decide), if_neg (by omega), e2]
    exact p1
theorem R_move1 {c : Nat} {st : kM} (hc : c ≠ 60) : ∃ φ, fX6_moveAll 1 c st = some (kset st c φ) ∧ ∀ j, j < 72 → φ j = st.1 60 j := by
  have := R_mv1 (st := st) hc 72 0 (by omega) kfu (by unfold kfu; omega) (st.1 c) (fun j hj => absurd hj (by omega))
  rw [kset_self] at this
  exact this
theorem RR.row {ρ ρ' : Nat → Int32} {a : kY} (h : RR ρ a) (ok : Ok a) (he : ∀ j, j < 72 → ρ' j = ρ j) : RR ρ' a := by
  have hn := ok.n10
  refine ⟨by rw [he _ (by omega)]; exact h.1, by rw [he _ (by omega)]; exact h.2.1, fun i hi => by rw [he _ (by omega)]; exact h.2.2.1 i hi, fun m hm => ⟨by rw [he _ (by omega)]; exact (h.2.2.2.1 m hm).1, by rw [he _ (by omega)]; exact (h.2.2.2.1 m hm).2⟩, fun k hk j hj => by rw [he _ (by omega)]; exact h.2.2.2.2 k hk j hj⟩
/-- place x of the row is number i j of the yard -/
def Ix (x i j N : Nat) : Prop := x < 72 ∧ ∀ (ρ : Nat → Int32) (b : kY), RR ρ b → Ok b → nn b = N → ρ x = iI (b i j) ∧ (b i j = 0 ∨ b i j = 1)
theorem Ix_m {m N : Nat} (hm : m < 4) : Ix (14 + 2 * m + 1) 3 m N := ⟨by omega, fun _ _ h ok _ => ⟨(h.2.2.2.1 m hm).2, (ok.2.2.2.1 m hm).2⟩⟩
theorem Ix_k {k N : Nat} (hk : k < N) (hN : N ≤ 10) : Ix (22 + 5 * k + 3) (4 + k) 4 N := ⟨by omega, fun _ b h ok e => ⟨h.2.2.2.2 k (by omega) 3 (by omega), (ok.2.2.2.2 k (by omega)).2.2.2.2⟩⟩
theorem R_gi2 {st : kM} {x i j N : Nat} (hx : Ix x i j N) : ∀ (r k : Nat), k + r = 201 → ∀ fuel, r < fuel → ∀ (ρ : Nat → Int32) (b : kY), RR ρ b → Ok b → nn b = N → b 0 0 + r < 2000000000 → ∃ ρ', fX6_goneIn_2 fuel (iI x) (iI k) (kset st 60 ρ) = some (iI ((k + gone i j r b : Nat) : Int), kset st 60 ρ') ∧ ∀ l, l < 72 → ρ' l = st.1 62 l := by
  intro r
  have hx0 := hx.1
  induction r with
  | zero =>
    intro k hk fuel hf ρ b h ok hN hb
    obtain ⟨f, rfl⟩ : ∃ f, fuel = f + 1 := ⟨fuel - 1, by omega⟩
    obtain ⟨ρ2, q1, q2⟩ := R_move0 (c := 62) (st := st) (ρ := ρ) (by omega)
    refine ⟨ρ2, ?_, q2⟩
    unfold fX6_goneIn_2
    simp only [q1, Option.bind_some]
    simp (disch := omega) only [iI_ofNat, iI_add, iI_sub, iI_mul, iI_neg, iI_lt, iI_le, iI_eq, iI_cl]
    rw [if_pos (by omega)]
    rfl
  | succ r ih =>
    intro k hk fuel hf ρ b h ok hN hb
    obtain ⟨f, rfl⟩ : ∃ f, fuel = f + 1 := ⟨fuel - 1, by omega⟩
    have e2 : iI ((k : Int) + 1) = iI ((k + 1 : Nat) : Int) := rfl
    obtain ⟨g1, g2⟩ := hx.2 ρ b h ok hN
    obtain ⟨ρ2, q1, q2⟩ := R_move0 (c := 62) (st := st) (ρ := ρ) (by omega)
    obtain ⟨ρ4, s1, s2⟩ := R_oneHour (st := st) h ok (by omega)
    unfold fX6_goneIn_2 gone
    simp only [q1, s1, Option.bind_some, kset_same]
    simp (disch := omega) only [iI_ofNat, iI_add, iI_sub, iI_mul, iI_neg, iI_lt, iI_le, iI_eq, iI_cl, Int.toNat_natCast]
    rw [g1]
    simp (disch := omega) only [iI_ofNat, iI_add, iI_sub, iI_mul, iI_neg, iI_lt, iI_le, iI_eq, iI_cl, Int.toNat_natCast]
    rw [if_neg (by omega), if_neg (by omega), e2]
    by_cases h9 : b i j = 1
    · obtain ⟨ρ5, p1, p2⟩ := ih (k + 1) (by omega) f (by omega) ρ4 (hour b) s2 (Ok_hour ok) (by rw [nn_hour]; exact hN) (by rw [(hour_0 b).1]; omega)
      refine ⟨ρ5, ?_, p2⟩
      rw [if_pos h9, if_pos h9, show k + (gone i j r (hour b) + 1) = k + 1 + gone i j r (hour b) by omega]
      exact p1
    · refine ⟨ρ2, ?_, q2⟩
      rw [if_neg h9, if_neg h9]
      rfl
theorem R_goneIn {st : kM} {x i j : Nat} {ρ : Nat → Int32} {a : kY} (hx : Ix x i j (nn a)) (h : RR ρ a) (ok : Ok a) (hb : a 0 0 < 1000000000) : ∃ ρ', fX6_goneIn (iI x) (kset st 60 ρ) = some (iI ((gone i j 201 a : Nat) : Int), kset st 60 ρ') ∧ ∀ l, l < 72 → ρ' l = st.1 62 l := by
  have := R_gi2 (st := st) hx 201 0 (by omega) kfu (by unfold kfu; omega) ρ a h ok rfl (by omega)
  rw [Nat.zero_add] at this
  exact this
theorem R_la2 {st : kM} {x i j N n : Nat} (hx : Ix x i j N) (hn : n ≤ 1000) : ∀ (r k : Nat), k + r = n → ∀ fuel, r < fuel → ∀ (ρ : Nat → Int32) (b : kY), RR ρ b → Ok b → nn b = N → b 0 0 + r < 2000000000 → ∃ ρ', fX6_lasts_2 fuel (iI x) (iI n) (iI k) (kset st 60 ρ) = some (iI (lst i j r b), kset st 60 ρ') ∧ ∀ l, l < 72 → ρ' l = st.1 62 l := by
  intro r
  have hx0 := hx.1
  induction r with
  | zero =>
    intro k hk fuel hf ρ b h ok hN hb
    obtain ⟨f, rfl⟩ : ∃ f, fuel = f + 1 := ⟨fuel - 1, by omega⟩
    obtain ⟨g1, g2⟩ := hx.2 ρ b h ok hN
    obtain ⟨ρ2, q1, q2⟩ := R_move0 (c := 62) (st := st) (ρ := ρ) (by omega)
    refine ⟨ρ2, ?_, q2⟩
    unfold fX6_lasts_2 fX6_lasts_27 lst
    simp only [q1, Option.bind_some, kset_same]
    simp (disch := omega) only [iI_ofNat, iI_add, iI_sub, iI_mul, iI_neg, iI_lt, iI_le, iI_eq, iI_cl, Int.toNat_natCast]
    rw [g1]
    simp (disch := omega) only [iI_ofNat, iI_add, iI_sub, iI_mul, iI_neg, iI_lt, iI_le, iI_eq, iI_cl, Int.toNat_natCast]
    rw [if_pos (by omega), if_neg (by omega)]
    by_cases h9 : b i j = 1
    · rw [if_pos h9, h9]
    · rw [if_neg h9, show b i j = 0 by omega]
  | succ r ih =>
    intro k hk fuel hf ρ b h ok hN hb
    obtain ⟨f, rfl⟩ : ∃ f, fuel = f + 1 := ⟨fuel - 1, by omega⟩
    have e2 : iI ((k : Int) + 1) = iI ((k + 1 : Nat) : Int) := rfl
    obtain ⟨g1, g2⟩ := hx.2 ρ b h ok hN
    obtain ⟨ρ2, q1, q2⟩ := R_move0 (c := 62) (st := st) (ρ := ρ) (by omega)
    obtain ⟨ρ4, s1, s2⟩ := R_oneHour (st := st) h ok (by omega)
    unfold fX6_lasts_2 fX6_lasts_27 lst
    simp only [q1, s1, Option.bind_some, kset_same]
    simp (disch := omega) only [iI_ofNat, iI_add, iI_sub, iI_mul, iI_neg, iI_lt, iI_le, iI_eq, iI_cl, Int.toNat_natCast]
    rw [g1]
    simp (disch := omega) only [iI_ofNat, iI_add, iI_sub, iI_mul, iI_neg, iI_lt, iI_le, iI_eq, iI_cl, Int.toNat_natCast]
    rw [if_neg (by omega), if_neg (by omega), e2]
    by_cases h9 : b i j = 1
    · obtain ⟨ρ5, p1, p2⟩ := ih (k + 1) (by omega) f (by omega) ρ4 (hour b) s2 (Ok_hour ok) (by rw [nn_hour]; exact hN) (by rw [(hour_0 b).1]; omega)
      refine ⟨ρ5, ?_, p2⟩
      rw [if_pos h9, if_pos h9]
      exact p1
    · refine ⟨ρ2, ?_, q2⟩
      rw [if_neg h9, if_neg h9, if_neg (by omega), if_neg h9]
theorem R_lasts {st : kM} {x i j n : Nat} {ρ : Nat → Int32} {a : kY} (hx : Ix x i j (nn a)) (hn : n ≤ 1000) (h : RR ρ a) (ok : Ok a) (hb : a 0 0 < 1000000000) : ∃ ρ', fX6_lasts (iI x) (iI n) (kset st 60 ρ) = some (iI (lst i j n a), kset st 60 ρ') ∧ ∀ l, l < 72 → ρ' l = st.1 62 l :=
  R_la2 (st := st) hx hn n 0 (by omega) kfu (by unfold kfu; omega) ρ a h ok rfl (by omega)
