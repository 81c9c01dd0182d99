/-! THE WORLD: 71 cells at addresses ad 0 .. ad 70, their shapes fixed, their numbers in a memory of ints and one of longs.
0 TalkKnots; 1, 16, 31 the yards (+1 winds, +2 weights, +3 knots, +4 fastOn, +5.. the ten Knots); 46 Tape, 47 its bytes; 48 TextReader; 49 sheets; 50 told; 51, 53, 55, 57 the Sheets, each with its numbers behind it;
59 TalkKnotsModel; 60 row, 61 found, 62 tried, 63 before1, 64 tape, 65 bitsOf, 66 sizeOf, 67 sheets, 68 lent, 69 image, 70 before -/
abbrev kM : Type := (Nat → Nat → Int32) × (Nat → Nat → Int64)
abbrev kG : Type := va_G × (Nat → Nat) × (Nat → ClassId) × (Nat → Nat) × (Nat → Nat)
abbrev kX := Program × Launch × Env × Room × State × MethodId × Array Value × List Frame × Method × Code
abbrev kZ := kX × kG × (Nat → Prop) × (State → Prop) × Nat × Nat
/-- the kind of a cell: 0 Knot, 1 Sheet, 2 Tape, 3 TextReader, 4 Yard, 5 TalkKnots, 6 TalkKnotsModel, 7 ints, 8 longs, 9 Knots, 10 Sheets -/
def kd (c : Nat) : Nat := if c = 0 then 5 else if c < 46 then (if (c - 1) % 15 = 0 then 4 else if (c - 1) % 15 = 3 then 9 else if (c - 1) % 15 < 5 then 7 else 0) else if c = 46 then 2 else if c = 47 then 7 else if c = 48 then 3 else if c = 49 then 10 else if c = 50 then 7 else if c < 59 then (if c % 2 = 1 then 1 else 8) else if c = 59 then 6 else if c = 67 then 8 else if c = 68 then 8 else if c < 71 then 7 else 11
def kl (c : Nat) : Nat := if c < 46 then (if (c - 1) % 15 = 1 then 12 else 4) else if c = 47 then 120 else if c = 50 then 7 else if c < 59 then 40 else if c = 61 then 7 else if c = 64 then 120 else if c = 65 then 4 else if c = 66 then 4 else if c = 67 then 160 else if c = 68 then 40 else 72
/-- the fields of an object of a kind -/
def kF (G : kG) (st : kM) (c : Nat) : Nat → List Value
  | 0 => [.int (st.1 c 0), .int (st.1 c 1), .int (st.1 c 2), .int (st.1 c 3), .int (st.1 c 4)]
  | 1 => [.int (st.1 c 0), .int (st.1 c 1), .ref (G.2.1 (c + 1))]
  | 2 => [.ref (G.2.1 47), .int (st.1 c 1)]
  | 3 => [.ref (G.2.1 46), .ref (G.2.1 16), .int (st.1 c 2), .int (st.1 c 3), .int (st.1 c 4), .int (st.1 c 5), .int (st.1 c 6)]
  | 4 => [.int (st.1 c 0), .int (st.1 c 1), .int (st.1 c 2), .ref (G.2.1 (c + 1)), .ref (G.2.1 (c + 2)), .ref (G.2.1 (c + 3)), .ref (G.2.1 (c + 4))]
  | 5 => [.ref (G.2.1 1), .ref (G.2.1 16), .ref (G.2.1 31), .int (st.1 c 3), .ref (G.2.1 46), .ref (G.2.1 48), .ref (G.2.1 49), .ref (G.2.1 50)]
  | _ => [.ref (G.2.1 60), .ref (G.2.1 61), .ref (G.2.1 62), .ref (G.2.1 63), .ref (G.2.1 64), .int (st.1 c 5), .int (st.1 c 6), .int (st.1 c 7), .int (st.1 c 8), .long (st.2 c 9), .int (st.1 c 10), .int (st.1 c 11), .ref (G.2.1 65), .ref (G.2.1 66), .ref (G.2.1 67), .ref (G.2.1 68), .ref (G.2.1 69), .ref (G.2.1 70), .int (st.1 c 18)]
/-- an array of a kind -/
def kA (G : kG) (st : kM) (c : Nat) : Nat → ClassId × vp_A
  | 7 => (G.2.2.1 0, kl c, .inl (st.1 c))
  | 8 => (G.2.2.1 1, kl c, .inr (.inl (st.2 c)))
  | 9 => (G.2.2.1 2, 10, .inr (.inr (.inr (.inr (fun i => some (G.2.1 (c + 2 + i)))))))
  | _ => (G.2.2.1 3, 4, .inr (.inr (.inr (.inr (fun i => some (G.2.1 (51 + 2 * i)))))))
def kE (G : kG) (st : kM) (c : Nat) : va_E := if kd c < 7 then .inr (kd c, kF G st c (kd c)) else .inl (kA G st c (kd c))
def kW (G : kG) (st : kM) : va_W := (List.range 71).map fun c => (G.2.1 c, kE G st c)
def kT (G : kG) : List (ClassId × FieldType) := [(G.2.2.1 0, .int), (G.2.2.1 1, .long), (G.2.2.1 2, .object "TalkKnots$Knot"), (G.2.2.1 3, .object "TalkKnots$Sheet")]
theorem kW_at {G : kG} {st : kM} {c : Nat} (h : c < 71) : (kW G st)[c]? = some (G.2.1 c, kE G st c) := by
  simp [kW, List.getElem?_map, List.getElem?_range h]
theorem kW_out {G : kG} {st : kM} {c : Nat} {q : Nat × va_E} (h : (kW G st)[c]? = some q) : c < 71 ∧ q = (G.2.1 c, kE G st c) := by
  by_cases hc : c < 71
  · rw [kW_at hc] at h
    exact ⟨hc, (Option.some.inj h).symm⟩
  · rw [List.getElem?_eq_none (by simp [kW]; omega)] at h
    cases h
theorem kW_set {G : kG} {st st' : kM} {c : Nat} {e : va_E} (hc : c < 71) (he : kE G st' c = e) (ho : ∀ b, b ≠ c → kE G st' b = kE G st b) : (kW G st).set c (G.2.1 c, e) = kW G st' := by
  apply List.ext_getElem?
  intro i
  by_cases hi : i < 71
  · rw [kW_at hi]
    by_cases hic : c = i
    · subst hic
      rw [List.getElem?_set_self (by simp [kW]; omega), he]
    · rw [List.getElem?_set_ne hic, kW_at hi, ho i (fun h => hic h.symm)]
  · rw [List.getElem?_eq_none (by simp [kW]; omega), List.getElem?_eq_none (by simp [kW]; omega)]
theorem kd_lt {c : Nat} (h : kd c < 11) : c < 71 := by
  rcases Nat.lt_or_ge c 71 with q | q
  · exact q
  · exfalso
    simp only [kd] at h
    repeat' split at h
    all_goals omega
theorem kE_obj {G : kG} {st : kM} {c k : Nat} (hk : kd c = k) (h7 : k < 7) : kE G st c = .inr (k, kF G st c k) := by rw [kE, if_pos (by omega), hk]
theorem kE_arr {G : kG} {st : kM} {c k : Nat} (hk : kd c = k) (h7 : 7 ≤ k) : kE G st c = .inl (kA G st c k) := by rw [kE, if_neg (by omega), hk]
/-- ints of a cell anew, longs of a cell anew -/
def kset (st : kM) (c : Nat) (f : Nat → Int32) : kM := (va_up st.1 c f, st.2)
def ksetL (st : kM) (c : Nat) (f : Nat → Int64) : kM := (st.1, va_up st.2 c f)
def kwr (st : kM) (c j : Nat) (x : Int32) : kM := kset st c (va_up (st.1 c) j x)
def kwl (st : kM) (c j : Nat) (x : Int64) : kM := ksetL st c (va_up (st.2 c) j x)
theorem kE_set {G : kG} {st : kM} {c : Nat} {f : Nat → Int32} (b : Nat) (h : b ≠ c) : kE G (kset st c f) b = kE G st b := by
  have h1 : (kset st c f).1 b = st.1 b := va_up_ne _ _ h
  have h2 : (kset st c f).2 = st.2 := rfl
  unfold kE
  by_cases hq : kd b < 7
  · rw [if_pos hq, if_pos hq]
    generalize kd b = k
    unfold kF
    split <;> rw [h1] <;> rw [h2]
  · rw [if_neg hq, if_neg hq]
    generalize kd b = k
    unfold kA
    split <;> first | rw [h1] | rw [h2] | rfl
theorem kE_setL {G : kG} {st : kM} {c : Nat} {f : Nat → Int64} (b : Nat) (h : b ≠ c) : kE G (ksetL st c f) b = kE G st b := by
  have h1 : (ksetL st c f).1 = st.1 := rfl
  have h2 : (ksetL st c f).2 b = st.2 b := va_up_ne _ _ h
  unfold kE
  by_cases hq : kd b < 7
  · rw [if_pos hq, if_pos hq]
    generalize kd b = k
    unfold kF
    split <;> rw [h1] <;> rw [h2]
  · rw [if_neg hq, if_neg hq]
    generalize kd b = k
    unfold kA
    split <;> first | rw [h1] | rw [h2] | rfl
-- which cells are what
def yd (c : Nat) : Prop := c = 1 ∨ c = 16 ∨ c = 31
def sd (c : Nat) : Prop := c = 51 ∨ c = 53 ∨ c = 55 ∨ c = 57
theorem yd_4 {c : Nat} (h : yd c) : kd c = 4 := by rcases h with rfl | rfl | rfl <;> rfl
theorem yd_w {c : Nat} (h : yd c) : kd (c + 1) = 7 ∧ kl (c + 1) = 12 := by rcases h with rfl | rfl | rfl <;> exact ⟨rfl, rfl⟩
theorem yd_g {c : Nat} (h : yd c) : kd (c + 2) = 7 ∧ kl (c + 2) = 4 := by rcases h with rfl | rfl | rfl <;> exact ⟨rfl, rfl⟩
theorem yd_k {c : Nat} (h : yd c) : kd (c + 3) = 9 := by rcases h with rfl | rfl | rfl <;> rfl
theorem yd_f {c : Nat} (h : yd c) : kd (c + 4) = 7 ∧ kl (c + 4) = 4 := by rcases h with rfl | rfl | rfl <;> exact ⟨rfl, rfl⟩
theorem kd_0 : ∀ c, c < 10 → kd (6 + c) = 0 ∧ kd (21 + c) = 0 ∧ kd (36 + c) = 0 := by decide
theorem yd_n {c i : Nat} (h : yd c) (hi : i < 10) : kd (c + 5 + i) = 0 := by rcases h with rfl | rfl | rfl; exact (kd_0 i hi).1; exact (kd_0 i hi).2.1; exact (kd_0 i hi).2.2
theorem sd_1 {c : Nat} (h : sd c) : kd c = 1 := by rcases h with rfl | rfl | rfl | rfl <;> rfl
theorem sd_n {c : Nat} (h : sd c) : kd (c + 1) = 8 ∧ kl (c + 1) = 40 := by rcases h with rfl | rfl | rfl | rfl <;> exact ⟨rfl, rfl⟩
theorem sd_of {i : Nat} (h : i < 4) : sd (51 + 2 * i) := by unfold sd; omega
theorem yd_1 : yd 1 := Or.inl rfl
theorem yd_16 : yd 16 := Or.inr (Or.inl rfl)
theorem yd_31 : yd 31 := Or.inr (Or.inr rfl)
theorem vi_lt {i : Int32} {n : Nat} (h : ¬ (i < 0 ∨ n ≤ i.toNatClampNeg)) : i.toNatClampNeg < n := Nat.lt_of_not_le fun q => h (Or.inr q)
/-- the strings of TextReader: entries, texts, lengths, bytes: 0 mast, 1 down, 2 wind, 3 tease, 4 splice, 5 hitch, 6 fool, 7 hawser, 8 vow, 9 knot, 10 open, 11 loose -/
def kSi (i : Nat) : Nat := ([42, 74, 51, 56, 123, 125, 127, 129, 131, 133, 106, 110] : List Nat).getD i 0
def kSt (i : Nat) : String := (["mast", "down", "wind", "tease", "splice", "hitch", "fool", "hawser", "vow", "knot", "open", "loose"] : List String).getD i ""
def kLen : List Nat := [4, 4, 4, 5, 6, 5, 4, 6, 3, 4, 4, 5]
def kByt : List (List Int32) := [[109, 97, 115, 116], [100, 111, 119, 110], [119, 105, 110, 100], [116, 101, 97, 115, 101], [115, 112, 108, 105, 99, 101], [104, 105, 116, 99, 104], [102, 111, 111, 108], [104, 97, 119, 115, 101, 114], [118, 111, 119], [107, 110, 111, 116], [111, 112, 101, 110], [108, 111, 111, 115, 101]]
def kSn : Nat := 12
