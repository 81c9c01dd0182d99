/-! LEVEL 2: numbers. iI z: the int of a whole number -/
def iI (z : Int) : Int32 := Int32.ofInt z
theorem iI_ofNat (n : Nat) : (OfNat.ofNat n : Int32) = iI (OfNat.ofNat n : Int) := by
  show Int32.ofNat n = Int32.ofInt (n : Int)
  rw [Int32.ofInt_eq_ofNat]
theorem iI_add (a b : Int) : iI a + iI b = iI (a + b) := (Int32.ofInt_add a b).symm
theorem iI_sub (a b : Int) : iI a - iI b = iI (a - b) := (Int32.ofInt_sub a b).symm
theorem iI_mul (a b : Int) : iI a * iI b = iI (a * b) := (Int32.ofInt_mul a b).symm
theorem iI_neg (a : Int) : -iI a = iI (-a) := (Int32.ofInt_neg a).symm
theorem iI_T {a : Int} (h1 : -2147483648 ≤ a) (h2 : a < 2147483648) : (iI a).toInt = a := Int32.toInt_ofInt_of_le h1 h2
theorem iI_lt {a b : Int} (h1 : -2147483648 ≤ a) (h2 : a < 2147483648) (h3 : -2147483648 ≤ b) (h4 : b < 2147483648) : (iI a < iI b) = (a < b) := by
  rw [Int32.lt_iff_toInt_lt, iI_T h1 h2, iI_T h3 h4]
theorem iI_le {a b : Int} (h1 : -2147483648 ≤ a) (h2 : a < 2147483648) (h3 : -2147483648 ≤ b) (h4 : b < 2147483648) : (iI a ≤ iI b) = (a ≤ b) := by
  rw [Int32.le_iff_toInt_le, iI_T h1 h2, iI_T h3 h4]
theorem iI_eq {a b : Int} (h1 : -2147483648 ≤ a) (h2 : a < 2147483648) (h3 : -2147483648 ≤ b) (h4 : b < 2147483648) : (iI a = iI b) = (a = b) := by
  rw [← Int32.toInt_inj, iI_T h1 h2, iI_T h3 h4]
theorem iI_cl {a : Int} (h1 : -2147483648 ≤ a) (h2 : a < 2147483648) : (iI a).toNatClampNeg = a.toNat := by
  rw [← Int32.toNat_toInt, iI_T h1 h2]
theorem iI_div {a b : Int} (h1 : 0 ≤ a) (h2 : a < 2147483648) (h3 : 0 < b) (h4 : b < 2147483648) : iI a / iI b = iI (a / b) := by
  apply Int32.toInt_inj.mp
  have h5 : 0 ≤ a / b := Int.ediv_nonneg h1 (by omega)
  have h6 : a / b ≤ a := Int.ediv_le_self b h1
  rw [Int32.toInt_div, iI_T (by omega) h2, iI_T (by omega) h4, Int.tdiv_eq_ediv_of_nonneg h1, iI_T (by omega) (by omega)]
  exact Int.bmod_eq_of_le (by omega) (by omega)
theorem iI_rem {a b : Int} (h1 : 0 ≤ a) (h2 : a < 2147483648) (h3 : 0 < b) (h4 : b < 2147483648) : iI a - iI a / iI b * iI b = iI (a % b) := by
  rw [iI_div h1 h2 h3 h4, iI_mul, iI_sub]
  congr 1
  have := Int.mul_ediv_add_emod a b
  rw [Int.mul_comm] at this
  omega
theorem iI_toInt (x : Int32) : iI x.toInt = x := Int32.ofInt_toInt x
/-- an int between two bounds -/
theorem iI_of {x lo hi : Int32} {l h : Int} (hl : lo = iI l) (hh : hi = iI h) (b1 : -2147483648 ≤ l) (b2 : h < 2147483648) (b3 : l < 2147483648) (b4 : -2147483648 ≤ h) (h1 : lo ≤ x) (h2 : x ≤ hi) : ∃ z : Int, l ≤ z ∧ z ≤ h ∧ x = iI z := by
  refine ⟨x.toInt, ?_, ?_, (iI_toInt x).symm⟩
  · rw [hl, Int32.le_iff_toInt_le, iI_T b1 b3] at h1; exact h1
  · rw [hh, Int32.le_iff_toInt_le, iI_T b4 b2] at h2; exact h2
theorem iI_any (x : Int32) : ∃ z : Int, -2147483648 ≤ z ∧ z < 2147483648 ∧ x = iI z := ⟨x.toInt, Int32.le_toInt x, Int32.toInt_lt x, (iI_toInt x).symm⟩
-- memory
theorem kset_1 (st : kM) (c : Nat) (f : Nat → Int32) (b : Nat) : (kset st c f).1 b = if b = c then f else st.1 b := rfl
theorem kset_2 (st : kM) (c : Nat) (f : Nat → Int32) : (kset st c f).2 = st.2 := rfl
theorem kset_same (st : kM) (c : Nat) (f : Nat → Int32) : (kset st c f).1 c = f := by rw [kset_1, if_pos rfl]
theorem kset_ne (st : kM) {c b : Nat} (f : Nat → Int32) (h : b ≠ c) : (kset st c f).1 b = st.1 b := by rw [kset_1, if_neg h]
theorem kset_kset (st : kM) (c : Nat) (f g : Nat → Int32) : kset (kset st c f) c g = kset st c g := by
  unfold kset
  congr 1
  funext b
  by_cases h : b = c <;> simp [va_up, h]
theorem kset_self (st : kM) (c : Nat) : kset st c (st.1 c) = st := by
  unfold kset
  have : va_up st.1 c (st.1 c) = st.1 := by
    funext b
    by_cases h : b = c <;> simp [va_up, h]
  rw [this]
theorem kwr_kset (st : kM) (c j : Nat) (f : Nat → Int32) (x : Int32) : kwr (kset st c f) c j x = kset st c (va_up f j x) := by
  rw [kwr, kset_same, kset_kset]
theorem kwr_1 (st : kM) (c j : Nat) (x : Int32) (b : Nat) : (kwr st c j x).1 b = if b = c then va_up (st.1 c) j x else st.1 b := rfl
theorem kwr_2 (st : kM) (c j : Nat) (x : Int32) : (kwr st c j x).2 = st.2 := rfl
theorem kwr_same (st : kM) (c j : Nat) (x : Int32) : (kwr st c j x).1 c = va_up (st.1 c) j x := by rw [kwr_1, if_pos rfl]
theorem kwr_ne (st : kM) {c b : Nat} (j : Nat) (x : Int32) (h : b ≠ c) : (kwr st c j x).1 b = st.1 b := by rw [kwr_1, if_neg h]
theorem up_eq {α : Type} (f : Nat → α) (k : Nat) (v : α) : va_up f k v k = v := by simp [va_up]
theorem up_ne {α : Type} (f : Nat → α) {k j : Nat} (v : α) (h : j ≠ k) : va_up f k v j = f j := by simp [va_up, h]
/-- nothing but the cells that P names has changed, and no long -/
def Fr (P : Nat → Prop) (st st' : kM) : Prop := st'.2 = st.2 ∧ ∀ b, ¬ P b → st'.1 b = st.1 b
theorem Fr.rf {P : Nat → Prop} {st : kM} : Fr P st st := ⟨rfl, fun _ _ => rfl⟩
theorem Fr.tr {P : Nat → Prop} {s1 s2 s3 : kM} (h1 : Fr P s1 s2) (h2 : Fr P s2 s3) : Fr P s1 s3 := ⟨h2.1.trans h1.1, fun b hb => (h2.2 b hb).trans (h1.2 b hb)⟩
theorem Fr.mono {P Q : Nat → Prop} {s1 s2 : kM} (h : Fr P s1 s2) (hPQ : ∀ b, P b → Q b) : Fr Q s1 s2 := ⟨h.1, fun b hb => h.2 b (fun hp => hb (hPQ b hp))⟩
theorem Fr.wr {P : Nat → Prop} {st : kM} {c : Nat} (j : Nat) (x : Int32) (h : P c) : Fr P st (kwr st c j x) := ⟨rfl, fun b hb => kwr_ne st j x (fun e => hb (e ▸ h))⟩
theorem Fr.set {P : Nat → Prop} {st : kM} {c : Nat} (f : Nat → Int32) (h : P c) : Fr P st (kset st c f) := ⟨rfl, fun b hb => kset_ne st f (fun e => hb (e ▸ h))⟩
