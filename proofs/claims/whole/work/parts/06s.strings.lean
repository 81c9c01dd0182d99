/-! String.length and String.charAt of the constants of TextReader -/
section
variable {Z : kZ} {cc : ByteArray} {own : String} {nL pc pc' : Nat} {rm : Room} {lv lv' : List (Nat × Value)} {stk : List Value} {st st' : kM}
theorem k_callT (C : kC Z cc own nL rm) {y : MethodName} {cc' : ByteArray} {nL' index n i : Nat} {ret : Option FieldType} {rm' : Room} {o : Option Value} (As : List Value) (hct : kCt (kzG Z) y cc' nL' ret rm' (ks Z i :: As) st o st') (hi : i < kSn)
    (w1 : Cond.methodLink own index y ∈ kw) (w2 : Cond.instanceMethod y ∈ kw) (w3 : Cond.selects "java/lang/String" y y ∈ kw) (w4 : Cond.initialized "java/lang/String" ∈ kw) (w5 : Cond.code y cc' nL' ret ∈ kw)
    (hd : y.cls = "java/lang/String" ∧ y.cls ≠ "java/lang/invoke/MethodHandle" ∧ y.cls ≠ "java/lang/invoke/VarHandle" ∧ (parseMethodDescriptor y.desc).map (fun d => d.parameters.length) = some n) (hn : As.length = n) (hR : rm'.frames + 1 ≤ rm.frames ∧ 8 + (nL' + 11) + rm'.locals ≤ rm.locals) (hz : rm'.cells = 0 ∧ rm'.slots = 0) (hcat : (stk.map fun v => v.category).sum ≤ 8)
    (hdg : decode cc pc = .ok (.invokevirtual index, 3)) (hp : pc + 3 = pc') (k : kV Z nL pc' lv (o.toList ++ stk) st') {stk0 : List Value} (hstk : stk0 = As.reverse ++ ks Z i :: stk) : kV Z nL pc lv stk0 st := by
  subst hp
  intro H locs ls hP hS hl
  have hG : GoodIn kw (wsV own index "java/lang/String" y (.code y cc' nL' ret :: kw)) := goodIn_appk (fun w hw => by
      simp only [List.mem_cons, List.not_mem_nil, or_false] at hw
      rcases hw with rfl | rfl | rfl | rfl <;> first | exact ⟨w1, good_of_word (kw_good w1)⟩ | exact ⟨w2, good_of_word (kw_good w2)⟩ | exact ⟨w3, good_of_word (kw_good w3)⟩ | exact ⟨w4, good_of_word (kw_good w4)⟩) (k_good w5)
  have hrec := vk_recv C.fx.2.2.2.2.1 hi hS
  refine k_back (y := y) C.fx (va_runV (As := As) (rest := stk) ⟨C.exec, C.bytes, C.maxL, C.hown, C.hts⟩ (hct Z.1.2.1 H.size) (cwV n C.hts hG rfl hz.1 hz.2 hd (by rw [C.room]; exact hR)) ⟨kPc.blind, hrec, fun U hU hW => ⟨rfl, by rw [hU], by rw [hU]; exact hP, C.fx.call hP hS hU hW⟩⟩ rfl hn hl.1 hstk (lv_room hcat) hdg ⟨?_, ?_⟩) hS hl k
  · rw [C.room]; exact C.cs.1
  · rw [C.room]; exact C.cs.2
theorem k_compact (C : kC Z cc own nL rm) {index : Nat} (hw : Cond.fieldLink own index "java/lang/String" "COMPACT_STRINGS" "Z" ∈ kw) (hdg : decode cc pc = .ok (.getstatic index, 3)) (hp : pc + 3 = pc') (k : kV Z nL pc' lv (.int 1 :: stk) st) : kV Z nL pc lv stk st := fun H locs ls hP hS hl => va_gets C.exec C.bytes C.fx.2.2.2.2.2.2.1 hS C.hown (C.hts _ hw) (fun _ h => h) hdg (hp ▸ k H locs ls hP hS hl)
theorem k_format (C : kC Z cc own nL rm) {index : Nat} (hw : Cond.fieldLink own index "jdk/internal/util/Preconditions" "SIOOBE_FORMATTER" "Ljava/util/function/BiFunction;" ∈ kw) (hdg : decode cc pc = .ok (.getstatic index, 3)) (hp : pc + 3 = pc') (k : ∀ v : Value, (v = .null ∨ ∃ t : Nat, v = .ref t) → kV Z nL pc' lv (v :: stk) st) : kV Z nL pc lv stk st := by
  intro H locs ls hP hS hl
  rcases C.fx.2.2.2.2.2.2.2 with h | ⟨t, h⟩
  · exact va_gets C.exec C.bytes h hS C.hown (C.hts _ hw) (fun _ h => h) hdg (hp ▸ k _ (Or.inl rfl) H locs ls hP hS hl)
  · exact va_gets C.exec C.bytes h hS C.hown (C.hts _ hw) (fun _ h => h) hdg (hp ▸ k _ (Or.inr ⟨t, rfl⟩) H locs ls hP hS hl)
/-- a String's bytes -/
abbrev kb (Z : kZ) (i : Nat) : Value := .ref (Z.2.1.2.2.2.2 i)
theorem k_sval (C : kC Z cc own nL rm) {index i : Nat} (hi : i < kSn) (hw : Cond.fieldLink own index "java/lang/String" "value" "[B" ∈ kw) (hdg : decode cc pc = .ok (.getfield index, 3)) (hp : pc + 3 = pc') (k : kV Z nL pc' lv (kb Z i :: stk) st) : kV Z nL pc lv (ks Z i :: stk) st := fun H locs ls hP hS hl => vk_getf C.exec C.bytes (C.fx.2.2.2.2.1.1 i hi).2.2.1 hS C.hown (C.hts _ hw) (fun _ h => h) hdg (hp ▸ k H locs ls hP hS hl)
theorem k_scod (C : kC Z cc own nL rm) {index i : Nat} (hi : i < kSn) (hw : Cond.fieldLink own index "java/lang/String" "coder" "B" ∈ kw) (hdg : decode cc pc = .ok (.getfield index, 3)) (hp : pc + 3 = pc') (k : kV Z nL pc' lv (.int 0 :: stk) st) : kV Z nL pc lv (ks Z i :: stk) st := fun H locs ls hP hS hl => vk_getf C.exec C.bytes (C.fx.2.2.2.2.1.1 i hi).2.1 hS C.hown (C.hts _ hw) (fun _ h => h) hdg (hp ▸ k H locs ls hP hS hl)
theorem k_slen (C : kC Z cc own nL rm) {i : Nat} (hi : i < kSn) (hdg : decode cc pc = .ok (.arraylength, 1)) (hp : pc + 1 = pc') (k : kV Z nL pc' lv (.int (Int32.ofNat (kLen.getD i 0)) :: stk) st) : kV Z nL pc lv (kb Z i :: stk) st := fun H locs ls hP hS hl => va_tlen C.exec C.bytes (C.fx.2.2.2.2.1.1 i hi).2.2.2 hS rfl hdg (hp ▸ k H locs ls hP hS hl)
theorem k_sbyt (C : kC Z cc own nL rm) {i : Nat} {x : Int32} (hi : i < kSn) (hx : ¬ (x < 0 ∨ kLen.getD i 0 ≤ x.toNatClampNeg)) (hdg : decode cc pc = .ok (.baload, 1)) (hp : pc + 1 = pc') (k : kV Z nL pc' lv (.int ((kByt.getD i []).getD x.toNatClampNeg 0) :: stk) st) : kV Z nL pc lv (.int x :: kb Z i :: stk) st := fun H locs ls hP hS hl => va_tb C.exec C.bytes (C.fx.2.2.2.2.1.1 i hi).2.2.2 hS hx rfl hdg (hp ▸ k H locs ls hP hS hl)
theorem k_i2c (C : kC Z cc own nL rm) {x v : Int32} (hv : (x.toUInt32 % 65536).toInt32 = v) (hdg : decode cc pc = .ok (.i2c, 1)) (hp : pc + 1 = pc') (k : kV Z nL pc' lv (.int v :: stk) st) : kV Z nL pc lv (.int x :: stk) st := fun H locs ls hP hS hl => lv_i2c C.exec C.bytes hdg hv (hp ▸ k H locs ls hP hS hl)
end
theorem ks_len : ∀ i, i < kSn → kLen.getD i 0 ≤ 6 := by decide
theorem ks_byt : ∀ i, i < kSn → ∀ j, j < 6 → (((kByt.getD i []).getD j 0 &&& (255 : Int32)).toUInt32 % 65536).toInt32 = (kByt.getD i []).getD j 0 ∧ narrow .char (.int ((kByt.getD i []).getD j 0)) = .int ((kByt.getD i []).getD j 0) := by decide +kernel
def rmJ3_checkIndex : Room := { frames := 0, cells := 0, slots := 0, locals := 0 }
theorem mJ3_checkIndex {G : kG} {i n : Int32} {v : Value} (hv : v = .null ∨ ∃ t : Nat, v = .ref t) (h0 : ¬ i < 0) (h1 : i < n) {st : kM} : kCt G yJ3_checkIndex_8e157 cJ3_checkIndex_8e157 3 (some .int) rmJ3_checkIndex [.int i, .int n, v] st (some (.int i)) st := by
  rcases hv with rfl | ⟨t, rfl⟩
  all_goals
    refine kMet (by decide) (Nat.le_of_ble_eq_true rfl) ⟨rfl, rfl⟩ (fun X A Q C K => ?_)
    refine k_iload_n C 0 dJ3_checkIndex_8e157_0 rfl rfl rfl ?_
    refine k_if_lt C 9 dJ3_checkIndex_8e157_1 rfl rfl (fun h => absurd h h0) (fun _ => ?_)
    refine k_iload_n C 0 dJ3_checkIndex_8e157_4 rfl rfl rfl ?_
    refine k_iload_n C 1 dJ3_checkIndex_8e157_5 rfl rfl rfl ?_
    refine k_icmp_lt C 16 dJ3_checkIndex_8e157_6 rfl rfl (fun _ => ?_) (fun h => absurd h1 h)
    refine k_iload_n C 0 dJ3_checkIndex_8e157_16 rfl rfl rfl ?_
    exact k_iret (res := (i, st)) C K rfl dJ3_checkIndex_8e157_17
theorem qJ3_checkIndex : yJ3_checkIndex_8e157.cls ≠ "java/lang/invoke/MethodHandle" ∧ yJ3_checkIndex_8e157.cls ≠ "java/lang/invoke/VarHandle" ∧ (parseMethodDescriptor yJ3_checkIndex_8e157.desc).map (fun d => d.parameters.length) = some 3 := ⟨by decide, by decide, by decide +kernel⟩
def rmJ0_checkIndex : Room := { frames := 1, cells := 0, slots := 0, locals := 22 }
theorem mJ0_checkIndex {G : kG} {i n : Int32} (h0 : ¬ i < 0) (h1 : i < n) {st : kM} : kCt G yJ0_checkIndex_df160 cJ0_checkIndex_df160 2 none rmJ0_checkIndex [.int i, .int n] st none st := by
  refine kMet (by decide) (Nat.le_of_ble_eq_true rfl) ⟨rfl, rfl⟩ (fun X A Q C K => ?_)
  refine k_iload_n C 0 dJ0_checkIndex_df160_0 rfl rfl rfl ?_
  refine k_iload_n C 1 dJ0_checkIndex_df160_1 rfl rfl rfl ?_
  refine k_format C kw_3_70 dJ0_checkIndex_df160_2 rfl (fun v hv => ?_)
  refine k_callS (nL' := 3) C [.int i, .int n, v] (mJ3_checkIndex hv h0 h1) kw_3_72 kw_3_73 kw_1_13 kw_3_74 qJ3_checkIndex rfl ⟨by decide, by decide⟩ ⟨rfl, rfl⟩ (Nat.le_of_ble_eq_true rfl) dJ0_checkIndex_df160_5 rfl ?_ rfl
  refine k_pop C rfl dJ0_checkIndex_df160_8 rfl ?_
  exact k_vret (res := st) C K rfl dJ0_checkIndex_df160_9
theorem qJ0_checkIndex : yJ0_checkIndex_df160.cls ≠ "java/lang/invoke/MethodHandle" ∧ yJ0_checkIndex_df160.cls ≠ "java/lang/invoke/VarHandle" ∧ (parseMethodDescriptor yJ0_checkIndex_df160.desc).map (fun d => d.parameters.length) = some 2 := ⟨by decide, by decide, by decide +kernel⟩
def rmJ1_charAt : Room := { frames := 2, cells := 0, slots := 0, locals := 43 }
theorem ks_lt {w : Nat} {x : Int32} (hw : w < kSn) (hx : ¬ (x < 0 ∨ kLen.getD w 0 ≤ x.toNatClampNeg)) : ¬ x < 0 ∧ x < Int32.ofNat (kLen.getD w 0) ∧ x.toNatClampNeg < 6 := by
  have h0 : ¬ x < 0 := fun h => hx (Or.inl h)
  have h1 : x.toNatClampNeg < kLen.getD w 0 := vi_lt hx
  have h6 := ks_len w hw
  obtain ⟨j, hj, rfl⟩ := nI_of h0
  rw [nI_clamp hj] at h1 ⊢
  exact ⟨h0, nI_lt h1 (by omega), by omega⟩
theorem mJ1_charAt {G : kG} {w : Nat} {x : Int32} (hw : w < kSn) (hx : ¬ (x < 0 ∨ kLen.getD w 0 ≤ x.toNatClampNeg)) {st : kM} : kCt G yJ1_charAt_3b067 cJ1_charAt_3b067 2 (some .char) rmJ1_charAt [.ref (G.2.2.2.2 w), .int x] st (some (.int ((kByt.getD w []).getD x.toNatClampNeg 0))) st := by
  obtain ⟨h0, h1, h2⟩ := ks_lt hw hx
  refine kMet (by decide) (Nat.le_of_ble_eq_true rfl) ⟨rfl, rfl⟩ (fun X A Q C K => ?_)
  refine k_iload_n C 1 dJ1_charAt_3b067_0 rfl rfl rfl ?_
  refine k_aload_n C 0 dJ1_charAt_3b067_1 rfl rfl rfl ?_
  refine k_slen C hw dJ1_charAt_3b067_2 rfl ?_
  refine k_callS (nL' := 2) C [.int x, .int (Int32.ofNat (kLen.getD w 0))] (mJ0_checkIndex h0 h1) kw_3_67 kw_3_68 kw_1_11 kw_3_69 qJ0_checkIndex rfl ⟨by decide, by decide⟩ ⟨rfl, rfl⟩ (Nat.le_of_ble_eq_true rfl) dJ1_charAt_3b067_3 rfl ?_ rfl
  refine k_aload_n C 0 dJ1_charAt_3b067_6 rfl rfl rfl ?_
  refine k_iload_n C 1 dJ1_charAt_3b067_7 rfl rfl rfl ?_
  refine k_sbyt C hw hx dJ1_charAt_3b067_8 rfl ?_
  refine k_sipush C (255 : Int32) dJ1_charAt_3b067_9 (by decide) rfl ?_
  refine k_iand C dJ1_charAt_3b067_12 rfl ?_
  refine k_i2c C (ks_byt w hw _ h2).1 dJ1_charAt_3b067_13 rfl ?_
  exact k_zret (res := ((kByt.getD w []).getD x.toNatClampNeg 0, st)) C K rfl (ks_byt w hw _ h2).2 dJ1_charAt_3b067_14
theorem qJ1_charAt : yJ1_charAt_3b067.cls ≠ "java/lang/invoke/MethodHandle" ∧ yJ1_charAt_3b067.cls ≠ "java/lang/invoke/VarHandle" ∧ (parseMethodDescriptor yJ1_charAt_3b067.desc).map (fun d => d.parameters.length) = some 2 := ⟨by decide, by decide, by decide +kernel⟩
def rmJ0_isLatin1 : Room := { frames := 0, cells := 0, slots := 0, locals := 0 }
theorem mJ0_isLatin1 {G : kG} {w : Nat} (hw : w < kSn) {st : kM} : kCt G yJ0_isLatin1_aae02 cJ0_isLatin1_aae02 1 (some .boolean) rmJ0_isLatin1 [.ref (G.2.2.2.1 w)] st (some (.int 1)) st := by
  refine kMet (by decide) (Nat.le_of_ble_eq_true rfl) ⟨rfl, rfl⟩ (fun X A Q C K => ?_)
  refine k_compact C kw_3_54 dJ0_isLatin1_aae02_0 rfl ?_
  refine k_if_eq C 17 dJ0_isLatin1_aae02_3 rfl rfl (fun h => absurd h (by decide)) (fun _ => ?_)
  refine k_aload_n C 0 dJ0_isLatin1_aae02_6 rfl rfl rfl ?_
  refine k_scod C hw kw_5_188 dJ0_isLatin1_aae02_7 rfl ?_
  refine k_if_ne C 17 dJ0_isLatin1_aae02_10 rfl rfl (fun h => absurd rfl h) (fun _ => ?_)
  refine k_iconst C (1 : Int32) dJ0_isLatin1_aae02_13 (by decide) rfl ?_
  refine k_goto C 18 dJ0_isLatin1_aae02_14 rfl ?_
  exact k_zret (res := (1, st)) C K rfl rfl dJ0_isLatin1_aae02_18
theorem qJ0_isLatin1 : yJ0_isLatin1_aae02.cls = "java/lang/String" ∧ yJ0_isLatin1_aae02.cls ≠ "java/lang/invoke/MethodHandle" ∧ yJ0_isLatin1_aae02.cls ≠ "java/lang/invoke/VarHandle" ∧ (parseMethodDescriptor yJ0_isLatin1_aae02.desc).map (fun d => d.parameters.length) = some 0 := ⟨rfl, by decide, by decide, by decide +kernel⟩
def rmJ0_coder : Room := { frames := 0, cells := 0, slots := 0, locals := 0 }
theorem mJ0_coder {G : kG} {w : Nat} (hw : w < kSn) {st : kM} : kCt G yJ0_coder_7d493 cJ0_coder_7d493 1 (some .byte) rmJ0_coder [.ref (G.2.2.2.1 w)] st (some (.int 0)) st := by
  refine kMet (by decide) (Nat.le_of_ble_eq_true rfl) ⟨rfl, rfl⟩ (fun X A Q C K => ?_)
  refine k_compact C kw_3_54 dJ0_coder_7d493_0 rfl ?_
  refine k_if_eq C 13 dJ0_coder_7d493_3 rfl rfl (fun h => absurd h (by decide)) (fun _ => ?_)
  refine k_aload_n C 0 dJ0_coder_7d493_6 rfl rfl rfl ?_
  refine k_scod C hw kw_5_188 dJ0_coder_7d493_7 rfl ?_
  refine k_goto C 14 dJ0_coder_7d493_10 rfl ?_
  exact k_zret (res := (0, st)) C K rfl rfl dJ0_coder_7d493_14
theorem qJ0_coder : yJ0_coder_7d493.cls = "java/lang/String" ∧ yJ0_coder_7d493.cls ≠ "java/lang/invoke/MethodHandle" ∧ yJ0_coder_7d493.cls ≠ "java/lang/invoke/VarHandle" ∧ (parseMethodDescriptor yJ0_coder_7d493.desc).map (fun d => d.parameters.length) = some 0 := ⟨rfl, by decide, by decide, by decide +kernel⟩
def rmJ0_length : Room := { frames := 1, cells := 0, slots := 0, locals := 20 }
theorem mJ_length {G : kG} {w : Nat} (hw : w < kSn) {st : kM} : kCt G yJ0_length_8abf5 cJ0_length_8abf5 1 (some .int) rmJ0_length [.ref (G.2.2.2.1 w)] st (some (.int (Int32.ofNat (kLen.getD w 0)))) st := by
  refine kMet (by decide) (Nat.le_of_ble_eq_true rfl) ⟨rfl, rfl⟩ (fun X A Q C K => ?_)
  refine k_aload_n C 0 dJ0_length_8abf5_0 rfl rfl rfl ?_
  refine k_sval C hw kw_5_187 dJ0_length_8abf5_1 rfl ?_
  refine k_slen C hw dJ0_length_8abf5_4 rfl ?_
  refine k_aload_n C 0 dJ0_length_8abf5_5 rfl rfl rfl ?_
  refine k_callT C [] (mJ0_coder hw) hw kw_3_50 kw_3_51 kw_3_52 kw_1_11 kw_3_53 qJ0_coder rfl ⟨by decide, by decide⟩ ⟨rfl, rfl⟩ (Nat.le_of_ble_eq_true rfl) dJ0_length_8abf5_6 rfl ?_ rfl
  refine k_ishr C dJ0_length_8abf5_9 rfl ?_
  rw [sb_shr0]
  exact k_iret (res := (Int32.ofNat (kLen.getD w 0), st)) C K rfl dJ0_length_8abf5_10
theorem qJ0_length_8abf5 : yJ0_length_8abf5.cls = "java/lang/String" ∧ yJ0_length_8abf5.cls ≠ "java/lang/invoke/MethodHandle" ∧ yJ0_length_8abf5.cls ≠ "java/lang/invoke/VarHandle" ∧ (parseMethodDescriptor yJ0_length_8abf5.desc).map (fun d => d.parameters.length) = some 0 := ⟨rfl, by decide, by decide, by decide +kernel⟩
def rmJ0_charAt : Room := { frames := 3, cells := 0, slots := 0, locals := 64 }
theorem mJ_charAt {G : kG} {w : Nat} {x : Int32} (hw : w < kSn) (hx : ¬ (x < 0 ∨ kLen.getD w 0 ≤ x.toNatClampNeg)) {st : kM} : kCt G yJ0_charAt_5068e cJ0_charAt_5068e 2 (some .char) rmJ0_charAt [.ref (G.2.2.2.1 w), .int x] st (some (.int ((kByt.getD w []).getD x.toNatClampNeg 0))) st := by
  obtain ⟨h0, h1, h2⟩ := ks_lt hw hx
  refine kMet (by decide) (Nat.le_of_ble_eq_true rfl) ⟨rfl, rfl⟩ (fun X A Q C K => ?_)
  refine k_aload_n C 0 dJ0_charAt_5068e_0 rfl rfl rfl ?_
  refine k_callT C [] (mJ0_isLatin1 hw) hw kw_3_60 kw_3_61 kw_3_62 kw_1_11 kw_3_63 qJ0_isLatin1 rfl ⟨by decide, by decide⟩ ⟨rfl, rfl⟩ (Nat.le_of_ble_eq_true rfl) dJ0_charAt_5068e_1 rfl ?_ rfl
  refine k_if_eq C 16 dJ0_charAt_5068e_4 rfl rfl (fun h => absurd h (by decide)) (fun _ => ?_)
  refine k_aload_n C 0 dJ0_charAt_5068e_7 rfl rfl rfl ?_
  refine k_sval C hw kw_5_187 dJ0_charAt_5068e_8 rfl ?_
  refine k_iload_n C 1 dJ0_charAt_5068e_11 rfl rfl rfl ?_
  refine k_callS (nL' := 2) C [kb (X, G, A, Q, 0, 0) w, .int x] (mJ1_charAt hw hx) kw_3_64 kw_3_65 kw_1_12 kw_3_66 qJ1_charAt rfl ⟨by decide, by decide⟩ ⟨rfl, rfl⟩ (Nat.le_of_ble_eq_true rfl) dJ0_charAt_5068e_12 rfl ?_ rfl
  exact k_zret (res := ((kByt.getD w []).getD x.toNatClampNeg 0, st)) C K rfl (ks_byt w hw _ h2).2 dJ0_charAt_5068e_15
theorem qJ0_charAt_5068e : yJ0_charAt_5068e.cls = "java/lang/String" ∧ yJ0_charAt_5068e.cls ≠ "java/lang/invoke/MethodHandle" ∧ yJ0_charAt_5068e.cls ≠ "java/lang/invoke/VarHandle" ∧ (parseMethodDescriptor yJ0_charAt_5068e.desc).map (fun d => d.parameters.length) = some 1 := ⟨rfl, by decide, by decide, by decide +kernel⟩
