-- TalkKnots.write(IIJ)J
def rmX5_write : Room := { frames := 2, cells := 0, slots := 0, locals := 44 }
def fX5_write (v1 : Int32) (v2 : Int32) (v3 : Int64) (st : kM) : Option (Int64 × kM) :=
  (fX5_isSheet v1 st).bind fun q1 => (if q1.1 = 0 then ((fX5_tell (-1000000001 : Int32) q1.2).bind fun q20 => (some ((q20.1.toInt64), q20.2))) else (if v1 < 0 ∨ 4 ≤ v1.toNatClampNeg then none else ((fX1_isMissing (51 + 2 * v1.toNatClampNeg) q1.2).bind fun q5 => (if q5.1 = 0 then ((fX5_isWithin v2 (0 : Int32) ((q5.2.1 (51 + 2 * v1.toNatClampNeg) 1) - (1 : Int32)) q5.2).bind fun q8 => (if q8.1 = 0 then ((fX5_tell (-1000000001 : Int32) q8.2).bind fun q16 => (some ((q16.1.toInt64), q16.2))) else (if v2 < 0 ∨ 40 ≤ v2.toNatClampNeg then none else ((some (q8.2.2 (51 + 2 * v1.toNatClampNeg + 1) v2.toNatClampNeg)).bind fun z12 => ((fX1_put (51 + 2 * v1.toNatClampNeg) v2 v3 q8.2).bind fun s14 => (some (z12, s14))))))) else ((fX5_tell (-1000000006 : Int32) q5.2).bind fun q18 => (some ((q18.1.toInt64), q18.2)))))))
set_option maxRecDepth 100000 in
theorem tX5_write {Z : kZ} (C : kC Z cX5_write RX5 8 rmX5_write) {v1 : Int32} {v2 : Int32} {v3 : Int64}  {st : kM} {res : Int64 × kM} (hf : fX5_write v1 v2 v3 st = some res) (K : kEnd Z (some .long) (some (.long res.1)) res.2) : kV Z 8 0 [(0, kr Z 0), (1, .int v1), (2, .int v2), (3, .long v3)] [] st := by
  unfold fX5_write at hf
  refine k_iload_n C 1 dX5_write_0 rfl rfl rfl ?_
  obtain ⟨q1, e2, hf⟩ := kf_b hf
  refine k_callS C [.int v1] (mX5_isSheet e2) kw_3_141 kw_3_142 kw_1_1 kw_3_143 qX5_isSheet rfl ⟨by decide, by decide⟩ ⟨rfl, rfl⟩ (Nat.le_of_ble_eq_true rfl) dX5_write_1 rfl ?_ rfl
  refine (show kV Z 8 4 [(0, kr Z 0), (1, .int v1), (2, .int v2), (3, .long v3)] [.int q1.1] q1.2 from ?_)
  refine k_if_ne C 15 dX5_write_4 rfl rfl (fun b3 => ?_) (fun b3 => ?_)
  · replace hf := kf_f hf b3
    refine k_aload_n C 0 dX5_write_15 rfl rfl rfl ?_
    refine g_X5_sheets C rfl kw_1_166 dX5_write_16 rfl ?_
    refine k_iload_n C 1 dX5_write_19 rfl rfl rfl ?_
    obtain ⟨g4, hf⟩ := kf_g hf
    refine k_aldS C g4 dX5_write_20 rfl ?_
    refine k_astore (lv' := [(5, kr Z (51 + 2 * v1.toNatClampNeg)), (0, kr Z 0), (1, .int v1), (2, .int v2), (3, .long v3)]) C dX5_write_21 (by decide) rfl rfl ?_
    refine k_aload C 0 dX5_write_23 rfl rfl ?_
    obtain ⟨q5, e6, hf⟩ := kf_b hf
    refine k_callV C [] (mX1_isMissing (sd_of (vi_lt g4)) e6) (sd_1 (sd_of (vi_lt g4))) (by decide) rfl kw_3_156 kw_3_157 kw_3_158 kw_1_6 kw_3_159 qX1_isMissing rfl ⟨by decide, by decide⟩ ⟨rfl, rfl⟩ (Nat.le_of_ble_eq_true rfl) dX5_write_25 rfl ?_ rfl
    refine (show kV Z 8 28 [(5, kr Z (51 + 2 * v1.toNatClampNeg)), (0, kr Z 0), (1, .int v1), (2, .int v2), (3, .long v3)] [.int q5.1] q5.2 from ?_)
    refine k_if_eq C 39 dX5_write_28 rfl rfl (fun b7 => ?_) (fun b7 => ?_)
    · replace hf := kf_t hf b7
      refine k_iload_n C 3 dX5_write_39 rfl rfl rfl ?_
      refine k_iconst C (0 : Int32) dX5_write_40 (by decide) rfl ?_
      refine k_aload C 0 dX5_write_41 rfl rfl ?_
      refine g_X1_size C (sd_1 (sd_of (vi_lt g4))) kw_1_149 dX5_write_43 rfl ?_
      refine k_iconst C (1 : Int32) dX5_write_46 (by decide) rfl ?_
      refine k_isub C dX5_write_47 rfl ?_
      obtain ⟨q8, e9, hf⟩ := kf_b hf
      refine k_callS C [.int v2, .int (0 : Int32), .int ((q5.2.1 (51 + 2 * v1.toNatClampNeg) 1) - (1 : Int32))] (mX5_isWithin e9) kw_1_189 kw_1_190 kw_1_1 kw_1_191 qX5_isWithin rfl ⟨by decide, by decide⟩ ⟨rfl, rfl⟩ (Nat.le_of_ble_eq_true rfl) dX5_write_48 rfl ?_ rfl
      refine (show kV Z 8 51 [(5, kr Z (51 + 2 * v1.toNatClampNeg)), (0, kr Z 0), (1, .int v1), (2, .int v2), (3, .long v3)] [.int q8.1] q8.2 from ?_)
      refine k_if_ne C 62 dX5_write_51 rfl rfl (fun b10 => ?_) (fun b10 => ?_)
      · replace hf := kf_f hf b10
        refine k_aload C 0 dX5_write_62 rfl rfl ?_
        refine g_X1_numbers C (sd_1 (sd_of (vi_lt g4))) kw_1_151 dX5_write_64 rfl ?_
        refine k_iload_n C 3 dX5_write_67 rfl rfl rfl ?_
        obtain ⟨g11, hf⟩ := kf_g hf
        refine k_lald (j := v2.toNatClampNeg) C (sd_n (sd_of (vi_lt g4))) g11 rfl dX5_write_68 rfl ?_
        obtain ⟨z12, e13, hf⟩ := kf_b hf
        refine k_topl e13 ?_
        refine k_lstore (lv' := [(6, .long z12), (5, kr Z (51 + 2 * v1.toNatClampNeg)), (0, kr Z 0), (1, .int v1), (2, .int v2), (3, .long v3)]) C dX5_write_69 (by decide) rfl rfl ?_
        refine k_aload C 1 dX5_write_71 rfl rfl ?_
        refine k_iload_n C 4 dX5_write_73 rfl rfl rfl ?_
        refine k_lload_n C 5 dX5_write_74 rfl rfl rfl ?_
        obtain ⟨s14, e15, hf⟩ := kf_b hf
        refine k_callV C [.int v2, .long v3] (mX1_put (sd_of (vi_lt g4)) e15) (sd_1 (sd_of (vi_lt g4))) (by decide) rfl kw_3_161 kw_3_162 kw_3_163 kw_1_6 kw_3_164 qX1_put rfl ⟨by decide, by decide⟩ ⟨rfl, rfl⟩ (Nat.le_of_ble_eq_true rfl) dX5_write_75 rfl ?_ rfl
        refine (show kV Z 8 78 [(6, .long z12), (5, kr Z (51 + 2 * v1.toNatClampNeg)), (0, kr Z 0), (1, .int v1), (2, .int v2), (3, .long v3)] [] s14 from ?_)
        refine k_lload C 0 dX5_write_78 rfl rfl ?_
        exact k_lret C K hf dX5_write_80
      · replace hf := kf_t hf b10
        refine k_aload_n C 1 dX5_write_54 rfl rfl rfl ?_
        refine k_ldc C (-1000000001 : Int32) kw_1_192 dX5_write_55 rfl ?_
        obtain ⟨q16, e17, hf⟩ := kf_b hf
        refine k_callV C [.int (-1000000001 : Int32)] (mX5_tell e17) rfl (by decide) rfl kw_1_193 kw_1_195 kw_0_0 kw_1_1 kw_1_196 qX5_tell rfl ⟨by decide, by decide⟩ ⟨rfl, rfl⟩ (Nat.le_of_ble_eq_true rfl) dX5_write_57 rfl ?_ rfl
        refine (show kV Z 8 60 [(5, kr Z (51 + 2 * v1.toNatClampNeg)), (0, kr Z 0), (1, .int v1), (2, .int v2), (3, .long v3)] [.int q16.1] q16.2 from ?_)
        refine k_i2l C dX5_write_60 rfl ?_
        exact k_lret C K hf dX5_write_61
    · replace hf := kf_f hf b7
      refine k_aload_n C 1 dX5_write_31 rfl rfl rfl ?_
      refine k_ldc C (-1000000006 : Int32) kw_3_160 dX5_write_32 rfl ?_
      obtain ⟨q18, e19, hf⟩ := kf_b hf
      refine k_callV C [.int (-1000000006 : Int32)] (mX5_tell e19) rfl (by decide) rfl kw_1_193 kw_1_195 kw_0_0 kw_1_1 kw_1_196 qX5_tell rfl ⟨by decide, by decide⟩ ⟨rfl, rfl⟩ (Nat.le_of_ble_eq_true rfl) dX5_write_34 rfl ?_ rfl
      refine (show kV Z 8 37 [(5, kr Z (51 + 2 * v1.toNatClampNeg)), (0, kr Z 0), (1, .int v1), (2, .int v2), (3, .long v3)] [.int q18.1] q18.2 from ?_)
      refine k_i2l C dX5_write_37 rfl ?_
      exact k_lret C K hf dX5_write_38
  · replace hf := kf_t hf b3
    refine k_aload_n C 0 dX5_write_7 rfl rfl rfl ?_
    refine k_ldc C (-1000000001 : Int32) kw_1_192 dX5_write_8 rfl ?_
    obtain ⟨q20, e21, hf⟩ := kf_b hf
    refine k_callV C [.int (-1000000001 : Int32)] (mX5_tell e21) rfl (by decide) rfl kw_1_193 kw_1_195 kw_0_0 kw_1_1 kw_1_196 qX5_tell rfl ⟨by decide, by decide⟩ ⟨rfl, rfl⟩ (Nat.le_of_ble_eq_true rfl) dX5_write_10 rfl ?_ rfl
    refine (show kV Z 8 13 [(0, kr Z 0), (1, .int v1), (2, .int v2), (3, .long v3)] [.int q20.1] q20.2 from ?_)
    refine k_i2l C dX5_write_13 rfl ?_
    exact k_lret C K hf dX5_write_14
theorem mX5_write {G : kG} {v1 : Int32} {v2 : Int32} {v3 : Int64}  {st : kM} {res : Int64 × kM} (hf : fX5_write v1 v2 v3 st = some res) : kCt G yX5_write cX5_write 8 (some .long) rmX5_write [.ref (G.2.1 0), .int v1, .int v2, .long v3] st (some (.long res.1)) res.2 := kMet (by decide) (Nat.le_of_ble_eq_true rfl) ⟨rfl, rfl⟩ (fun X A Q C K => tX5_write C  hf K)
theorem qX5_write : yX5_write.cls = RX5 ∧ yX5_write.cls ≠ "java/lang/invoke/MethodHandle" ∧ yX5_write.cls ≠ "java/lang/invoke/VarHandle" ∧ (parseMethodDescriptor yX5_write.desc).map (fun d => d.parameters.length) = some 3 := ⟨rfl, by decide, by decide, by decide +kernel⟩
-- TalkKnots.copy(IIIII)I
def rmX5_copy : Room := { frames := 2, cells := 0, slots := 0, locals := 44 }
def fX5_copy (v1 : Int32) (v2 : Int32) (v3 : Int32) (v4 : Int32) (v5 : Int32) (st : kM) : Option (Int32 × kM) :=
  (fX5_isSheet v1 st).bind fun q1 => (if q1.1 = 0 then ((fX5_tell (-1000000001 : Int32) q1.2).bind fun q4 => (some (q4.1, q4.2))) else ((fX5_isSheet v3 q1.2).bind fun q6 => (if q6.1 = 0 then ((fX5_tell (-1000000001 : Int32) q6.2).bind fun q37 => (some (q37.1, q37.2))) else (if v1 < 0 ∨ 4 ≤ v1.toNatClampNeg then none else (if v3 < 0 ∨ 4 ≤ v3.toNatClampNeg then none else ((fX1_isMissing (51 + 2 * v1.toNatClampNeg) q6.2).bind fun q11 => (if q11.1 = 0 then ((fX1_isMissing (51 + 2 * v3.toNatClampNeg) q11.2).bind fun q16 => (if q16.1 = 0 then (if (q16.2.1 (51 + 2 * v1.toNatClampNeg) 0) = (q16.2.1 (51 + 2 * v3.toNatClampNeg) 0) then ((fX1_has (51 + 2 * v1.toNatClampNeg) v2 v5 q16.2).bind fun q20 => (if q20.1 = 0 then ((fX5_tell (-1000000001 : Int32) q20.2).bind fun q23 => (some (q23.1, q23.2))) else ((fX1_has (51 + 2 * v3.toNatClampNeg) v4 v5 q20.2).bind fun q25 => (if q25.1 = 0 then ((fX5_tell (-1000000001 : Int32) q25.2).bind fun q31 => (some (q31.1, q31.2))) else (if v2 < 0 ∨ v4 < 0 ∨ v5 < 0 ∨ 40 < v2.toNatClampNeg + v5.toNatClampNeg ∨ 40 < v4.toNatClampNeg + v5.toNatClampNeg then none else ((some (ksetL q25.2 (51 + 2 * v3.toNatClampNeg + 1) (va_cpy (q25.2.2 (51 + 2 * v1.toNatClampNeg + 1)) (q25.2.2 (51 + 2 * v3.toNatClampNeg + 1)) v2.toNatClampNeg v4.toNatClampNeg v5.toNatClampNeg))).bind fun s29 => (some (v5, s29)))))))) else ((fX5_tell (-1000000003 : Int32) q16.2).bind fun q33 => (some (q33.1, q33.2)))) else ((fX5_tell (-1000000006 : Int32) q16.2).bind fun q35 => (some (q35.1, q35.2))))) else ((fX5_tell (-1000000006 : Int32) q11.2).bind fun q14 => (some (q14.1, q14.2))))))))))
set_option maxRecDepth 100000 in
theorem tX5_copy {Z : kZ} (C : kC Z cX5_copy RX5 8 rmX5_copy) {v1 : Int32} {v2 : Int32} {v3 : Int32} {v4 : Int32} {v5 : Int32}  {st : kM} {res : Int32 × kM} (hf : fX5_copy v1 v2 v3 v4 v5 st = some res) (K : kEnd Z (some .int) (some (.int res.1)) res.2) : kV Z 8 0 [(0, kr Z 0), (1, .int v1), (2, .int v2), (3, .int v3), (4, .int v4), (5, .int v5)] [] st := by
  unfold fX5_copy at hf
  refine k_iload_n C 1 dX5_copy_0 rfl rfl rfl ?_
  obtain ⟨q1, e2, hf⟩ := kf_b hf
  refine k_callS C [.int v1] (mX5_isSheet e2) kw_3_141 kw_3_142 kw_1_1 kw_3_143 qX5_isSheet rfl ⟨by decide, by decide⟩ ⟨rfl, rfl⟩ (Nat.le_of_ble_eq_true rfl) dX5_copy_1 rfl ?_ rfl
  refine (show kV Z 8 4 [(0, kr Z 0), (1, .int v1), (2, .int v2), (3, .int v3), (4, .int v4), (5, .int v5)] [.int q1.1] q1.2 from ?_)
  refine k_if_eq C 14 dX5_copy_4 rfl rfl (fun b3 => ?_) (fun b3 => ?_)
  · replace hf := kf_t hf b3
    refine k_aload_n C 0 dX5_copy_14 rfl rfl rfl ?_
    refine k_ldc C (-1000000001 : Int32) kw_1_192 dX5_copy_15 rfl ?_
    obtain ⟨q4, e5, hf⟩ := kf_b hf
    refine k_callV C [.int (-1000000001 : Int32)] (mX5_tell e5) rfl (by decide) rfl kw_1_193 kw_1_195 kw_0_0 kw_1_1 kw_1_196 qX5_tell rfl ⟨by decide, by decide⟩ ⟨rfl, rfl⟩ (Nat.le_of_ble_eq_true rfl) dX5_copy_17 rfl ?_ rfl
    refine (show kV Z 8 20 [(0, kr Z 0), (1, .int v1), (2, .int v2), (3, .int v3), (4, .int v4), (5, .int v5)] [.int q4.1] q4.2 from ?_)
    exact k_iret C K hf dX5_copy_20
  · replace hf := kf_f hf b3
    refine k_iload_n C 3 dX5_copy_7 rfl rfl rfl ?_
    obtain ⟨q6, e7, hf⟩ := kf_b hf
    refine k_callS C [.int v3] (mX5_isSheet e7) kw_3_141 kw_3_142 kw_1_1 kw_3_143 qX5_isSheet rfl ⟨by decide, by decide⟩ ⟨rfl, rfl⟩ (Nat.le_of_ble_eq_true rfl) dX5_copy_8 rfl ?_ rfl
    refine (show kV Z 8 11 [(0, kr Z 0), (1, .int v1), (2, .int v2), (3, .int v3), (4, .int v4), (5, .int v5)] [.int q6.1] q6.2 from ?_)
    refine k_if_ne C 21 dX5_copy_11 rfl rfl (fun b8 => ?_) (fun b8 => ?_)
    · replace hf := kf_f hf b8
      refine k_aload_n C 0 dX5_copy_21 rfl rfl rfl ?_
      refine g_X5_sheets C rfl kw_1_166 dX5_copy_22 rfl ?_
      refine k_iload_n C 1 dX5_copy_25 rfl rfl rfl ?_
      obtain ⟨g9, hf⟩ := kf_g hf
      refine k_aldS C g9 dX5_copy_26 rfl ?_
      refine k_astore (lv' := [(6, kr Z (51 + 2 * v1.toNatClampNeg)), (0, kr Z 0), (1, .int v1), (2, .int v2), (3, .int v3), (4, .int v4), (5, .int v5)]) C dX5_copy_27 (by decide) rfl rfl ?_
      refine k_aload_n C 1 dX5_copy_29 rfl rfl rfl ?_
      refine g_X5_sheets C rfl kw_1_166 dX5_copy_30 rfl ?_
      refine k_iload_n C 4 dX5_copy_33 rfl rfl rfl ?_
      obtain ⟨g10, hf⟩ := kf_g hf
      refine k_aldS C g10 dX5_copy_34 rfl ?_
      refine k_astore (lv' := [(7, kr Z (51 + 2 * v3.toNatClampNeg)), (6, kr Z (51 + 2 * v1.toNatClampNeg)), (0, kr Z 0), (1, .int v1), (2, .int v2), (3, .int v3), (4, .int v4), (5, .int v5)]) C dX5_copy_35 (by decide) rfl rfl ?_
      refine k_aload C 1 dX5_copy_37 rfl rfl ?_
      obtain ⟨q11, e12, hf⟩ := kf_b hf
      refine k_callV C [] (mX1_isMissing (sd_of (vi_lt g9)) e12) (sd_1 (sd_of (vi_lt g9))) (by decide) rfl kw_3_156 kw_3_157 kw_3_158 kw_1_6 kw_3_159 qX1_isMissing rfl ⟨by decide, by decide⟩ ⟨rfl, rfl⟩ (Nat.le_of_ble_eq_true rfl) dX5_copy_39 rfl ?_ rfl
      refine (show kV Z 8 42 [(7, kr Z (51 + 2 * v3.toNatClampNeg)), (6, kr Z (51 + 2 * v1.toNatClampNeg)), (0, kr Z 0), (1, .int v1), (2, .int v2), (3, .int v3), (4, .int v4), (5, .int v5)] [.int q11.1] q11.2 from ?_)
      refine k_if_ne C 53 dX5_copy_42 rfl rfl (fun b13 => ?_) (fun b13 => ?_)
      · replace hf := kf_f hf b13
        refine k_aload_n C 2 dX5_copy_53 rfl rfl rfl ?_
        refine k_ldc C (-1000000006 : Int32) kw_3_160 dX5_copy_54 rfl ?_
        obtain ⟨q14, e15, hf⟩ := kf_b hf
        refine k_callV C [.int (-1000000006 : Int32)] (mX5_tell e15) rfl (by decide) rfl kw_1_193 kw_1_195 kw_0_0 kw_1_1 kw_1_196 qX5_tell rfl ⟨by decide, by decide⟩ ⟨rfl, rfl⟩ (Nat.le_of_ble_eq_true rfl) dX5_copy_56 rfl ?_ rfl
        refine (show kV Z 8 59 [(7, kr Z (51 + 2 * v3.toNatClampNeg)), (6, kr Z (51 + 2 * v1.toNatClampNeg)), (0, kr Z 0), (1, .int v1), (2, .int v2), (3, .int v3), (4, .int v4), (5, .int v5)] [.int q14.1] q14.2 from ?_)
        exact k_iret C K hf dX5_copy_59
      · replace hf := kf_t hf b13
        refine k_aload C 0 dX5_copy_45 rfl rfl ?_
        obtain ⟨q16, e17, hf⟩ := kf_b hf
        refine k_callV C [] (mX1_isMissing (sd_of (vi_lt g10)) e17) (sd_1 (sd_of (vi_lt g10))) (by decide) rfl kw_3_156 kw_3_157 kw_3_158 kw_1_6 kw_3_159 qX1_isMissing rfl ⟨by decide, by decide⟩ ⟨rfl, rfl⟩ (Nat.le_of_ble_eq_true rfl) dX5_copy_47 rfl ?_ rfl
        refine (show kV Z 8 50 [(7, kr Z (51 + 2 * v3.toNatClampNeg)), (6, kr Z (51 + 2 * v1.toNatClampNeg)), (0, kr Z 0), (1, .int v1), (2, .int v2), (3, .int v3), (4, .int v4), (5, .int v5)] [.int q16.1] q16.2 from ?_)
        refine k_if_eq C 60 dX5_copy_50 rfl rfl (fun b18 => ?_) (fun b18 => ?_)
        · replace hf := kf_t hf b18
          refine k_aload C 1 dX5_copy_60 rfl rfl ?_
          refine g_X1_bits C (sd_1 (sd_of (vi_lt g9))) kw_1_147 dX5_copy_62 rfl ?_
          refine k_aload C 0 dX5_copy_65 rfl rfl ?_
          refine g_X1_bits C (sd_1 (sd_of (vi_lt g10))) kw_1_147 dX5_copy_67 rfl ?_
          refine k_icmp_eq C 80 dX5_copy_70 rfl rfl (fun b19 => ?_) (fun b19 => ?_)
          · replace hf := kf_t hf b19
            refine k_aload C 1 dX5_copy_80 rfl rfl ?_
            refine k_iload_n C 4 dX5_copy_82 rfl rfl rfl ?_
            refine k_iload C 7 dX5_copy_83 rfl rfl ?_
            obtain ⟨q20, e21, hf⟩ := kf_b hf
            refine k_callV C [.int v2, .int v5] (mX1_has (sd_of (vi_lt g9)) e21) (sd_1 (sd_of (vi_lt g9))) (by decide) rfl kw_3_169 kw_3_170 kw_3_171 kw_1_6 kw_3_172 qX1_has rfl ⟨by decide, by decide⟩ ⟨rfl, rfl⟩ (Nat.le_of_ble_eq_true rfl) dX5_copy_85 rfl ?_ rfl
            refine (show kV Z 8 88 [(7, kr Z (51 + 2 * v3.toNatClampNeg)), (6, kr Z (51 + 2 * v1.toNatClampNeg)), (0, kr Z 0), (1, .int v1), (2, .int v2), (3, .int v3), (4, .int v4), (5, .int v5)] [.int q20.1] q20.2 from ?_)
            refine k_if_eq C 103 dX5_copy_88 rfl rfl (fun b22 => ?_) (fun b22 => ?_)
            · replace hf := kf_t hf b22
              refine k_aload_n C 2 dX5_copy_103 rfl rfl rfl ?_
              refine k_ldc C (-1000000001 : Int32) kw_1_192 dX5_copy_104 rfl ?_
              obtain ⟨q23, e24, hf⟩ := kf_b hf
              refine k_callV C [.int (-1000000001 : Int32)] (mX5_tell e24) rfl (by decide) rfl kw_1_193 kw_1_195 kw_0_0 kw_1_1 kw_1_196 qX5_tell rfl ⟨by decide, by decide⟩ ⟨rfl, rfl⟩ (Nat.le_of_ble_eq_true rfl) dX5_copy_106 rfl ?_ rfl
              refine (show kV Z 8 109 [(7, kr Z (51 + 2 * v3.toNatClampNeg)), (6, kr Z (51 + 2 * v1.toNatClampNeg)), (0, kr Z 0), (1, .int v1), (2, .int v2), (3, .int v3), (4, .int v4), (5, .int v5)] [.int q23.1] q23.2 from ?_)
              exact k_iret C K hf dX5_copy_109
            · replace hf := kf_f hf b22
              refine k_aload C 0 dX5_copy_91 rfl rfl ?_
              refine k_iload C 6 dX5_copy_93 rfl rfl ?_
              refine k_iload C 7 dX5_copy_95 rfl rfl ?_
              obtain ⟨q25, e26, hf⟩ := kf_b hf
              refine k_callV C [.int v4, .int v5] (mX1_has (sd_of (vi_lt g10)) e26) (sd_1 (sd_of (vi_lt g10))) (by decide) rfl kw_3_169 kw_3_170 kw_3_171 kw_1_6 kw_3_172 qX1_has rfl ⟨by decide, by decide⟩ ⟨rfl, rfl⟩ (Nat.le_of_ble_eq_true rfl) dX5_copy_97 rfl ?_ rfl
              refine (show kV Z 8 100 [(7, kr Z (51 + 2 * v3.toNatClampNeg)), (6, kr Z (51 + 2 * v1.toNatClampNeg)), (0, kr Z 0), (1, .int v1), (2, .int v2), (3, .int v3), (4, .int v4), (5, .int v5)] [.int q25.1] q25.2 from ?_)
              refine k_if_ne C 110 dX5_copy_100 rfl rfl (fun b27 => ?_) (fun b27 => ?_)
              · replace hf := kf_f hf b27
                refine k_aload C 1 dX5_copy_110 rfl rfl ?_
                refine g_X1_numbers C (sd_1 (sd_of (vi_lt g9))) kw_1_151 dX5_copy_112 rfl ?_
                refine k_iload_n C 4 dX5_copy_115 rfl rfl rfl ?_
                refine k_aload C 0 dX5_copy_116 rfl rfl ?_
                refine g_X1_numbers C (sd_1 (sd_of (vi_lt g10))) kw_1_151 dX5_copy_118 rfl ?_
                refine k_iload C 6 dX5_copy_121 rfl rfl ?_
                refine k_iload C 7 dX5_copy_123 rfl rfl ?_
                obtain ⟨g28, hf⟩ := kf_g hf
                refine k_copyl C kw_3_173 kw_2_170 kw_2_169 kw_1_9 (sd_n (sd_of (vi_lt g9))) (sd_n (sd_of (vi_lt g10))) (fun h => g28 (Or.inl h)) (fun h => g28 (Or.inr (Or.inl h))) (fun h => g28 (Or.inr (Or.inr (Or.inl h)))) (Nat.le_of_not_lt (fun h => g28 (Or.inr (Or.inr (Or.inr (Or.inl h)))))) (Nat.le_of_not_lt (fun h => g28 (Or.inr (Or.inr (Or.inr (Or.inr h)))))) ⟨by decide, by decide⟩ (Nat.le_of_ble_eq_true rfl) dX5_copy_125 rfl ?_
                obtain ⟨s29, e30, hf⟩ := kf_b hf
                refine k_st e30 ?_
                refine k_iload C 7 dX5_copy_128 rfl rfl ?_
                exact k_iret C K hf dX5_copy_130
              · replace hf := kf_t hf b27
                refine k_aload_n C 2 dX5_copy_103 rfl rfl rfl ?_
                refine k_ldc C (-1000000001 : Int32) kw_1_192 dX5_copy_104 rfl ?_
                obtain ⟨q31, e32, hf⟩ := kf_b hf
                refine k_callV C [.int (-1000000001 : Int32)] (mX5_tell e32) rfl (by decide) rfl kw_1_193 kw_1_195 kw_0_0 kw_1_1 kw_1_196 qX5_tell rfl ⟨by decide, by decide⟩ ⟨rfl, rfl⟩ (Nat.le_of_ble_eq_true rfl) dX5_copy_106 rfl ?_ rfl
                refine (show kV Z 8 109 [(7, kr Z (51 + 2 * v3.toNatClampNeg)), (6, kr Z (51 + 2 * v1.toNatClampNeg)), (0, kr Z 0), (1, .int v1), (2, .int v2), (3, .int v3), (4, .int v4), (5, .int v5)] [.int q31.1] q31.2 from ?_)
                exact k_iret C K hf dX5_copy_109
          · replace hf := kf_f hf b19
            refine k_aload_n C 2 dX5_copy_73 rfl rfl rfl ?_
            refine k_ldc C (-1000000003 : Int32) kw_2_102 dX5_copy_74 rfl ?_
            obtain ⟨q33, e34, hf⟩ := kf_b hf
            refine k_callV C [.int (-1000000003 : Int32)] (mX5_tell e34) rfl (by decide) rfl kw_1_193 kw_1_195 kw_0_0 kw_1_1 kw_1_196 qX5_tell rfl ⟨by decide, by decide⟩ ⟨rfl, rfl⟩ (Nat.le_of_ble_eq_true rfl) dX5_copy_76 rfl ?_ rfl
            refine (show kV Z 8 79 [(7, kr Z (51 + 2 * v3.toNatClampNeg)), (6, kr Z (51 + 2 * v1.toNatClampNeg)), (0, kr Z 0), (1, .int v1), (2, .int v2), (3, .int v3), (4, .int v4), (5, .int v5)] [.int q33.1] q33.2 from ?_)
            exact k_iret C K hf dX5_copy_79
        · replace hf := kf_f hf b18
          refine k_aload_n C 2 dX5_copy_53 rfl rfl rfl ?_
          refine k_ldc C (-1000000006 : Int32) kw_3_160 dX5_copy_54 rfl ?_
          obtain ⟨q35, e36, hf⟩ := kf_b hf
          refine k_callV C [.int (-1000000006 : Int32)] (mX5_tell e36) rfl (by decide) rfl kw_1_193 kw_1_195 kw_0_0 kw_1_1 kw_1_196 qX5_tell rfl ⟨by decide, by decide⟩ ⟨rfl, rfl⟩ (Nat.le_of_ble_eq_true rfl) dX5_copy_56 rfl ?_ rfl
          refine (show kV Z 8 59 [(7, kr Z (51 + 2 * v3.toNatClampNeg)), (6, kr Z (51 + 2 * v1.toNatClampNeg)), (0, kr Z 0), (1, .int v1), (2, .int v2), (3, .int v3), (4, .int v4), (5, .int v5)] [.int q35.1] q35.2 from ?_)
          exact k_iret C K hf dX5_copy_59
    · replace hf := kf_t hf b8
      refine k_aload_n C 0 dX5_copy_14 rfl rfl rfl ?_
      refine k_ldc C (-1000000001 : Int32) kw_1_192 dX5_copy_15 rfl ?_
      obtain ⟨q37, e38, hf⟩ := kf_b hf
      refine k_callV C [.int (-1000000001 : Int32)] (mX5_tell e38) rfl (by decide) rfl kw_1_193 kw_1_195 kw_0_0 kw_1_1 kw_1_196 qX5_tell rfl ⟨by decide, by decide⟩ ⟨rfl, rfl⟩ (Nat.le_of_ble_eq_true rfl) dX5_copy_17 rfl ?_ rfl
      refine (show kV Z 8 20 [(0, kr Z 0), (1, .int v1), (2, .int v2), (3, .int v3), (4, .int v4), (5, .int v5)] [.int q37.1] q37.2 from ?_)
      exact k_iret C K hf dX5_copy_20
theorem mX5_copy {G : kG} {v1 : Int32} {v2 : Int32} {v3 : Int32} {v4 : Int32} {v5 : Int32}  {st : kM} {res : Int32 × kM} (hf : fX5_copy v1 v2 v3 v4 v5 st = some res) : kCt G yX5_copy cX5_copy 8 (some .int) rmX5_copy [.ref (G.2.1 0), .int v1, .int v2, .int v3, .int v4, .int v5] st (some (.int res.1)) res.2 := kMet (by decide) (Nat.le_of_ble_eq_true rfl) ⟨rfl, rfl⟩ (fun X A Q C K => tX5_copy C  hf K)
theorem qX5_copy : yX5_copy.cls = RX5 ∧ yX5_copy.cls ≠ "java/lang/invoke/MethodHandle" ∧ yX5_copy.cls ≠ "java/lang/invoke/VarHandle" ∧ (parseMethodDescriptor yX5_copy.desc).map (fun d => d.parameters.length) = some 5 := ⟨rfl, by decide, by decide, by decide +kernel⟩
-- TalkKnots.lays(I)I
def rmX5_lays : Room := { frames := 2, cells := 0, slots := 0, locals := 44 }
def fX5_lays_40 : Nat → Nat → Int32 → Int32 → kM → Option (Int32 × kM)
  | 0, _, _, _, _ => none
  | n + 1, x2, x3, x4, st =>
    if (12 : Int32) ≤ x4 then (some (x3, st)) else (if (st.1 x2 1) ≤ x4 then (some (x3, st)) else (if x4 < 0 ∨ 40 ≤ x4.toNatClampNeg then none else ((some (st.2 (x2 + 1) x4.toNatClampNeg)).bind fun z4 => (if (lg_cmp z4 (0 : Int64)) < 0 then (fX5_lays_40 n x2 x3 (x4 + (1 : Int32)) st) else (if 0 < (lg_cmp z4 (99 : Int64)) then (fX5_lays_40 n x2 x3 (x4 + (1 : Int32)) st) else (if x4 < 0 ∨ 12 ≤ x4.toNatClampNeg then none else ((some (kwr st (1 + 1) x4.toNatClampNeg (z4.toInt32))).bind fun s9 => (fX5_lays_40 n x2 (x3 + (1 : Int32)) (x4 + (1 : Int32)) s9))))))))
def fX5_lays (v1 : Int32) (st : kM) : Option (Int32 × kM) :=
  (fX5_isSheet v1 st).bind fun q1 => (if q1.1 = 0 then ((fX5_tell (-1000000001 : Int32) q1.2).bind fun q10 => (some (q10.1, q10.2))) else (if v1 < 0 ∨ 4 ≤ v1.toNatClampNeg then none else ((fX1_isMissing (51 + 2 * v1.toNatClampNeg) q1.2).bind fun q5 => (if q5.1 = 0 then (fX5_lays_40 kfu (51 + 2 * v1.toNatClampNeg) (0 : Int32) (0 : Int32) q5.2) else ((fX5_tell (-1000000006 : Int32) q5.2).bind fun q8 => (some (q8.1, q8.2)))))))
set_option maxRecDepth 100000 in
theorem tX5_lays_40 {Z : kZ} (C : kC Z cX5_lays RX5 7 rmX5_lays) {res : Int32 × kM} (K : kEnd Z (some .int) (some (.int res.1)) res.2) : ∀ (n : Nat) (x2 : Nat) (x3 : Int32) (x4 : Int32) (st : kM), (hx2 : sd x2) → fX5_lays_40 n x2 x3 x4 st = some res → kV Z 7 40 [(0, kr Z 0), (2, kr Z x2), (3, .int x3), (4, .int x4)] [] st := by
  intro n
  induction n with
  | zero => intro x2 x3 x4 st hx2 hf; cases hf
  | succ n ih =>
    intro x2 x3 x4 st hx2 hf
    unfold fX5_lays_40 at hf
    refine k_iload C 3 dX5_lays_40 rfl rfl ?_
    refine k_bipush C (12 : Int32) dX5_lays_42 (by decide) rfl ?_
    refine k_icmp_ge C 103 dX5_lays_44 rfl rfl (fun b1 => ?_) (fun b1 => ?_)
    · replace hf := kf_t hf b1
      refine k_iload_n C 2 dX5_lays_103 rfl rfl rfl ?_
      exact k_iret C K hf dX5_lays_104
    · replace hf := kf_f hf b1
      refine k_iload C 3 dX5_lays_47 rfl rfl ?_
      refine k_aload_n C 1 dX5_lays_49 rfl rfl rfl ?_
      refine g_X1_size C (sd_1 hx2) kw_1_149 dX5_lays_50 rfl ?_
      refine k_icmp_ge C 103 dX5_lays_53 rfl rfl (fun b2 => ?_) (fun b2 => ?_)
      · replace hf := kf_t hf b2
        refine k_iload_n C 2 dX5_lays_103 rfl rfl rfl ?_
        exact k_iret C K hf dX5_lays_104
      · replace hf := kf_f hf b2
        refine k_aload_n C 1 dX5_lays_56 rfl rfl rfl ?_
        refine g_X1_numbers C (sd_1 hx2) kw_1_151 dX5_lays_57 rfl ?_
        refine k_iload C 3 dX5_lays_60 rfl rfl ?_
        obtain ⟨g3, hf⟩ := kf_g hf
        refine k_lald (j := x4.toNatClampNeg) C (sd_n hx2) g3 rfl dX5_lays_62 rfl ?_
        obtain ⟨z4, e5, hf⟩ := kf_b hf
        refine k_topl e5 ?_
        refine k_lstore (lv' := [(5, .long z4), (0, kr Z 0), (2, kr Z x2), (3, .int x3), (4, .int x4)]) C dX5_lays_63 (by decide) rfl rfl ?_
        refine k_lload C 0 dX5_lays_65 rfl rfl ?_
        refine k_lconst C (0 : Int64) dX5_lays_67 (by decide) rfl ?_
        refine k_lcmp C dX5_lays_68 rfl ?_
        refine k_if_lt C 97 dX5_lays_69 rfl rfl (fun b6 => ?_) (fun b6 => ?_)
        · replace hf := kf_t hf b6
          refine k_iinc (lv' := [(4, .int (x4 + (1 : Int32))), (5, .long z4), (0, kr Z 0), (2, kr Z x2), (3, .int x3)]) C (x4 + (1 : Int32)) 4 dX5_lays_97 rfl rfl (by decide) rfl rfl ?_
          refine k_goto C 40 dX5_lays_100 rfl ?_
          refine k_lv (lv' := [(0, kr Z 0), (2, kr Z x2), (3, .int x3), (4, .int (x4 + (1 : Int32)))]) [2, 3, 4, 0] rfl ?_
          exact ih x2 x3 (x4 + (1 : Int32)) st hx2 hf
        · replace hf := kf_f hf b6
          refine k_lload C 0 dX5_lays_72 rfl rfl ?_
          refine k_ldc2 C (99 : Int64) kw_3_178 dX5_lays_74 rfl ?_
          refine k_lcmp C dX5_lays_77 rfl ?_
          refine k_if_gt C 97 dX5_lays_78 rfl rfl (fun b7 => ?_) (fun b7 => ?_)
          · replace hf := kf_t hf b7
            refine k_iinc (lv' := [(4, .int (x4 + (1 : Int32))), (5, .long z4), (0, kr Z 0), (2, kr Z x2), (3, .int x3)]) C (x4 + (1 : Int32)) 4 dX5_lays_97 rfl rfl (by decide) rfl rfl ?_
            refine k_goto C 40 dX5_lays_100 rfl ?_
            refine k_lv (lv' := [(0, kr Z 0), (2, kr Z x2), (3, .int x3), (4, .int (x4 + (1 : Int32)))]) [2, 3, 4, 0] rfl ?_
            exact ih x2 x3 (x4 + (1 : Int32)) st hx2 hf
          · replace hf := kf_f hf b7
            refine k_aload_n C 1 dX5_lays_81 rfl rfl rfl ?_
            refine g_X5_present C rfl kw_1_160 dX5_lays_82 rfl ?_
            refine g_X4_winds C (yd_4 yd_1) kw_1_72 dX5_lays_85 rfl ?_
            refine k_iload C 4 dX5_lays_88 rfl rfl ?_
            refine k_lload C 0 dX5_lays_90 rfl rfl ?_
            refine k_l2i C dX5_lays_92 rfl ?_
            obtain ⟨g8, hf⟩ := kf_g hf
            refine k_iast (j := x4.toNatClampNeg) C (yd_w yd_1) g8 rfl dX5_lays_93 rfl ?_
            obtain ⟨s9, e10, hf⟩ := kf_b hf
            refine k_st e10 ?_
            refine k_iinc (lv' := [(3, .int (x3 + (1 : Int32))), (5, .long z4), (0, kr Z 0), (2, kr Z x2), (4, .int x4)]) C (x3 + (1 : Int32)) 3 dX5_lays_94 rfl rfl (by decide) rfl rfl ?_
            refine k_iinc (lv' := [(4, .int (x4 + (1 : Int32))), (3, .int (x3 + (1 : Int32))), (5, .long z4), (0, kr Z 0), (2, kr Z x2)]) C (x4 + (1 : Int32)) 4 dX5_lays_97 rfl rfl (by decide) rfl rfl ?_
            refine k_goto C 40 dX5_lays_100 rfl ?_
            refine k_lv (lv' := [(0, kr Z 0), (2, kr Z x2), (3, .int (x3 + (1 : Int32))), (4, .int (x4 + (1 : Int32)))]) [3, 4, 1, 0] rfl ?_
            exact ih x2 (x3 + (1 : Int32)) (x4 + (1 : Int32)) s9 hx2 hf
set_option maxRecDepth 100000 in
theorem tX5_lays {Z : kZ} (C : kC Z cX5_lays RX5 7 rmX5_lays) {v1 : Int32}  {st : kM} {res : Int32 × kM} (hf : fX5_lays v1 st = some res) (K : kEnd Z (some .int) (some (.int res.1)) res.2) : kV Z 7 0 [(0, kr Z 0), (1, .int v1)] [] st := by
  unfold fX5_lays at hf
  refine k_iload_n C 1 dX5_lays_0 rfl rfl rfl ?_
  obtain ⟨q1, e2, hf⟩ := kf_b hf
  refine k_callS C [.int v1] (mX5_isSheet e2) kw_3_141 kw_3_142 kw_1_1 kw_3_143 qX5_isSheet rfl ⟨by decide, by decide⟩ ⟨rfl, rfl⟩ (Nat.le_of_ble_eq_true rfl) dX5_lays_1 rfl ?_ rfl
  refine (show kV Z 7 4 [(0, kr Z 0), (1, .int v1)] [.int q1.1] q1.2 from ?_)
  refine k_if_ne C 14 dX5_lays_4 rfl rfl (fun b3 => ?_) (fun b3 => ?_)
  · replace hf := kf_f hf b3
    refine k_aload_n C 0 dX5_lays_14 rfl rfl rfl ?_
    refine g_X5_sheets C rfl kw_1_166 dX5_lays_15 rfl ?_
    refine k_iload_n C 1 dX5_lays_18 rfl rfl rfl ?_
    obtain ⟨g4, hf⟩ := kf_g hf
    refine k_aldS C g4 dX5_lays_19 rfl ?_
    refine k_astore_n (lv' := [(2, kr Z (51 + 2 * v1.toNatClampNeg)), (0, kr Z 0), (1, .int v1)]) C dX5_lays_20 rfl (by decide) rfl rfl ?_
    refine k_aload_n C 0 dX5_lays_21 rfl rfl rfl ?_
    obtain ⟨q5, e6, hf⟩ := kf_b hf
    refine k_callV C [] (mX1_isMissing (sd_of (vi_lt g4)) e6) (sd_1 (sd_of (vi_lt g4))) (by decide) rfl kw_3_156 kw_3_157 kw_3_158 kw_1_6 kw_3_159 qX1_isMissing rfl ⟨by decide, by decide⟩ ⟨rfl, rfl⟩ (Nat.le_of_ble_eq_true rfl) dX5_lays_22 rfl ?_ rfl
    refine (show kV Z 7 25 [(2, kr Z (51 + 2 * v1.toNatClampNeg)), (0, kr Z 0), (1, .int v1)] [.int q5.1] q5.2 from ?_)
    refine k_if_eq C 35 dX5_lays_25 rfl rfl (fun b7 => ?_) (fun b7 => ?_)
    · replace hf := kf_t hf b7
      refine k_iconst C (0 : Int32) dX5_lays_35 (by decide) rfl ?_
      refine k_istore_n (lv' := [(3, .int (0 : Int32)), (2, kr Z (51 + 2 * v1.toNatClampNeg)), (0, kr Z 0), (1, .int v1)]) C dX5_lays_36 rfl (by decide) rfl rfl ?_
      refine k_iconst C (0 : Int32) dX5_lays_37 (by decide) rfl ?_
      refine k_istore (lv' := [(4, .int (0 : Int32)), (3, .int (0 : Int32)), (2, kr Z (51 + 2 * v1.toNatClampNeg)), (0, kr Z 0), (1, .int v1)]) C dX5_lays_38 (by decide) rfl rfl ?_
      refine k_lv (lv' := [(0, kr Z 0), (2, kr Z (51 + 2 * v1.toNatClampNeg)), (3, .int (0 : Int32)), (4, .int (0 : Int32))]) [3, 2, 1, 0] rfl ?_
      exact tX5_lays_40 C K _ (51 + 2 * v1.toNatClampNeg) (0 : Int32) (0 : Int32) q5.2 (sd_of (vi_lt g4)) hf
    · replace hf := kf_f hf b7
      refine k_aload_n C 1 dX5_lays_28 rfl rfl rfl ?_
      refine k_ldc C (-1000000006 : Int32) kw_3_160 dX5_lays_29 rfl ?_
      obtain ⟨q8, e9, hf⟩ := kf_b hf
      refine k_callV C [.int (-1000000006 : Int32)] (mX5_tell e9) rfl (by decide) rfl kw_1_193 kw_1_195 kw_0_0 kw_1_1 kw_1_196 qX5_tell rfl ⟨by decide, by decide⟩ ⟨rfl, rfl⟩ (Nat.le_of_ble_eq_true rfl) dX5_lays_31 rfl ?_ rfl
      refine (show kV Z 7 34 [(2, kr Z (51 + 2 * v1.toNatClampNeg)), (0, kr Z 0), (1, .int v1)] [.int q8.1] q8.2 from ?_)
      exact k_iret C K hf dX5_lays_34
  · replace hf := kf_t hf b3
    refine k_aload_n C 0 dX5_lays_7 rfl rfl rfl ?_
    refine k_ldc C (-1000000001 : Int32) kw_1_192 dX5_lays_8 rfl ?_
    obtain ⟨q10, e11, hf⟩ := kf_b hf
    refine k_callV C [.int (-1000000001 : Int32)] (mX5_tell e11) rfl (by decide) rfl kw_1_193 kw_1_195 kw_0_0 kw_1_1 kw_1_196 qX5_tell rfl ⟨by decide, by decide⟩ ⟨rfl, rfl⟩ (Nat.le_of_ble_eq_true rfl) dX5_lays_10 rfl ?_ rfl
    refine (show kV Z 7 13 [(0, kr Z 0), (1, .int v1)] [.int q10.1] q10.2 from ?_)
    exact k_iret C K hf dX5_lays_13
theorem mX5_lays {G : kG} {v1 : Int32}  {st : kM} {res : Int32 × kM} (hf : fX5_lays v1 st = some res) : kCt G yX5_lays cX5_lays 7 (some .int) rmX5_lays [.ref (G.2.1 0), .int v1] st (some (.int res.1)) res.2 := kMet (by decide) (Nat.le_of_ble_eq_true rfl) ⟨rfl, rfl⟩ (fun X A Q C K => tX5_lays C  hf K)
theorem qX5_lays : yX5_lays.cls = RX5 ∧ yX5_lays.cls ≠ "java/lang/invoke/MethodHandle" ∧ yX5_lays.cls ≠ "java/lang/invoke/VarHandle" ∧ (parseMethodDescriptor yX5_lays.desc).map (fun d => d.parameters.length) = some 1 := ⟨rfl, by decide, by decide, by decide +kernel⟩
-- TalkKnots.book(II)I
def rmX5_book : Room := { frames := 5, cells := 0, slots := 0, locals := 109 }
def fX5_book_64 : Nat → Int32 → Nat → Int32 → kM → Option (Int32 × kM)
  | 0, _, _, _, _ => none
  | n + 1, x2, x3, x4, st =>
    if (st.1 x3 1) ≤ x4 then (some ((st.1 x3 1), st)) else (if x2 < 0 ∨ 10 ≤ x2.toNatClampNeg then none else ((fX1_put x3 x4 ((st.1 (16 + 5 + x2.toNatClampNeg) 2).toInt64) st).bind fun s3 => ((fX4_passHour 16 s3).bind fun s5 => (fX5_book_64 n x2 x3 (x4 + (1 : Int32)) s5))))
def fX5_book (v1 : Int32) (v2 : Int32) (st : kM) : Option (Int32 × kM) :=
  (fX5_isSheet v1 st).bind fun q1 => (if q1.1 = 0 then ((fX5_tell (-1000000001 : Int32) q1.2).bind fun q17 => (some (q17.1, q17.2))) else (if v1 < 0 ∨ 4 ≤ v1.toNatClampNeg then none else ((fX1_isMissing (51 + 2 * v1.toNatClampNeg) q1.2).bind fun q5 => (if q5.1 = 0 then ((fX5_isKnot v2 q5.2).bind fun q8 => (if q8.1 = 0 then ((fX5_tell (-1000000001 : Int32) q8.2).bind fun q13 => (some (q13.1, q13.2))) else ((fX4_become 16 1 q8.2).bind fun s11 => (fX5_book_64 kfu v2 (51 + 2 * v1.toNatClampNeg) (0 : Int32) s11)))) else ((fX5_tell (-1000000006 : Int32) q5.2).bind fun q15 => (some (q15.1, q15.2)))))))
set_option maxRecDepth 100000 in
theorem tX5_book_64 {Z : kZ} (C : kC Z cX5_book RX5 5 rmX5_book) {res : Int32 × kM} (K : kEnd Z (some .int) (some (.int res.1)) res.2) : ∀ (n : Nat) (x2 : Int32) (x3 : Nat) (x4 : Int32) (st : kM), (hx3 : sd x3) → fX5_book_64 n x2 x3 x4 st = some res → kV Z 5 64 [(0, kr Z 0), (2, .int x2), (3, kr Z x3), (4, .int x4)] [] st := by
  intro n
  induction n with
  | zero => intro x2 x3 x4 st hx3 hf; cases hf
  | succ n ih =>
    intro x2 x3 x4 st hx3 hf
    unfold fX5_book_64 at hf
    refine k_iload C 3 dX5_book_64 rfl rfl ?_
    refine k_aload_n C 2 dX5_book_66 rfl rfl rfl ?_
    refine g_X1_size C (sd_1 hx3) kw_1_149 dX5_book_67 rfl ?_
    refine k_icmp_ge C 105 dX5_book_70 rfl rfl (fun b1 => ?_) (fun b1 => ?_)
    · replace hf := kf_t hf b1
      refine k_aload_n C 2 dX5_book_105 rfl rfl rfl ?_
      refine g_X1_size C (sd_1 hx3) kw_1_149 dX5_book_106 rfl ?_
      exact k_iret C K hf dX5_book_109
    · replace hf := kf_f hf b1
      refine k_aload_n C 2 dX5_book_73 rfl rfl rfl ?_
      refine k_iload C 3 dX5_book_74 rfl rfl ?_
      refine k_aload_n C 0 dX5_book_76 rfl rfl rfl ?_
      refine g_X5_trial C rfl kw_1_161 dX5_book_77 rfl ?_
      refine g_X4_knots C (yd_4 yd_16) kw_1_79 dX5_book_80 rfl ?_
      refine k_iload_n C 1 dX5_book_83 rfl rfl rfl ?_
      obtain ⟨g2, hf⟩ := kf_g hf
      refine k_aldK C yd_16 g2 dX5_book_84 rfl ?_
      refine g_X0_open C (yd_n yd_16 (vi_lt g2)) kw_1_43 dX5_book_85 rfl ?_
      refine k_i2l C dX5_book_88 rfl ?_
      obtain ⟨s3, e4, hf⟩ := kf_b hf
      refine k_callV C [.int x4, .long ((st.1 (16 + 5 + x2.toNatClampNeg) 2).toInt64)] (mX1_put hx3 e4) (sd_1 hx3) (by decide) rfl kw_3_161 kw_3_162 kw_3_163 kw_1_6 kw_3_164 qX1_put rfl ⟨by decide, by decide⟩ ⟨rfl, rfl⟩ (Nat.le_of_ble_eq_true rfl) dX5_book_89 rfl ?_ rfl
      refine (show kV Z 5 92 [(0, kr Z 0), (2, .int x2), (3, kr Z x3), (4, .int x4)] [] s3 from ?_)
      refine k_aload_n C 0 dX5_book_92 rfl rfl rfl ?_
      refine g_X5_trial C rfl kw_1_161 dX5_book_93 rfl ?_
      obtain ⟨s5, e6, hf⟩ := kf_b hf
      refine k_callV C [] (mX4_passHour yd_16 e6) (yd_4 yd_16) (by decide) rfl kw_3_183 kw_2_138 kw_2_139 kw_1_2 kw_2_140 qX4_passHour rfl ⟨by decide, by decide⟩ ⟨rfl, rfl⟩ (Nat.le_of_ble_eq_true rfl) dX5_book_96 rfl ?_ rfl
      refine (show kV Z 5 99 [(0, kr Z 0), (2, .int x2), (3, kr Z x3), (4, .int x4)] [] s5 from ?_)
      refine k_iinc (lv' := [(4, .int (x4 + (1 : Int32))), (0, kr Z 0), (2, .int x2), (3, kr Z x3)]) C (x4 + (1 : Int32)) 3 dX5_book_99 rfl rfl (by decide) rfl rfl ?_
      refine k_goto C 64 dX5_book_102 rfl ?_
      refine k_lv (lv' := [(0, kr Z 0), (2, .int x2), (3, kr Z x3), (4, .int (x4 + (1 : Int32)))]) [1, 2, 3, 0] rfl ?_
      exact ih x2 x3 (x4 + (1 : Int32)) s5 hx3 hf
set_option maxRecDepth 100000 in
theorem tX5_book {Z : kZ} (C : kC Z cX5_book RX5 5 rmX5_book) {v1 : Int32} {v2 : Int32}  {st : kM} {res : Int32 × kM} (hf : fX5_book v1 v2 st = some res) (K : kEnd Z (some .int) (some (.int res.1)) res.2) : kV Z 5 0 [(0, kr Z 0), (1, .int v1), (2, .int v2)] [] st := by
  unfold fX5_book at hf
  refine k_iload_n C 1 dX5_book_0 rfl rfl rfl ?_
  obtain ⟨q1, e2, hf⟩ := kf_b hf
  refine k_callS C [.int v1] (mX5_isSheet e2) kw_3_141 kw_3_142 kw_1_1 kw_3_143 qX5_isSheet rfl ⟨by decide, by decide⟩ ⟨rfl, rfl⟩ (Nat.le_of_ble_eq_true rfl) dX5_book_1 rfl ?_ rfl
  refine (show kV Z 5 4 [(0, kr Z 0), (1, .int v1), (2, .int v2)] [.int q1.1] q1.2 from ?_)
  refine k_if_ne C 14 dX5_book_4 rfl rfl (fun b3 => ?_) (fun b3 => ?_)
  · replace hf := kf_f hf b3
    refine k_aload_n C 0 dX5_book_14 rfl rfl rfl ?_
    refine g_X5_sheets C rfl kw_1_166 dX5_book_15 rfl ?_
    refine k_iload_n C 1 dX5_book_18 rfl rfl rfl ?_
    obtain ⟨g4, hf⟩ := kf_g hf
    refine k_aldS C g4 dX5_book_19 rfl ?_
    refine k_astore_n (lv' := [(3, kr Z (51 + 2 * v1.toNatClampNeg)), (0, kr Z 0), (1, .int v1), (2, .int v2)]) C dX5_book_20 rfl (by decide) rfl rfl ?_
    refine k_aload_n C 0 dX5_book_21 rfl rfl rfl ?_
    obtain ⟨q5, e6, hf⟩ := kf_b hf
    refine k_callV C [] (mX1_isMissing (sd_of (vi_lt g4)) e6) (sd_1 (sd_of (vi_lt g4))) (by decide) rfl kw_3_156 kw_3_157 kw_3_158 kw_1_6 kw_3_159 qX1_isMissing rfl ⟨by decide, by decide⟩ ⟨rfl, rfl⟩ (Nat.le_of_ble_eq_true rfl) dX5_book_22 rfl ?_ rfl
    refine (show kV Z 5 25 [(3, kr Z (51 + 2 * v1.toNatClampNeg)), (0, kr Z 0), (1, .int v1), (2, .int v2)] [.int q5.1] q5.2 from ?_)
    refine k_if_eq C 35 dX5_book_25 rfl rfl (fun b7 => ?_) (fun b7 => ?_)
    · replace hf := kf_t hf b7
      refine k_aload_n C 1 dX5_book_35 rfl rfl rfl ?_
      refine k_iload_n C 3 dX5_book_36 rfl rfl rfl ?_
      obtain ⟨q8, e9, hf⟩ := kf_b hf
      refine k_callV C [.int v2] (mX5_isKnot e9) rfl (by decide) rfl kw_2_65 kw_2_67 kw_0_5 kw_1_1 kw_2_68 qX5_isKnot rfl ⟨by decide, by decide⟩ ⟨rfl, rfl⟩ (Nat.le_of_ble_eq_true rfl) dX5_book_37 rfl ?_ rfl
      refine (show kV Z 5 40 [(3, kr Z (51 + 2 * v1.toNatClampNeg)), (0, kr Z 0), (1, .int v1), (2, .int v2)] [.int q8.1] q8.2 from ?_)
      refine k_if_ne C 50 dX5_book_40 rfl rfl (fun b10 => ?_) (fun b10 => ?_)
      · replace hf := kf_f hf b10
        refine k_aload_n C 1 dX5_book_50 rfl rfl rfl ?_
        refine g_X5_trial C rfl kw_1_161 dX5_book_51 rfl ?_
        refine k_aload_n C 1 dX5_book_54 rfl rfl rfl ?_
        refine g_X5_present C rfl kw_1_160 dX5_book_55 rfl ?_
        obtain ⟨s11, e12, hf⟩ := kf_b hf
        refine k_callV C [kr Z 1] (mX4_become yd_16 yd_1 e12) (yd_4 yd_16) (by decide) rfl kw_2_164 kw_2_165 kw_2_166 kw_1_2 kw_2_167 qX4_become rfl ⟨by decide, by decide⟩ ⟨rfl, rfl⟩ (Nat.le_of_ble_eq_true rfl) dX5_book_58 rfl ?_ rfl
        refine (show kV Z 5 61 [(3, kr Z (51 + 2 * v1.toNatClampNeg)), (0, kr Z 0), (1, .int v1), (2, .int v2)] [] s11 from ?_)
        refine k_iconst C (0 : Int32) dX5_book_61 (by decide) rfl ?_
        refine k_istore (lv' := [(4, .int (0 : Int32)), (3, kr Z (51 + 2 * v1.toNatClampNeg)), (0, kr Z 0), (1, .int v1), (2, .int v2)]) C dX5_book_62 (by decide) rfl rfl ?_
        refine k_lv (lv' := [(0, kr Z 0), (2, .int v2), (3, kr Z (51 + 2 * v1.toNatClampNeg)), (4, .int (0 : Int32))]) [2, 4, 1, 0] rfl ?_
        exact tX5_book_64 C K _ v2 (51 + 2 * v1.toNatClampNeg) (0 : Int32) s11 (sd_of (vi_lt g4)) hf
      · replace hf := kf_t hf b10
        refine k_aload_n C 1 dX5_book_43 rfl rfl rfl ?_
        refine k_ldc C (-1000000001 : Int32) kw_1_192 dX5_book_44 rfl ?_
        obtain ⟨q13, e14, hf⟩ := kf_b hf
        refine k_callV C [.int (-1000000001 : Int32)] (mX5_tell e14) rfl (by decide) rfl kw_1_193 kw_1_195 kw_0_0 kw_1_1 kw_1_196 qX5_tell rfl ⟨by decide, by decide⟩ ⟨rfl, rfl⟩ (Nat.le_of_ble_eq_true rfl) dX5_book_46 rfl ?_ rfl
        refine (show kV Z 5 49 [(3, kr Z (51 + 2 * v1.toNatClampNeg)), (0, kr Z 0), (1, .int v1), (2, .int v2)] [.int q13.1] q13.2 from ?_)
        exact k_iret C K hf dX5_book_49
    · replace hf := kf_f hf b7
      refine k_aload_n C 1 dX5_book_28 rfl rfl rfl ?_
      refine k_ldc C (-1000000006 : Int32) kw_3_160 dX5_book_29 rfl ?_
      obtain ⟨q15, e16, hf⟩ := kf_b hf
      refine k_callV C [.int (-1000000006 : Int32)] (mX5_tell e16) rfl (by decide) rfl kw_1_193 kw_1_195 kw_0_0 kw_1_1 kw_1_196 qX5_tell rfl ⟨by decide, by decide⟩ ⟨rfl, rfl⟩ (Nat.le_of_ble_eq_true rfl) dX5_book_31 rfl ?_ rfl
      refine (show kV Z 5 34 [(3, kr Z (51 + 2 * v1.toNatClampNeg)), (0, kr Z 0), (1, .int v1), (2, .int v2)] [.int q15.1] q15.2 from ?_)
      exact k_iret C K hf dX5_book_34
  · replace hf := kf_t hf b3
    refine k_aload_n C 0 dX5_book_7 rfl rfl rfl ?_
    refine k_ldc C (-1000000001 : Int32) kw_1_192 dX5_book_8 rfl ?_
    obtain ⟨q17, e18, hf⟩ := kf_b hf
    refine k_callV C [.int (-1000000001 : Int32)] (mX5_tell e18) rfl (by decide) rfl kw_1_193 kw_1_195 kw_0_0 kw_1_1 kw_1_196 qX5_tell rfl ⟨by decide, by decide⟩ ⟨rfl, rfl⟩ (Nat.le_of_ble_eq_true rfl) dX5_book_10 rfl ?_ rfl
    refine (show kV Z 5 13 [(0, kr Z 0), (1, .int v1), (2, .int v2)] [.int q17.1] q17.2 from ?_)
    exact k_iret C K hf dX5_book_13
theorem mX5_book {G : kG} {v1 : Int32} {v2 : Int32}  {st : kM} {res : Int32 × kM} (hf : fX5_book v1 v2 st = some res) : kCt G yX5_book cX5_book 5 (some .int) rmX5_book [.ref (G.2.1 0), .int v1, .int v2] st (some (.int res.1)) res.2 := kMet (by decide) (Nat.le_of_ble_eq_true rfl) ⟨rfl, rfl⟩ (fun X A Q C K => tX5_book C  hf K)
theorem qX5_book : yX5_book.cls = RX5 ∧ yX5_book.cls ≠ "java/lang/invoke/MethodHandle" ∧ yX5_book.cls ≠ "java/lang/invoke/VarHandle" ∧ (parseMethodDescriptor yX5_book.desc).map (fun d => d.parameters.length) = some 2 := ⟨rfl, by decide, by decide, by decide +kernel⟩
-- TalkKnots.goesAsTold(LTalkKnots$Sheet;III)Z
def rmX5_goesAsTold : Room := { frames := 5, cells := 0, slots := 0, locals := 109 }
def fX5_goesAsTold_38 : Nat → Nat → Nat → Int32 → kM → Option (Int32 × kM)
  | 0, _, _, _, _ => none
  | n + 1, x1, x5, x6, st =>
    if (st.1 x1 1) ≤ x6 then (some ((1 : Int32), st)) else (if x6 < 0 ∨ 40 ≤ x6.toNatClampNeg then none else (if (lg_cmp (st.2 (x1 + 1) x6.toNatClampNeg) ((st.1 x5 2).toInt64)) = 0 then ((fX4_passHour 16 st).bind fun s4 => (fX5_goesAsTold_38 n x1 x5 (x6 + (1 : Int32)) s4)) else (some ((0 : Int32), st))))
def fX5_goesAsTold (c1 : Nat) (v2 : Int32) (v3 : Int32) (v4 : Int32) (st : kM) : Option (Int32 × kM) :=
  (fX4_become 16 1 st).bind fun s1 => (if v2 < 0 ∨ 10 ≤ v2.toNatClampNeg then none else ((some (kwr s1 (16 + 5 + v2.toNatClampNeg) 0 v3)).bind fun s4 => ((some (kwr s4 (16 + 5 + v2.toNatClampNeg) 2 v4)).bind fun s6 => (fX5_goesAsTold_38 kfu c1 (16 + 5 + v2.toNatClampNeg) (0 : Int32) s6))))
set_option maxRecDepth 100000 in
theorem tX5_goesAsTold_38 {Z : kZ} (C : kC Z cX5_goesAsTold RX5 7 rmX5_goesAsTold) {res : Int32 × kM} (K : kEnd Z (some .boolean) (some (.int res.1)) res.2) : ∀ (n : Nat) (x1 : Nat) (x5 : Nat) (x6 : Int32) (st : kM), (hx1 : sd x1) → (hx5 : kd x5 = 0) → fX5_goesAsTold_38 n x1 x5 x6 st = some res → kV Z 7 38 [(0, kr Z 0), (1, kr Z x1), (5, kr Z x5), (6, .int x6)] [] st := by
  intro n
  induction n with
  | zero => intro x1 x5 x6 st hx1 hx5 hf; cases hf
  | succ n ih =>
    intro x1 x5 x6 st hx1 hx5 hf
    unfold fX5_goesAsTold_38 at hf
    refine k_iload C 3 dX5_goesAsTold_38 rfl rfl ?_
    refine k_aload_n C 1 dX5_goesAsTold_40 rfl rfl rfl ?_
    refine g_X1_size C (sd_1 hx1) kw_1_149 dX5_goesAsTold_41 rfl ?_
    refine k_icmp_ge C 79 dX5_goesAsTold_44 rfl rfl (fun b1 => ?_) (fun b1 => ?_)
    · replace hf := kf_t hf b1
      refine k_iconst C (1 : Int32) dX5_goesAsTold_79 (by decide) rfl ?_
      exact k_zret C K hf rfl dX5_goesAsTold_80
    · replace hf := kf_f hf b1
      refine k_aload_n C 1 dX5_goesAsTold_47 rfl rfl rfl ?_
      refine g_X1_numbers C (sd_1 hx1) kw_1_151 dX5_goesAsTold_48 rfl ?_
      refine k_iload C 3 dX5_goesAsTold_51 rfl rfl ?_
      obtain ⟨g2, hf⟩ := kf_g hf
      refine k_lald (j := x6.toNatClampNeg) C (sd_n hx1) g2 rfl dX5_goesAsTold_53 rfl ?_
      refine k_aload C 2 dX5_goesAsTold_54 rfl rfl ?_
      refine g_X0_open C hx5 kw_1_43 dX5_goesAsTold_56 rfl ?_
      refine k_i2l C dX5_goesAsTold_59 rfl ?_
      refine k_lcmp C dX5_goesAsTold_60 rfl ?_
      refine k_if_eq C 66 dX5_goesAsTold_61 rfl rfl (fun b3 => ?_) (fun b3 => ?_)
      · replace hf := kf_t hf b3
        refine k_aload_n C 0 dX5_goesAsTold_66 rfl rfl rfl ?_
        refine g_X5_trial C rfl kw_1_161 dX5_goesAsTold_67 rfl ?_
        obtain ⟨s4, e5, hf⟩ := kf_b hf
        refine k_callV C [] (mX4_passHour yd_16 e5) (yd_4 yd_16) (by decide) rfl kw_3_183 kw_2_138 kw_2_139 kw_1_2 kw_2_140 qX4_passHour rfl ⟨by decide, by decide⟩ ⟨rfl, rfl⟩ (Nat.le_of_ble_eq_true rfl) dX5_goesAsTold_70 rfl ?_ rfl
        refine (show kV Z 7 73 [(0, kr Z 0), (1, kr Z x1), (5, kr Z x5), (6, .int x6)] [] s4 from ?_)
        refine k_iinc (lv' := [(6, .int (x6 + (1 : Int32))), (0, kr Z 0), (1, kr Z x1), (5, kr Z x5)]) C (x6 + (1 : Int32)) 3 dX5_goesAsTold_73 rfl rfl (by decide) rfl rfl ?_
        refine k_goto C 38 dX5_goesAsTold_76 rfl ?_
        refine k_lv (lv' := [(0, kr Z 0), (1, kr Z x1), (5, kr Z x5), (6, .int (x6 + (1 : Int32)))]) [1, 2, 3, 0] rfl ?_
        exact ih x1 x5 (x6 + (1 : Int32)) s4 hx1 hx5 hf
      · replace hf := kf_f hf b3
        refine k_iconst C (0 : Int32) dX5_goesAsTold_64 (by decide) rfl ?_
        exact k_zret C K hf rfl dX5_goesAsTold_65
set_option maxRecDepth 100000 in
theorem tX5_goesAsTold {Z : kZ} (C : kC Z cX5_goesAsTold RX5 7 rmX5_goesAsTold) {c1 : Nat} {v2 : Int32} {v3 : Int32} {v4 : Int32} (hc1 : sd c1) {st : kM} {res : Int32 × kM} (hf : fX5_goesAsTold c1 v2 v3 v4 st = some res) (K : kEnd Z (some .boolean) (some (.int res.1)) res.2) : kV Z 7 0 [(0, kr Z 0), (1, kr Z c1), (2, .int v2), (3, .int v3), (4, .int v4)] [] st := by
  unfold fX5_goesAsTold at hf
  refine k_aload_n C 0 dX5_goesAsTold_0 rfl rfl rfl ?_
  refine g_X5_trial C rfl kw_1_161 dX5_goesAsTold_1 rfl ?_
  refine k_aload_n C 0 dX5_goesAsTold_4 rfl rfl rfl ?_
  refine g_X5_present C rfl kw_1_160 dX5_goesAsTold_5 rfl ?_
  obtain ⟨s1, e2, hf⟩ := kf_b hf
  refine k_callV C [kr Z 1] (mX4_become yd_16 yd_1 e2) (yd_4 yd_16) (by decide) rfl kw_2_164 kw_2_165 kw_2_166 kw_1_2 kw_2_167 qX4_become rfl ⟨by decide, by decide⟩ ⟨rfl, rfl⟩ (Nat.le_of_ble_eq_true rfl) dX5_goesAsTold_8 rfl ?_ rfl
  refine (show kV Z 7 11 [(0, kr Z 0), (1, kr Z c1), (2, .int v2), (3, .int v3), (4, .int v4)] [] s1 from ?_)
  refine k_aload_n C 0 dX5_goesAsTold_11 rfl rfl rfl ?_
  refine g_X5_trial C rfl kw_1_161 dX5_goesAsTold_12 rfl ?_
  refine g_X4_knots C (yd_4 yd_16) kw_1_79 dX5_goesAsTold_15 rfl ?_
  refine k_iload_n C 2 dX5_goesAsTold_18 rfl rfl rfl ?_
  obtain ⟨g3, hf⟩ := kf_g hf
  refine k_aldK C yd_16 g3 dX5_goesAsTold_19 rfl ?_
  refine k_astore (lv' := [(5, kr Z (16 + 5 + v2.toNatClampNeg)), (0, kr Z 0), (1, kr Z c1), (2, .int v2), (3, .int v3), (4, .int v4)]) C dX5_goesAsTold_20 (by decide) rfl rfl ?_
  refine k_aload C 0 dX5_goesAsTold_22 rfl rfl ?_
  refine k_iload_n C 4 dX5_goesAsTold_24 rfl rfl rfl ?_
  refine p_X0_kind C (yd_n yd_16 (vi_lt g3)) kw_1_37 dX5_goesAsTold_25 rfl ?_
  obtain ⟨s4, e5, hf⟩ := kf_b hf
  refine k_st e5 ?_
  refine k_aload C 0 dX5_goesAsTold_28 rfl rfl ?_
  refine k_iload C 5 dX5_goesAsTold_30 rfl rfl ?_
  refine p_X0_open C (yd_n yd_16 (vi_lt g3)) kw_1_43 dX5_goesAsTold_32 rfl ?_
  obtain ⟨s6, e7, hf⟩ := kf_b hf
  refine k_st e7 ?_
  refine k_iconst C (0 : Int32) dX5_goesAsTold_35 (by decide) rfl ?_
  refine k_istore (lv' := [(6, .int (0 : Int32)), (5, kr Z (16 + 5 + v2.toNatClampNeg)), (0, kr Z 0), (1, kr Z c1), (2, .int v2), (3, .int v3), (4, .int v4)]) C dX5_goesAsTold_36 (by decide) rfl rfl ?_
  refine k_lv (lv' := [(0, kr Z 0), (1, kr Z c1), (5, kr Z (16 + 5 + v2.toNatClampNeg)), (6, .int (0 : Int32))]) [2, 3, 1, 0] rfl ?_
  exact tX5_goesAsTold_38 C K _ c1 (16 + 5 + v2.toNatClampNeg) (0 : Int32) s6 hc1 (yd_n yd_16 (vi_lt g3)) hf
theorem mX5_goesAsTold {G : kG} {c1 : Nat} {v2 : Int32} {v3 : Int32} {v4 : Int32} (hc1 : sd c1) {st : kM} {res : Int32 × kM} (hf : fX5_goesAsTold c1 v2 v3 v4 st = some res) : kCt G yX5_goesAsTold cX5_goesAsTold 7 (some .boolean) rmX5_goesAsTold [.ref (G.2.1 0), .ref (G.2.1 c1), .int v2, .int v3, .int v4] st (some (.int res.1)) res.2 := kMet (by decide) (Nat.le_of_ble_eq_true rfl) ⟨rfl, rfl⟩ (fun X A Q C K => tX5_goesAsTold C hc1 hf K)
theorem qX5_goesAsTold : yX5_goesAsTold.cls = RX5 ∧ yX5_goesAsTold.cls ≠ "java/lang/invoke/MethodHandle" ∧ yX5_goesAsTold.cls ≠ "java/lang/invoke/VarHandle" ∧ (parseMethodDescriptor yX5_goesAsTold.desc).map (fun d => d.parameters.length) = some 4 := ⟨rfl, by decide, by decide, by decide +kernel⟩
-- TalkKnots.read(II)I
def rmX5_read : Room := { frames := 6, cells := 0, slots := 0, locals := 135 }
def fX5_read_66 (k56 : Int32 → Nat → Int32 → Int32 → kM → Option (Int32 × kM)) : Nat → Int32 → Nat → Int32 → Int32 → Int32 → kM → Option (Int32 × kM)
  | 0, _, _, _, _, _, _ => none
  | n + 1, x2, x3, x4, x5, x6, st =>
    if (99 : Int32) < x6 then (k56 x2 x3 x4 (x5 + (1 : Int32)) st) else ((fX1_mayBeginWith x3 x6 st).bind fun q2 => (if q2.1 = 0 then (fX5_read_66 k56 n x2 x3 x4 x5 (x6 + (1 : Int32)) q2.2) else ((fX5_goesAsTold x3 x2 x5 x6 q2.2).bind fun q5 => (if q5.1 = 0 then (fX5_read_66 k56 n x2 x3 x4 x5 (x6 + (1 : Int32)) q5.2) else (fX5_read_66 k56 n x2 x3 (x4 + (1 : Int32)) x5 (x6 + (1 : Int32)) q5.2)))))
def fX5_read_56 : Nat → Int32 → Nat → Int32 → Int32 → kM → Option (Int32 × kM)
  | 0, _, _, _, _, _ => none
  | n + 1, x2, x3, x4, x5, st =>
    if (6 : Int32) ≤ x5 then (some (x4, st)) else (fX5_read_66 (fX5_read_56 n) kfu x2 x3 x4 x5 (0 : Int32) st)
def fX5_read (v1 : Int32) (v2 : Int32) (st : kM) : Option (Int32 × kM) :=
  (fX5_isSheet v1 st).bind fun q1 => (if q1.1 = 0 then ((fX5_tell (-1000000001 : Int32) q1.2).bind fun q15 => (some (q15.1, q15.2))) else (if v1 < 0 ∨ 4 ≤ v1.toNatClampNeg then none else ((fX1_isMissing (51 + 2 * v1.toNatClampNeg) q1.2).bind fun q5 => (if q5.1 = 0 then ((fX5_isKnot v2 q5.2).bind fun q8 => (if q8.1 = 0 then ((fX5_tell (-1000000001 : Int32) q8.2).bind fun q11 => (some (q11.1, q11.2))) else (fX5_read_56 kfu v2 (51 + 2 * v1.toNatClampNeg) (0 : Int32) (0 : Int32) q8.2))) else ((fX5_tell (-1000000006 : Int32) q5.2).bind fun q13 => (some (q13.1, q13.2)))))))
set_option maxRecDepth 100000 in
theorem tX5_read_66 {Z : kZ} (C : kC Z cX5_read RX5 7 rmX5_read) {res : Int32 × kM} {k56 : Int32 → Nat → Int32 → Int32 → kM → Option (Int32 × kM)} (hk56 : ∀ (x2 : Int32) (x3 : Nat) (x4 : Int32) (x5 : Int32) (st : kM), sd x3 → k56 x2 x3 x4 x5 st = some res → kV Z 7 56 [(0, kr Z 0), (2, .int x2), (3, kr Z x3), (4, .int x4), (5, .int x5)] [] st) (K : kEnd Z (some .int) (some (.int res.1)) res.2) : ∀ (n : Nat) (x2 : Int32) (x3 : Nat) (x4 : Int32) (x5 : Int32) (x6 : Int32) (st : kM), (hx3 : sd x3) → fX5_read_66 k56 n x2 x3 x4 x5 x6 st = some res → kV Z 7 66 [(0, kr Z 0), (2, .int x2), (3, kr Z x3), (4, .int x4), (5, .int x5), (6, .int x6)] [] st := by
  intro n
  induction n with
  | zero => intro x2 x3 x4 x5 x6 st hx3 hf; cases hf
  | succ n ih =>
    intro x2 x3 x4 x5 x6 st hx3 hf
    unfold fX5_read_66 at hf
    refine k_iload C 5 dX5_read_66 rfl rfl ?_
    refine k_bipush C (99 : Int32) dX5_read_68 (by decide) rfl ?_
    refine k_icmp_gt C 104 dX5_read_70 rfl rfl (fun b1 => ?_) (fun b1 => ?_)
    · replace hf := kf_t hf b1
      refine k_iinc (lv' := [(5, .int (x5 + (1 : Int32))), (0, kr Z 0), (2, .int x2), (3, kr Z x3), (4, .int x4), (6, .int x6)]) C (x5 + (1 : Int32)) 4 dX5_read_104 rfl rfl (by decide) rfl rfl ?_
      refine k_goto C 56 dX5_read_107 rfl ?_
      refine k_lv (lv' := [(0, kr Z 0), (2, .int x2), (3, kr Z x3), (4, .int x4), (5, .int (x5 + (1 : Int32)))]) [1, 2, 3, 4, 0] rfl ?_
      exact hk56 x2 x3 x4 (x5 + (1 : Int32)) st hx3 hf
    · replace hf := kf_f hf b1
      refine k_aload_n C 2 dX5_read_73 rfl rfl rfl ?_
      refine k_iload C 5 dX5_read_74 rfl rfl ?_
      obtain ⟨q2, e3, hf⟩ := kf_b hf
      refine k_callV C [.int x6] (mX1_mayBeginWith hx3 e3) (sd_1 hx3) (by decide) rfl kw_3_188 kw_3_189 kw_3_190 kw_1_6 kw_3_191 qX1_mayBeginWith rfl ⟨by decide, by decide⟩ ⟨rfl, rfl⟩ (Nat.le_of_ble_eq_true rfl) dX5_read_76 rfl ?_ rfl
      refine (show kV Z 7 79 [(0, kr Z 0), (2, .int x2), (3, kr Z x3), (4, .int x4), (5, .int x5), (6, .int x6)] [.int q2.1] q2.2 from ?_)
      refine k_if_eq C 98 dX5_read_79 rfl rfl (fun b4 => ?_) (fun b4 => ?_)
      · replace hf := kf_t hf b4
        refine k_iinc (lv' := [(6, .int (x6 + (1 : Int32))), (0, kr Z 0), (2, .int x2), (3, kr Z x3), (4, .int x4), (5, .int x5)]) C (x6 + (1 : Int32)) 5 dX5_read_98 rfl rfl (by decide) rfl rfl ?_
        refine k_goto C 66 dX5_read_101 rfl ?_
        refine k_lv (lv' := [(0, kr Z 0), (2, .int x2), (3, kr Z x3), (4, .int x4), (5, .int x5), (6, .int (x6 + (1 : Int32)))]) [1, 2, 3, 4, 5, 0] rfl ?_
        exact ih x2 x3 x4 x5 (x6 + (1 : Int32)) q2.2 hx3 hf
      · replace hf := kf_f hf b4
        refine k_aload_n C 0 dX5_read_82 rfl rfl rfl ?_
        refine k_aload_n C 2 dX5_read_83 rfl rfl rfl ?_
        refine k_iload_n C 1 dX5_read_84 rfl rfl rfl ?_
        refine k_iload C 4 dX5_read_85 rfl rfl ?_
        refine k_iload C 5 dX5_read_87 rfl rfl ?_
        obtain ⟨q5, e6, hf⟩ := kf_b hf
        refine k_callV C [kr Z x3, .int x2, .int x5, .int x6] (mX5_goesAsTold hx3 e6) rfl (by decide) rfl kw_3_192 kw_3_194 kw_0_20 kw_1_1 kw_3_195 qX5_goesAsTold rfl ⟨by decide, by decide⟩ ⟨rfl, rfl⟩ (Nat.le_of_ble_eq_true rfl) dX5_read_89 rfl ?_ rfl
        refine (show kV Z 7 92 [(0, kr Z 0), (2, .int x2), (3, kr Z x3), (4, .int x4), (5, .int x5), (6, .int x6)] [.int q5.1] q5.2 from ?_)
        refine k_if_eq C 98 dX5_read_92 rfl rfl (fun b7 => ?_) (fun b7 => ?_)
        · replace hf := kf_t hf b7
          refine k_iinc (lv' := [(6, .int (x6 + (1 : Int32))), (0, kr Z 0), (2, .int x2), (3, kr Z x3), (4, .int x4), (5, .int x5)]) C (x6 + (1 : Int32)) 5 dX5_read_98 rfl rfl (by decide) rfl rfl ?_
          refine k_goto C 66 dX5_read_101 rfl ?_
          refine k_lv (lv' := [(0, kr Z 0), (2, .int x2), (3, kr Z x3), (4, .int x4), (5, .int x5), (6, .int (x6 + (1 : Int32)))]) [1, 2, 3, 4, 5, 0] rfl ?_
          exact ih x2 x3 x4 x5 (x6 + (1 : Int32)) q5.2 hx3 hf
        · replace hf := kf_f hf b7
          refine k_iinc (lv' := [(4, .int (x4 + (1 : Int32))), (0, kr Z 0), (2, .int x2), (3, kr Z x3), (5, .int x5), (6, .int x6)]) C (x4 + (1 : Int32)) 3 dX5_read_95 rfl rfl (by decide) rfl rfl ?_
          refine k_iinc (lv' := [(6, .int (x6 + (1 : Int32))), (4, .int (x4 + (1 : Int32))), (0, kr Z 0), (2, .int x2), (3, kr Z x3), (5, .int x5)]) C (x6 + (1 : Int32)) 5 dX5_read_98 rfl rfl (by decide) rfl rfl ?_
          refine k_goto C 66 dX5_read_101 rfl ?_
          refine k_lv (lv' := [(0, kr Z 0), (2, .int x2), (3, kr Z x3), (4, .int (x4 + (1 : Int32))), (5, .int x5), (6, .int (x6 + (1 : Int32)))]) [2, 3, 4, 1, 5, 0] rfl ?_
          exact ih x2 x3 (x4 + (1 : Int32)) x5 (x6 + (1 : Int32)) q5.2 hx3 hf
set_option maxRecDepth 100000 in
theorem tX5_read_56 {Z : kZ} (C : kC Z cX5_read RX5 7 rmX5_read) {res : Int32 × kM} (K : kEnd Z (some .int) (some (.int res.1)) res.2) : ∀ (n : Nat) (x2 : Int32) (x3 : Nat) (x4 : Int32) (x5 : Int32) (st : kM), (hx3 : sd x3) → fX5_read_56 n x2 x3 x4 x5 st = some res → kV Z 7 56 [(0, kr Z 0), (2, .int x2), (3, kr Z x3), (4, .int x4), (5, .int x5)] [] st := by
  intro n
  induction n with
  | zero => intro x2 x3 x4 x5 st hx3 hf; cases hf
  | succ n ih =>
    intro x2 x3 x4 x5 st hx3 hf
    unfold fX5_read_56 at hf
    refine k_iload C 4 dX5_read_56 rfl rfl ?_
    refine k_bipush C (6 : Int32) dX5_read_58 (by decide) rfl ?_
    refine k_icmp_ge C 110 dX5_read_60 rfl rfl (fun b1 => ?_) (fun b1 => ?_)
    · replace hf := kf_t hf b1
      refine k_iload C 3 dX5_read_110 rfl rfl ?_
      exact k_iret C K hf dX5_read_112
    · replace hf := kf_f hf b1
      refine k_iconst C (0 : Int32) dX5_read_63 (by decide) rfl ?_
      refine k_istore (lv' := [(6, .int (0 : Int32)), (0, kr Z 0), (2, .int x2), (3, kr Z x3), (4, .int x4), (5, .int x5)]) C dX5_read_64 (by decide) rfl rfl ?_
      refine k_lv (lv' := [(0, kr Z 0), (2, .int x2), (3, kr Z x3), (4, .int x4), (5, .int x5), (6, .int (0 : Int32))]) [1, 2, 3, 4, 5, 0] rfl ?_
      exact tX5_read_66 C ih K _ x2 x3 x4 x5 (0 : Int32) st hx3 hf
set_option maxRecDepth 100000 in
theorem tX5_read {Z : kZ} (C : kC Z cX5_read RX5 7 rmX5_read) {v1 : Int32} {v2 : Int32}  {st : kM} {res : Int32 × kM} (hf : fX5_read v1 v2 st = some res) (K : kEnd Z (some .int) (some (.int res.1)) res.2) : kV Z 7 0 [(0, kr Z 0), (1, .int v1), (2, .int v2)] [] st := by
  unfold fX5_read at hf
  refine k_iload_n C 1 dX5_read_0 rfl rfl rfl ?_
  obtain ⟨q1, e2, hf⟩ := kf_b hf
  refine k_callS C [.int v1] (mX5_isSheet e2) kw_3_141 kw_3_142 kw_1_1 kw_3_143 qX5_isSheet rfl ⟨by decide, by decide⟩ ⟨rfl, rfl⟩ (Nat.le_of_ble_eq_true rfl) dX5_read_1 rfl ?_ rfl
  refine (show kV Z 7 4 [(0, kr Z 0), (1, .int v1), (2, .int v2)] [.int q1.1] q1.2 from ?_)
  refine k_if_ne C 14 dX5_read_4 rfl rfl (fun b3 => ?_) (fun b3 => ?_)
  · replace hf := kf_f hf b3
    refine k_aload_n C 0 dX5_read_14 rfl rfl rfl ?_
    refine g_X5_sheets C rfl kw_1_166 dX5_read_15 rfl ?_
    refine k_iload_n C 1 dX5_read_18 rfl rfl rfl ?_
    obtain ⟨g4, hf⟩ := kf_g hf
    refine k_aldS C g4 dX5_read_19 rfl ?_
    refine k_astore_n (lv' := [(3, kr Z (51 + 2 * v1.toNatClampNeg)), (0, kr Z 0), (1, .int v1), (2, .int v2)]) C dX5_read_20 rfl (by decide) rfl rfl ?_
    refine k_aload_n C 0 dX5_read_21 rfl rfl rfl ?_
    obtain ⟨q5, e6, hf⟩ := kf_b hf
    refine k_callV C [] (mX1_isMissing (sd_of (vi_lt g4)) e6) (sd_1 (sd_of (vi_lt g4))) (by decide) rfl kw_3_156 kw_3_157 kw_3_158 kw_1_6 kw_3_159 qX1_isMissing rfl ⟨by decide, by decide⟩ ⟨rfl, rfl⟩ (Nat.le_of_ble_eq_true rfl) dX5_read_22 rfl ?_ rfl
    refine (show kV Z 7 25 [(3, kr Z (51 + 2 * v1.toNatClampNeg)), (0, kr Z 0), (1, .int v1), (2, .int v2)] [.int q5.1] q5.2 from ?_)
    refine k_if_eq C 35 dX5_read_25 rfl rfl (fun b7 => ?_) (fun b7 => ?_)
    · replace hf := kf_t hf b7
      refine k_aload_n C 1 dX5_read_35 rfl rfl rfl ?_
      refine k_iload_n C 3 dX5_read_36 rfl rfl rfl ?_
      obtain ⟨q8, e9, hf⟩ := kf_b hf
      refine k_callV C [.int v2] (mX5_isKnot e9) rfl (by decide) rfl kw_2_65 kw_2_67 kw_0_5 kw_1_1 kw_2_68 qX5_isKnot rfl ⟨by decide, by decide⟩ ⟨rfl, rfl⟩ (Nat.le_of_ble_eq_true rfl) dX5_read_37 rfl ?_ rfl
      refine (show kV Z 7 40 [(3, kr Z (51 + 2 * v1.toNatClampNeg)), (0, kr Z 0), (1, .int v1), (2, .int v2)] [.int q8.1] q8.2 from ?_)
      refine k_if_ne C 50 dX5_read_40 rfl rfl (fun b10 => ?_) (fun b10 => ?_)
      · replace hf := kf_f hf b10
        refine k_iconst C (0 : Int32) dX5_read_50 (by decide) rfl ?_
        refine k_istore (lv' := [(4, .int (0 : Int32)), (3, kr Z (51 + 2 * v1.toNatClampNeg)), (0, kr Z 0), (1, .int v1), (2, .int v2)]) C dX5_read_51 (by decide) rfl rfl ?_
        refine k_iconst C (0 : Int32) dX5_read_53 (by decide) rfl ?_
        refine k_istore (lv' := [(5, .int (0 : Int32)), (4, .int (0 : Int32)), (3, kr Z (51 + 2 * v1.toNatClampNeg)), (0, kr Z 0), (1, .int v1), (2, .int v2)]) C dX5_read_54 (by decide) rfl rfl ?_
        refine k_lv (lv' := [(0, kr Z 0), (2, .int v2), (3, kr Z (51 + 2 * v1.toNatClampNeg)), (4, .int (0 : Int32)), (5, .int (0 : Int32))]) [3, 5, 2, 1, 0] rfl ?_
        exact tX5_read_56 C K _ v2 (51 + 2 * v1.toNatClampNeg) (0 : Int32) (0 : Int32) q8.2 (sd_of (vi_lt g4)) hf
      · replace hf := kf_t hf b10
        refine k_aload_n C 1 dX5_read_43 rfl rfl rfl ?_
        refine k_ldc C (-1000000001 : Int32) kw_1_192 dX5_read_44 rfl ?_
        obtain ⟨q11, e12, hf⟩ := kf_b hf
        refine k_callV C [.int (-1000000001 : Int32)] (mX5_tell e12) rfl (by decide) rfl kw_1_193 kw_1_195 kw_0_0 kw_1_1 kw_1_196 qX5_tell rfl ⟨by decide, by decide⟩ ⟨rfl, rfl⟩ (Nat.le_of_ble_eq_true rfl) dX5_read_46 rfl ?_ rfl
        refine (show kV Z 7 49 [(3, kr Z (51 + 2 * v1.toNatClampNeg)), (0, kr Z 0), (1, .int v1), (2, .int v2)] [.int q11.1] q11.2 from ?_)
        exact k_iret C K hf dX5_read_49
    · replace hf := kf_f hf b7
      refine k_aload_n C 1 dX5_read_28 rfl rfl rfl ?_
      refine k_ldc C (-1000000006 : Int32) kw_3_160 dX5_read_29 rfl ?_
      obtain ⟨q13, e14, hf⟩ := kf_b hf
      refine k_callV C [.int (-1000000006 : Int32)] (mX5_tell e14) rfl (by decide) rfl kw_1_193 kw_1_195 kw_0_0 kw_1_1 kw_1_196 qX5_tell rfl ⟨by decide, by decide⟩ ⟨rfl, rfl⟩ (Nat.le_of_ble_eq_true rfl) dX5_read_31 rfl ?_ rfl
      refine (show kV Z 7 34 [(3, kr Z (51 + 2 * v1.toNatClampNeg)), (0, kr Z 0), (1, .int v1), (2, .int v2)] [.int q13.1] q13.2 from ?_)
      exact k_iret C K hf dX5_read_34
  · replace hf := kf_t hf b3
    refine k_aload_n C 0 dX5_read_7 rfl rfl rfl ?_
    refine k_ldc C (-1000000001 : Int32) kw_1_192 dX5_read_8 rfl ?_
    obtain ⟨q15, e16, hf⟩ := kf_b hf
    refine k_callV C [.int (-1000000001 : Int32)] (mX5_tell e16) rfl (by decide) rfl kw_1_193 kw_1_195 kw_0_0 kw_1_1 kw_1_196 qX5_tell rfl ⟨by decide, by decide⟩ ⟨rfl, rfl⟩ (Nat.le_of_ble_eq_true rfl) dX5_read_10 rfl ?_ rfl
    refine (show kV Z 7 13 [(0, kr Z 0), (1, .int v1), (2, .int v2)] [.int q15.1] q15.2 from ?_)
    exact k_iret C K hf dX5_read_13
theorem mX5_read {G : kG} {v1 : Int32} {v2 : Int32}  {st : kM} {res : Int32 × kM} (hf : fX5_read v1 v2 st = some res) : kCt G yX5_read cX5_read 7 (some .int) rmX5_read [.ref (G.2.1 0), .int v1, .int v2] st (some (.int res.1)) res.2 := kMet (by decide) (Nat.le_of_ble_eq_true rfl) ⟨rfl, rfl⟩ (fun X A Q C K => tX5_read C  hf K)
theorem qX5_read : yX5_read.cls = RX5 ∧ yX5_read.cls ≠ "java/lang/invoke/MethodHandle" ∧ yX5_read.cls ≠ "java/lang/invoke/VarHandle" ∧ (parseMethodDescriptor yX5_read.desc).map (fun d => d.parameters.length) = some 2 := ⟨rfl, by decide, by decide, by decide +kernel⟩
-- TalkKnots.image()I
def rmX5_image : Room := { frames := 2, cells := 0, slots := 0, locals := 62 }
def fX5_image (st : kM) : Option (Int32 × kM) :=
  (fX4_become 31 1 st).bind fun s1 => ((some (kwr s1 0 3 (1 : Int32))).bind fun s3 => (some ((1 : Int32), s3)))
set_option maxRecDepth 100000 in
theorem tX5_image {Z : kZ} (C : kC Z cX5_image RX5 1 rmX5_image)   {st : kM} {res : Int32 × kM} (hf : fX5_image st = some res) (K : kEnd Z (some .int) (some (.int res.1)) res.2) : kV Z 1 0 [(0, kr Z 0)] [] st := by
  unfold fX5_image at hf
  refine k_aload_n C 0 dX5_image_0 rfl rfl rfl ?_
  refine g_X5_kept C rfl kw_1_162 dX5_image_1 rfl ?_
  refine k_aload_n C 0 dX5_image_4 rfl rfl rfl ?_
  refine g_X5_present C rfl kw_1_160 dX5_image_5 rfl ?_
  obtain ⟨s1, e2, hf⟩ := kf_b hf
  refine k_callV C [kr Z 1] (mX4_become yd_31 yd_1 e2) (yd_4 yd_31) (by decide) rfl kw_2_164 kw_2_165 kw_2_166 kw_1_2 kw_2_167 qX4_become rfl ⟨by decide, by decide⟩ ⟨rfl, rfl⟩ (Nat.le_of_ble_eq_true rfl) dX5_image_8 rfl ?_ rfl
  refine (show kV Z 1 11 [(0, kr Z 0)] [] s1 from ?_)
  refine k_aload_n C 0 dX5_image_11 rfl rfl rfl ?_
  refine k_iconst C (1 : Int32) dX5_image_12 (by decide) rfl ?_
  refine p_X5_isKept C (by decide) rfl kw_1_163 dX5_image_13 rfl ?_
  obtain ⟨s3, e4, hf⟩ := kf_b hf
  refine k_st e4 ?_
  refine k_iconst C (1 : Int32) dX5_image_16 (by decide) rfl ?_
  exact k_iret C K hf dX5_image_17
theorem mX5_image {G : kG}   {st : kM} {res : Int32 × kM} (hf : fX5_image st = some res) : kCt G yX5_image cX5_image 1 (some .int) rmX5_image [.ref (G.2.1 0)] st (some (.int res.1)) res.2 := kMet (by decide) (Nat.le_of_ble_eq_true rfl) ⟨rfl, rfl⟩ (fun X A Q C K => tX5_image C  hf K)
theorem qX5_image : yX5_image.cls = RX5 ∧ yX5_image.cls ≠ "java/lang/invoke/MethodHandle" ∧ yX5_image.cls ≠ "java/lang/invoke/VarHandle" ∧ (parseMethodDescriptor yX5_image.desc).map (fun d => d.parameters.length) = some 0 := ⟨rfl, by decide, by decide, by decide +kernel⟩
-- TalkKnots.undo()I
def rmX5_undo : Room := { frames := 2, cells := 0, slots := 0, locals := 62 }
def fX5_undo (st : kM) : Option (Int32 × kM) :=
  if (st.1 0 3) = 0 then ((fX5_tell (-1000000004 : Int32) st).bind fun q4 => (some (q4.1, q4.2))) else ((fX4_become 1 31 st).bind fun s2 => (some ((s2.1 1 1), s2)))
set_option maxRecDepth 100000 in
theorem tX5_undo {Z : kZ} (C : kC Z cX5_undo RX5 1 rmX5_undo)   {st : kM} {res : Int32 × kM} (hf : fX5_undo st = some res) (K : kEnd Z (some .int) (some (.int res.1)) res.2) : kV Z 1 0 [(0, kr Z 0)] [] st := by
  unfold fX5_undo at hf
  refine k_aload_n C 0 dX5_undo_0 rfl rfl rfl ?_
  refine g_X5_isKept C rfl kw_1_163 dX5_undo_1 rfl ?_
  refine k_if_ne C 14 dX5_undo_4 rfl rfl (fun b1 => ?_) (fun b1 => ?_)
  · replace hf := kf_f hf b1
    refine k_aload_n C 0 dX5_undo_14 rfl rfl rfl ?_
    refine g_X5_present C rfl kw_1_160 dX5_undo_15 rfl ?_
    refine k_aload_n C 0 dX5_undo_18 rfl rfl rfl ?_
    refine g_X5_kept C rfl kw_1_162 dX5_undo_19 rfl ?_
    obtain ⟨s2, e3, hf⟩ := kf_b hf
    refine k_callV C [kr Z 31] (mX4_become yd_1 yd_31 e3) (yd_4 yd_1) (by decide) rfl kw_2_164 kw_2_165 kw_2_166 kw_1_2 kw_2_167 qX4_become rfl ⟨by decide, by decide⟩ ⟨rfl, rfl⟩ (Nat.le_of_ble_eq_true rfl) dX5_undo_22 rfl ?_ rfl
    refine (show kV Z 1 25 [(0, kr Z 0)] [] s2 from ?_)
    refine k_aload_n C 0 dX5_undo_25 rfl rfl rfl ?_
    refine g_X5_present C rfl kw_1_160 dX5_undo_26 rfl ?_
    refine g_X4_count C (yd_4 yd_1) kw_1_68 dX5_undo_29 rfl ?_
    exact k_iret C K hf dX5_undo_32
  · replace hf := kf_t hf b1
    refine k_aload_n C 0 dX5_undo_7 rfl rfl rfl ?_
    refine k_ldc C (-1000000004 : Int32) kw_2_187 dX5_undo_8 rfl ?_
    obtain ⟨q4, e5, hf⟩ := kf_b hf
    refine k_callV C [.int (-1000000004 : Int32)] (mX5_tell e5) rfl (by decide) rfl kw_1_193 kw_1_195 kw_0_0 kw_1_1 kw_1_196 qX5_tell rfl ⟨by decide, by decide⟩ ⟨rfl, rfl⟩ (Nat.le_of_ble_eq_true rfl) dX5_undo_10 rfl ?_ rfl
    refine (show kV Z 1 13 [(0, kr Z 0)] [.int q4.1] q4.2 from ?_)
    exact k_iret C K hf dX5_undo_13
theorem mX5_undo {G : kG}   {st : kM} {res : Int32 × kM} (hf : fX5_undo st = some res) : kCt G yX5_undo cX5_undo 1 (some .int) rmX5_undo [.ref (G.2.1 0)] st (some (.int res.1)) res.2 := kMet (by decide) (Nat.le_of_ble_eq_true rfl) ⟨rfl, rfl⟩ (fun X A Q C K => tX5_undo C  hf K)
theorem qX5_undo : yX5_undo.cls = RX5 ∧ yX5_undo.cls ≠ "java/lang/invoke/MethodHandle" ∧ yX5_undo.cls ≠ "java/lang/invoke/VarHandle" ∧ (parseMethodDescriptor yX5_undo.desc).map (fun d => d.parameters.length) = some 0 := ⟨rfl, by decide, by decide, by decide +kernel⟩
-- TalkKnots.tear()I
def rmX5_tear : Room := { frames := 0, cells := 0, slots := 0, locals := 0 }
def fX5_tear (st : kM) : Option (Int32 × kM) :=
  if (st.1 0 3) = 0 then ((some (kwr st 0 3 (0 : Int32))).bind fun s2 => (some ((0 : Int32), s2))) else ((some (kwr st 0 3 (0 : Int32))).bind fun s4 => (some ((1 : Int32), s4)))
set_option maxRecDepth 100000 in
theorem tX5_tear {Z : kZ} (C : kC Z cX5_tear RX5 2 rmX5_tear)   {st : kM} {res : Int32 × kM} (hf : fX5_tear st = some res) (K : kEnd Z (some .int) (some (.int res.1)) res.2) : kV Z 2 0 [(0, kr Z 0)] [] st := by
  unfold fX5_tear at hf
  refine k_aload_n C 0 dX5_tear_0 rfl rfl rfl ?_
  refine g_X5_isKept C rfl kw_1_163 dX5_tear_1 rfl ?_
  refine k_if_eq C 11 dX5_tear_4 rfl rfl (fun b1 => ?_) (fun b1 => ?_)
  · replace hf := kf_t hf b1
    refine k_iconst C (0 : Int32) dX5_tear_11 (by decide) rfl ?_
    refine k_istore_n (lv' := [(1, .int (0 : Int32)), (0, kr Z 0)]) C dX5_tear_12 rfl (by decide) rfl rfl ?_
    refine k_aload_n C 1 dX5_tear_13 rfl rfl rfl ?_
    refine k_iconst C (0 : Int32) dX5_tear_14 (by decide) rfl ?_
    refine p_X5_isKept C (by decide) rfl kw_1_163 dX5_tear_15 rfl ?_
    obtain ⟨s2, e3, hf⟩ := kf_b hf
    refine k_st e3 ?_
    refine k_iload_n C 0 dX5_tear_18 rfl rfl rfl ?_
    exact k_iret C K hf dX5_tear_19
  · replace hf := kf_f hf b1
    refine k_iconst C (1 : Int32) dX5_tear_7 (by decide) rfl ?_
    refine k_goto C 12 dX5_tear_8 rfl ?_
    refine k_istore_n (lv' := [(1, .int (1 : Int32)), (0, kr Z 0)]) C dX5_tear_12 rfl (by decide) rfl rfl ?_
    refine k_aload_n C 1 dX5_tear_13 rfl rfl rfl ?_
    refine k_iconst C (0 : Int32) dX5_tear_14 (by decide) rfl ?_
    refine p_X5_isKept C (by decide) rfl kw_1_163 dX5_tear_15 rfl ?_
    obtain ⟨s4, e5, hf⟩ := kf_b hf
    refine k_st e5 ?_
    refine k_iload_n C 0 dX5_tear_18 rfl rfl rfl ?_
    exact k_iret C K hf dX5_tear_19
theorem mX5_tear {G : kG}   {st : kM} {res : Int32 × kM} (hf : fX5_tear st = some res) : kCt G yX5_tear cX5_tear 2 (some .int) rmX5_tear [.ref (G.2.1 0)] st (some (.int res.1)) res.2 := kMet (by decide) (Nat.le_of_ble_eq_true rfl) ⟨rfl, rfl⟩ (fun X A Q C K => tX5_tear C  hf K)
theorem qX5_tear : yX5_tear.cls = RX5 ∧ yX5_tear.cls ≠ "java/lang/invoke/MethodHandle" ∧ yX5_tear.cls ≠ "java/lang/invoke/VarHandle" ∧ (parseMethodDescriptor yX5_tear.desc).map (fun d => d.parameters.length) = some 0 := ⟨rfl, by decide, by decide, by decide +kernel⟩
-- TalkKnots.count(I)I
def rmX5_count : Room := { frames := 2, cells := 0, slots := 0, locals := 44 }
def fX5_count (v1 : Int32) (st : kM) : Option (Int32 × kM) :=
  if v1 = (0 : Int32) then (some ((st.1 1 1), st)) else (if v1 = (1 : Int32) then (some ((st.1 46 1), st)) else (if v1 = (2 : Int32) then ((fX4_allWeights 1 st).bind fun q4 => (some (q4.1, q4.2))) else (if v1 = (3 : Int32) then ((fX4_allAges 1 st).bind fun q7 => (some (q7.1, q7.2))) else ((fX5_tell (-1000000001 : Int32) st).bind fun q9 => (some (q9.1, q9.2))))))
set_option maxRecDepth 100000 in
theorem tX5_count {Z : kZ} (C : kC Z cX5_count RX5 2 rmX5_count) {v1 : Int32}  {st : kM} {res : Int32 × kM} (hf : fX5_count v1 st = some res) (K : kEnd Z (some .int) (some (.int res.1)) res.2) : kV Z 2 0 [(0, kr Z 0), (1, .int v1)] [] st := by
  unfold fX5_count at hf
  refine k_iload_n C 1 dX5_count_0 rfl rfl rfl ?_
  by_cases b1 : v1 = (0 : Int32)
  · replace hf := kf_t hf b1
    refine k_tabIn C 32 dX5_count_1 (by rw [b1]; decide) (by rw [b1]; decide) (by rw [b1]; rfl) rfl ?_
    refine k_aload_n C 0 dX5_count_32 rfl rfl rfl ?_
    refine g_X5_present C rfl kw_1_160 dX5_count_33 rfl ?_
    refine g_X4_count C (yd_4 yd_1) kw_1_68 dX5_count_36 rfl ?_
    exact k_iret C K hf dX5_count_39
  · replace hf := kf_f hf b1
    by_cases b2 : v1 = (1 : Int32)
    · replace hf := kf_t hf b2
      refine k_tabIn C 40 dX5_count_1 (by rw [b2]; decide) (by rw [b2]; decide) (by rw [b2]; rfl) rfl ?_
      refine k_aload_n C 0 dX5_count_40 rfl rfl rfl ?_
      refine g_X5_tape C rfl kw_1_164 dX5_count_41 rfl ?_
      refine g_X2_length C rfl kw_1_105 dX5_count_44 rfl ?_
      exact k_iret C K hf dX5_count_47
    · replace hf := kf_f hf b2
      by_cases b3 : v1 = (2 : Int32)
      · replace hf := kf_t hf b3
        refine k_tabIn C 48 dX5_count_1 (by rw [b3]; decide) (by rw [b3]; decide) (by rw [b3]; rfl) rfl ?_
        refine k_aload_n C 0 dX5_count_48 rfl rfl rfl ?_
        refine g_X5_present C rfl kw_1_160 dX5_count_49 rfl ?_
        obtain ⟨q4, e5, hf⟩ := kf_b hf
        refine k_callV C [] (mX4_allWeights yd_1 e5) (yd_4 yd_1) (by decide) rfl kw_3_212 kw_3_213 kw_3_214 kw_1_2 kw_3_215 qX4_allWeights rfl ⟨by decide, by decide⟩ ⟨rfl, rfl⟩ (Nat.le_of_ble_eq_true rfl) dX5_count_52 rfl ?_ rfl
        refine (show kV Z 2 55 [(0, kr Z 0), (1, .int v1)] [.int q4.1] q4.2 from ?_)
        exact k_iret C K hf dX5_count_55
      · replace hf := kf_f hf b3
        by_cases b6 : v1 = (3 : Int32)
        · replace hf := kf_t hf b6
          refine k_tabIn C 56 dX5_count_1 (by rw [b6]; decide) (by rw [b6]; decide) (by rw [b6]; rfl) rfl ?_
          refine k_aload_n C 0 dX5_count_56 rfl rfl rfl ?_
          refine g_X5_present C rfl kw_1_160 dX5_count_57 rfl ?_
          obtain ⟨q7, e8, hf⟩ := kf_b hf
          refine k_callV C [] (mX4_allAges yd_1 e8) (yd_4 yd_1) (by decide) rfl kw_3_216 kw_3_217 kw_3_218 kw_1_2 kw_3_219 qX4_allAges rfl ⟨by decide, by decide⟩ ⟨rfl, rfl⟩ (Nat.le_of_ble_eq_true rfl) dX5_count_60 rfl ?_ rfl
          refine (show kV Z 2 63 [(0, kr Z 0), (1, .int v1)] [.int q7.1] q7.2 from ?_)
          exact k_iret C K hf dX5_count_63
        · replace hf := kf_f hf b6
          have zb1 := ti_ne (0 : Int32) b1 (z := 0) rfl
          have zb2 := ti_ne (1 : Int32) b2 (z := 1) rfl
          have zb3 := ti_ne (2 : Int32) b3 (z := 2) rfl
          have zb6 := ti_ne (3 : Int32) b6 (z := 3) rfl
          refine k_tabOut C 64 dX5_count_1 (by omega) rfl ?_
          refine k_aload_n C 0 dX5_count_64 rfl rfl rfl ?_
          refine k_ldc C (-1000000001 : Int32) kw_1_192 dX5_count_65 rfl ?_
          obtain ⟨q9, e10, hf⟩ := kf_b hf
          refine k_callV C [.int (-1000000001 : Int32)] (mX5_tell e10) rfl (by decide) rfl kw_1_193 kw_1_195 kw_0_0 kw_1_1 kw_1_196 qX5_tell rfl ⟨by decide, by decide⟩ ⟨rfl, rfl⟩ (Nat.le_of_ble_eq_true rfl) dX5_count_67 rfl ?_ rfl
          refine (show kV Z 2 70 [(0, kr Z 0), (1, .int v1)] [.int q9.1] q9.2 from ?_)
          exact k_iret C K hf dX5_count_70
theorem mX5_count {G : kG} {v1 : Int32}  {st : kM} {res : Int32 × kM} (hf : fX5_count v1 st = some res) : kCt G yX5_count cX5_count 2 (some .int) rmX5_count [.ref (G.2.1 0), .int v1] st (some (.int res.1)) res.2 := kMet (by decide) (Nat.le_of_ble_eq_true rfl) ⟨rfl, rfl⟩ (fun X A Q C K => tX5_count C  hf K)
theorem qX5_count : yX5_count.cls = RX5 ∧ yX5_count.cls ≠ "java/lang/invoke/MethodHandle" ∧ yX5_count.cls ≠ "java/lang/invoke/VarHandle" ∧ (parseMethodDescriptor yX5_count.desc).map (fun d => d.parameters.length) = some 1 := ⟨rfl, by decide, by decide, by decide +kernel⟩
-- TalkKnots.allTold()I
def rmX5_allTold : Room := { frames := 0, cells := 0, slots := 0, locals := 0 }
def fX5_allTold_4 : Nat → Int32 → Int32 → kM → Option (Int32 × kM)
  | 0, _, _, _ => none
  | n + 1, x1, x2, st =>
    if (7 : Int32) ≤ x2 then (some (x1, st)) else (if x2 < 0 ∨ 7 ≤ x2.toNatClampNeg then none else ((some (x1 + (st.1 50 x2.toNatClampNeg))).bind fun z3 => (fX5_allTold_4 n z3 (x2 + (1 : Int32)) st)))
def fX5_allTold (st : kM) : Option (Int32 × kM) :=
  fX5_allTold_4 kfu (0 : Int32) (0 : Int32) st
set_option maxRecDepth 100000 in
theorem tX5_allTold_4 {Z : kZ} (C : kC Z cX5_allTold RX5 3 rmX5_allTold) {res : Int32 × kM} (K : kEnd Z (some .int) (some (.int res.1)) res.2) : ∀ (n : Nat) (x1 : Int32) (x2 : Int32) (st : kM), fX5_allTold_4 n x1 x2 st = some res → kV Z 3 4 [(0, kr Z 0), (1, .int x1), (2, .int x2)] [] st := by
  intro n
  induction n with
  | zero => intro x1 x2 st hf; cases hf
  | succ n ih =>
    intro x1 x2 st hf
    unfold fX5_allTold_4 at hf
    refine k_iload_n C 2 dX5_allTold_4 rfl rfl rfl ?_
    refine k_bipush C (7 : Int32) dX5_allTold_5 (by decide) rfl ?_
    refine k_icmp_ge C 25 dX5_allTold_7 rfl rfl (fun b1 => ?_) (fun b1 => ?_)
    · replace hf := kf_t hf b1
      refine k_iload_n C 1 dX5_allTold_25 rfl rfl rfl ?_
      exact k_iret C K hf dX5_allTold_26
    · replace hf := kf_f hf b1
      refine k_iload_n C 1 dX5_allTold_10 rfl rfl rfl ?_
      refine k_aload_n C 0 dX5_allTold_11 rfl rfl rfl ?_
      refine g_X5_told C rfl kw_1_167 dX5_allTold_12 rfl ?_
      refine k_iload_n C 2 dX5_allTold_15 rfl rfl rfl ?_
      obtain ⟨g2, hf⟩ := kf_g hf
      refine k_iald (j := x2.toNatClampNeg) C ⟨rfl, rfl⟩ g2 rfl dX5_allTold_16 rfl ?_
      refine k_iadd C dX5_allTold_17 rfl ?_
      obtain ⟨z3, e4, hf⟩ := kf_b hf
      refine k_topi e4 ?_
      refine k_istore_n (lv' := [(1, .int z3), (0, kr Z 0), (2, .int x2)]) C dX5_allTold_18 rfl (by decide) rfl rfl ?_
      refine k_iinc (lv' := [(2, .int (x2 + (1 : Int32))), (1, .int z3), (0, kr Z 0)]) C (x2 + (1 : Int32)) 2 dX5_allTold_19 rfl rfl (by decide) rfl rfl ?_
      refine k_goto C 4 dX5_allTold_22 rfl ?_
      refine k_lv (lv' := [(0, kr Z 0), (1, .int z3), (2, .int (x2 + (1 : Int32)))]) [2, 1, 0] rfl ?_
      exact ih z3 (x2 + (1 : Int32)) st  hf
set_option maxRecDepth 100000 in
theorem tX5_allTold {Z : kZ} (C : kC Z cX5_allTold RX5 3 rmX5_allTold)   {st : kM} {res : Int32 × kM} (hf : fX5_allTold st = some res) (K : kEnd Z (some .int) (some (.int res.1)) res.2) : kV Z 3 0 [(0, kr Z 0)] [] st := by
  unfold fX5_allTold at hf
  refine k_iconst C (0 : Int32) dX5_allTold_0 (by decide) rfl ?_
  refine k_istore_n (lv' := [(1, .int (0 : Int32)), (0, kr Z 0)]) C dX5_allTold_1 rfl (by decide) rfl rfl ?_
  refine k_iconst C (0 : Int32) dX5_allTold_2 (by decide) rfl ?_
  refine k_istore_n (lv' := [(2, .int (0 : Int32)), (1, .int (0 : Int32)), (0, kr Z 0)]) C dX5_allTold_3 rfl (by decide) rfl rfl ?_
  refine k_lv (lv' := [(0, kr Z 0), (1, .int (0 : Int32)), (2, .int (0 : Int32))]) [2, 1, 0] rfl ?_
  exact tX5_allTold_4 C K _ (0 : Int32) (0 : Int32) st hf
theorem mX5_allTold {G : kG}   {st : kM} {res : Int32 × kM} (hf : fX5_allTold st = some res) : kCt G yX5_allTold cX5_allTold 3 (some .int) rmX5_allTold [.ref (G.2.1 0)] st (some (.int res.1)) res.2 := kMet (by decide) (Nat.le_of_ble_eq_true rfl) ⟨rfl, rfl⟩ (fun X A Q C K => tX5_allTold C  hf K)
theorem qX5_allTold : yX5_allTold.cls = RX5 ∧ yX5_allTold.cls ≠ "java/lang/invoke/MethodHandle" ∧ yX5_allTold.cls ≠ "java/lang/invoke/VarHandle" ∧ (parseMethodDescriptor yX5_allTold.desc).map (fun d => d.parameters.length) = some 0 := ⟨rfl, by decide, by decide, by decide +kernel⟩
-- TalkKnots.status(I)I
def rmX5_status : Room := { frames := 2, cells := 0, slots := 0, locals := 44 }
def fX5_status (v1 : Int32) (st : kM) : Option (Int32 × kM) :=
  if v1 = (-1 : Int32) then ((fX5_allTold st).bind fun q8 => (some (q8.1, q8.2))) else ((fX5_isWithin v1 (0 : Int32) (6 : Int32) st).bind fun q2 => (if q2.1 = 0 then ((fX5_tell (-1000000001 : Int32) q2.2).bind fun q5 => (some (q5.1, q5.2))) else (if v1 < 0 ∨ 7 ≤ v1.toNatClampNeg then none else (some ((q2.2.1 50 v1.toNatClampNeg), q2.2)))))
set_option maxRecDepth 100000 in
theorem tX5_status {Z : kZ} (C : kC Z cX5_status RX5 2 rmX5_status) {v1 : Int32}  {st : kM} {res : Int32 × kM} (hf : fX5_status v1 st = some res) (K : kEnd Z (some .int) (some (.int res.1)) res.2) : kV Z 2 0 [(0, kr Z 0), (1, .int v1)] [] st := by
  unfold fX5_status at hf
  refine k_iload_n C 1 dX5_status_0 rfl rfl rfl ?_
  refine k_iconst C (-1 : Int32) dX5_status_1 (by decide) rfl ?_
  refine k_icmp_ne C 10 dX5_status_2 rfl rfl (fun b1 => ?_) (fun b1 => ?_)
  · replace hf := kf_f hf b1
    refine k_iload_n C 1 dX5_status_10 rfl rfl rfl ?_
    refine k_iconst C (0 : Int32) dX5_status_11 (by decide) rfl ?_
    refine k_bipush C (6 : Int32) dX5_status_12 (by decide) rfl ?_
    obtain ⟨q2, e3, hf⟩ := kf_b hf
    refine k_callS C [.int v1, .int (0 : Int32), .int (6 : Int32)] (mX5_isWithin e3) kw_1_189 kw_1_190 kw_1_1 kw_1_191 qX5_isWithin rfl ⟨by decide, by decide⟩ ⟨rfl, rfl⟩ (Nat.le_of_ble_eq_true rfl) dX5_status_14 rfl ?_ rfl
    refine (show kV Z 2 17 [(0, kr Z 0), (1, .int v1)] [.int q2.1] q2.2 from ?_)
    refine k_if_eq C 29 dX5_status_17 rfl rfl (fun b4 => ?_) (fun b4 => ?_)
    · replace hf := kf_t hf b4
      refine k_aload_n C 0 dX5_status_29 rfl rfl rfl ?_
      refine k_ldc C (-1000000001 : Int32) kw_1_192 dX5_status_30 rfl ?_
      obtain ⟨q5, e6, hf⟩ := kf_b hf
      refine k_callV C [.int (-1000000001 : Int32)] (mX5_tell e6) rfl (by decide) rfl kw_1_193 kw_1_195 kw_0_0 kw_1_1 kw_1_196 qX5_tell rfl ⟨by decide, by decide⟩ ⟨rfl, rfl⟩ (Nat.le_of_ble_eq_true rfl) dX5_status_32 rfl ?_ rfl
      refine (show kV Z 2 35 [(0, kr Z 0), (1, .int v1)] [.int q5.1] q5.2 from ?_)
      exact k_iret C K hf dX5_status_35
    · replace hf := kf_f hf b4
      refine k_aload_n C 0 dX5_status_20 rfl rfl rfl ?_
      refine g_X5_told C rfl kw_1_167 dX5_status_21 rfl ?_
      refine k_iload_n C 1 dX5_status_24 rfl rfl rfl ?_
      obtain ⟨g7, hf⟩ := kf_g hf
      refine k_iald (j := v1.toNatClampNeg) C ⟨rfl, rfl⟩ g7 rfl dX5_status_25 rfl ?_
      refine k_goto C 35 dX5_status_26 rfl ?_
      exact k_iret C K hf dX5_status_35
  · replace hf := kf_t hf b1
    refine k_aload_n C 0 dX5_status_5 rfl rfl rfl ?_
    obtain ⟨q8, e9, hf⟩ := kf_b hf
    refine k_callV C [] (mX5_allTold e9) rfl (by decide) rfl kw_3_224 kw_3_226 kw_0_21 kw_1_1 kw_3_227 qX5_allTold rfl ⟨by decide, by decide⟩ ⟨rfl, rfl⟩ (Nat.le_of_ble_eq_true rfl) dX5_status_6 rfl ?_ rfl
    refine (show kV Z 2 9 [(0, kr Z 0), (1, .int v1)] [.int q8.1] q8.2 from ?_)
    exact k_iret C K hf dX5_status_9
theorem mX5_status {G : kG} {v1 : Int32}  {st : kM} {res : Int32 × kM} (hf : fX5_status v1 st = some res) : kCt G yX5_status cX5_status 2 (some .int) rmX5_status [.ref (G.2.1 0), .int v1] st (some (.int res.1)) res.2 := kMet (by decide) (Nat.le_of_ble_eq_true rfl) ⟨rfl, rfl⟩ (fun X A Q C K => tX5_status C  hf K)
theorem qX5_status : yX5_status.cls = RX5 ∧ yX5_status.cls ≠ "java/lang/invoke/MethodHandle" ∧ yX5_status.cls ≠ "java/lang/invoke/VarHandle" ∧ (parseMethodDescriptor yX5_status.desc).map (fun d => d.parameters.length) = some 1 := ⟨rfl, by decide, by decide, by decide +kernel⟩
