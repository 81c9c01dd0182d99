-- TalkKnots.isWithin(III)Z
def rmX5_isWithin : Room := { frames := 0, cells := 0, slots := 0, locals := 0 }
def fX5_isWithin (v0 : Int32) (v1 : Int32) (v2 : Int32) (st : kM) : Option (Int32 × kM) :=
  if v0 < v1 then (some ((0 : Int32), st)) else (if v2 < v0 then (some ((0 : Int32), st)) else (some ((1 : Int32), st)))
set_option maxRecDepth 100000 in
theorem tX5_isWithin {Z : kZ} (C : kC Z cX5_isWithin RX5 3 rmX5_isWithin) {v0 : Int32} {v1 : Int32} {v2 : Int32}  {st : kM} {res : Int32 × kM} (hf : fX5_isWithin v0 v1 v2 st = some res) (K : kEnd Z (some .boolean) (some (.int res.1)) res.2) : kV Z 3 0 [(0, .int v0), (1, .int v1), (2, .int v2)] [] st := by
  unfold fX5_isWithin at hf
  refine k_iload_n C 0 dX5_isWithin_0 rfl rfl rfl ?_
  refine k_iload_n C 1 dX5_isWithin_1 rfl rfl rfl ?_
  refine k_icmp_lt C 14 dX5_isWithin_2 rfl rfl (fun b1 => ?_) (fun b1 => ?_)
  · replace hf := kf_t hf b1
    refine k_iconst C (0 : Int32) dX5_isWithin_14 (by decide) rfl ?_
    exact k_zret C K hf rfl dX5_isWithin_15
  · replace hf := kf_f hf b1
    refine k_iload_n C 0 dX5_isWithin_5 rfl rfl rfl ?_
    refine k_iload_n C 2 dX5_isWithin_6 rfl rfl rfl ?_
    refine k_icmp_gt C 14 dX5_isWithin_7 rfl rfl (fun b2 => ?_) (fun b2 => ?_)
    · replace hf := kf_t hf b2
      refine k_iconst C (0 : Int32) dX5_isWithin_14 (by decide) rfl ?_
      exact k_zret C K hf rfl dX5_isWithin_15
    · replace hf := kf_f hf b2
      refine k_iconst C (1 : Int32) dX5_isWithin_10 (by decide) rfl ?_
      refine k_goto C 15 dX5_isWithin_11 rfl ?_
      exact k_zret C K hf rfl dX5_isWithin_15
theorem mX5_isWithin {G : kG} {v0 : Int32} {v1 : Int32} {v2 : Int32}  {st : kM} {res : Int32 × kM} (hf : fX5_isWithin v0 v1 v2 st = some res) : kCt G yX5_isWithin cX5_isWithin 3 (some .boolean) rmX5_isWithin [.int v0, .int v1, .int v2] st (some (.int res.1)) res.2 := kMet (by decide) (Nat.le_of_ble_eq_true rfl) ⟨rfl, rfl⟩ (fun X A Q C K => tX5_isWithin C  hf K)
theorem qX5_isWithin : yX5_isWithin.cls ≠ "java/lang/invoke/MethodHandle" ∧ yX5_isWithin.cls ≠ "java/lang/invoke/VarHandle" ∧ (parseMethodDescriptor yX5_isWithin.desc).map (fun d => d.parameters.length) = some 3 := ⟨by decide, by decide, by decide +kernel⟩
-- TalkKnots.tell(I)I
def rmX5_tell : Room := { frames := 1, cells := 0, slots := 0, locals := 22 }
def fX5_tell (v1 : Int32) (st : kM) : Option (Int32 × kM) :=
  (some ((-1000000001 : Int32) - v1)).bind fun z1 => ((fX5_isWithin z1 (0 : Int32) (6 : Int32) st).bind fun q3 => (if q3.1 = 0 then (some (v1, q3.2)) else (if z1 < 0 ∨ 7 ≤ z1.toNatClampNeg then none else ((some (kwr q3.2 50 z1.toNatClampNeg ((q3.2.1 50 z1.toNatClampNeg) + (1 : Int32)))).bind fun s7 => (some (v1, s7))))))
set_option maxRecDepth 100000 in
theorem tX5_tell {Z : kZ} (C : kC Z cX5_tell RX5 3 rmX5_tell) {v1 : Int32}  {st : kM} {res : Int32 × kM} (hf : fX5_tell v1 st = some res) (K : kEnd Z (some .int) (some (.int res.1)) res.2) : kV Z 3 0 [(0, kr Z 0), (1, .int v1)] [] st := by
  unfold fX5_tell at hf
  refine k_ldc C (-1000000001 : Int32) kw_1_192 dX5_tell_0 rfl ?_
  refine k_iload_n C 1 dX5_tell_2 rfl rfl rfl ?_
  refine k_isub C dX5_tell_3 rfl ?_
  obtain ⟨z1, e2, hf⟩ := kf_b hf
  refine k_topi e2 ?_
  refine k_istore_n (lv' := [(2, .int z1), (0, kr Z 0), (1, .int v1)]) C dX5_tell_4 rfl (by decide) rfl rfl ?_
  refine k_iload_n C 0 dX5_tell_5 rfl rfl rfl ?_
  refine k_iconst C (0 : Int32) dX5_tell_6 (by decide) rfl ?_
  refine k_bipush C (6 : Int32) dX5_tell_7 (by decide) rfl ?_
  obtain ⟨q3, e4, hf⟩ := kf_b hf
  refine k_callS C [.int z1, .int (0 : Int32), .int (6 : Int32)] (mX5_isWithin e4) kw_1_189 kw_1_190 kw_1_1 kw_1_191 qX5_isWithin rfl ⟨by decide, by decide⟩ ⟨rfl, rfl⟩ (Nat.le_of_ble_eq_true rfl) dX5_tell_9 rfl ?_ rfl
  refine (show kV Z 3 12 [(2, .int z1), (0, kr Z 0), (1, .int v1)] [.int q3.1] q3.2 from ?_)
  refine k_if_eq C 25 dX5_tell_12 rfl rfl (fun b5 => ?_) (fun b5 => ?_)
  · replace hf := kf_t hf b5
    refine k_iload_n C 2 dX5_tell_25 rfl rfl rfl ?_
    exact k_iret C K hf dX5_tell_26
  · replace hf := kf_f hf b5
    refine k_aload_n C 1 dX5_tell_15 rfl rfl rfl ?_
    refine g_X5_told C rfl kw_1_167 dX5_tell_16 rfl ?_
    refine k_iload_n C 0 dX5_tell_19 rfl rfl rfl ?_
    refine k_dup2 C rfl rfl dX5_tell_20 rfl ?_
    obtain ⟨g6, hf⟩ := kf_g hf
    refine k_iald (j := z1.toNatClampNeg) C ⟨rfl, rfl⟩ g6 rfl dX5_tell_21 rfl ?_
    refine k_iconst C (1 : Int32) dX5_tell_22 (by decide) rfl ?_
    refine k_iadd C dX5_tell_23 rfl ?_
    refine k_iast (j := z1.toNatClampNeg) C ⟨rfl, rfl⟩ g6 rfl dX5_tell_24 rfl ?_
    obtain ⟨s7, e8, hf⟩ := kf_b hf
    refine k_st e8 ?_
    refine k_iload_n C 2 dX5_tell_25 rfl rfl rfl ?_
    exact k_iret C K hf dX5_tell_26
theorem mX5_tell {G : kG} {v1 : Int32}  {st : kM} {res : Int32 × kM} (hf : fX5_tell v1 st = some res) : kCt G yX5_tell cX5_tell 3 (some .int) rmX5_tell [.ref (G.2.1 0), .int v1] st (some (.int res.1)) res.2 := kMet (by decide) (Nat.le_of_ble_eq_true rfl) ⟨rfl, rfl⟩ (fun X A Q C K => tX5_tell C  hf K)
theorem qX5_tell : yX5_tell.cls = RX5 ∧ yX5_tell.cls ≠ "java/lang/invoke/MethodHandle" ∧ yX5_tell.cls ≠ "java/lang/invoke/VarHandle" ∧ (parseMethodDescriptor yX5_tell.desc).map (fun d => d.parameters.length) = some 1 := ⟨rfl, by decide, by decide, by decide +kernel⟩
-- TalkKnots.wind(II)I
def rmX5_wind : Room := { frames := 2, cells := 0, slots := 0, locals := 44 }
def fX5_wind (v1 : Int32) (v2 : Int32) (st : kM) : Option (Int32 × kM) :=
  (fX5_isWithin v1 (0 : Int32) (11 : Int32) st).bind fun q1 => (if q1.1 = 0 then ((fX5_tell (-1000000001 : Int32) q1.2).bind fun q4 => (some (q4.1, q4.2))) else ((fX5_isWithin v2 (0 : Int32) (99 : Int32) q1.2).bind fun q6 => (if q6.1 = 0 then ((fX5_tell (-1000000001 : Int32) q6.2).bind fun q14 => (some (q14.1, q14.2))) else (if v1 < 0 ∨ 12 ≤ v1.toNatClampNeg then none else ((some (q6.2.1 (1 + 1) v1.toNatClampNeg)).bind fun z10 => ((some (kwr q6.2 (1 + 1) v1.toNatClampNeg v2)).bind fun s12 => (some (z10, s12))))))))
set_option maxRecDepth 100000 in
theorem tX5_wind {Z : kZ} (C : kC Z cX5_wind RX5 4 rmX5_wind) {v1 : Int32} {v2 : Int32}  {st : kM} {res : Int32 × kM} (hf : fX5_wind v1 v2 st = some res) (K : kEnd Z (some .int) (some (.int res.1)) res.2) : kV Z 4 0 [(0, kr Z 0), (1, .int v1), (2, .int v2)] [] st := by
  unfold fX5_wind at hf
  refine k_iload_n C 1 dX5_wind_0 rfl rfl rfl ?_
  refine k_iconst C (0 : Int32) dX5_wind_1 (by decide) rfl ?_
  refine k_bipush C (11 : Int32) dX5_wind_2 (by decide) rfl ?_
  obtain ⟨q1, e2, hf⟩ := kf_b hf
  refine k_callS C [.int v1, .int (0 : Int32), .int (11 : Int32)] (mX5_isWithin e2) kw_1_189 kw_1_190 kw_1_1 kw_1_191 qX5_isWithin rfl ⟨by decide, by decide⟩ ⟨rfl, rfl⟩ (Nat.le_of_ble_eq_true rfl) dX5_wind_4 rfl ?_ rfl
  refine (show kV Z 4 7 [(0, kr Z 0), (1, .int v1), (2, .int v2)] [.int q1.1] q1.2 from ?_)
  refine k_if_eq C 20 dX5_wind_7 rfl rfl (fun b3 => ?_) (fun b3 => ?_)
  · replace hf := kf_t hf b3
    refine k_aload_n C 0 dX5_wind_20 rfl rfl rfl ?_
    refine k_ldc C (-1000000001 : Int32) kw_1_192 dX5_wind_21 rfl ?_
    obtain ⟨q4, e5, hf⟩ := kf_b hf
    refine k_callV C [.int (-1000000001 : Int32)] (mX5_tell e5) rfl (by decide) rfl kw_1_193 kw_1_195 kw_0_0 kw_1_1 kw_1_196 qX5_tell rfl ⟨by decide, by decide⟩ ⟨rfl, rfl⟩ (Nat.le_of_ble_eq_true rfl) dX5_wind_23 rfl ?_ rfl
    refine (show kV Z 4 26 [(0, kr Z 0), (1, .int v1), (2, .int v2)] [.int q4.1] q4.2 from ?_)
    exact k_iret C K hf dX5_wind_26
  · replace hf := kf_f hf b3
    refine k_iload_n C 2 dX5_wind_10 rfl rfl rfl ?_
    refine k_iconst C (0 : Int32) dX5_wind_11 (by decide) rfl ?_
    refine k_bipush C (99 : Int32) dX5_wind_12 (by decide) rfl ?_
    obtain ⟨q6, e7, hf⟩ := kf_b hf
    refine k_callS C [.int v2, .int (0 : Int32), .int (99 : Int32)] (mX5_isWithin e7) kw_1_189 kw_1_190 kw_1_1 kw_1_191 qX5_isWithin rfl ⟨by decide, by decide⟩ ⟨rfl, rfl⟩ (Nat.le_of_ble_eq_true rfl) dX5_wind_14 rfl ?_ rfl
    refine (show kV Z 4 17 [(0, kr Z 0), (1, .int v1), (2, .int v2)] [.int q6.1] q6.2 from ?_)
    refine k_if_ne C 27 dX5_wind_17 rfl rfl (fun b8 => ?_) (fun b8 => ?_)
    · replace hf := kf_f hf b8
      refine k_aload_n C 0 dX5_wind_27 rfl rfl rfl ?_
      refine g_X5_present C rfl kw_1_160 dX5_wind_28 rfl ?_
      refine g_X4_winds C (yd_4 yd_1) kw_1_72 dX5_wind_31 rfl ?_
      refine k_iload_n C 1 dX5_wind_34 rfl rfl rfl ?_
      obtain ⟨g9, hf⟩ := kf_g hf
      refine k_iald (j := v1.toNatClampNeg) C (yd_w yd_1) g9 rfl dX5_wind_35 rfl ?_
      obtain ⟨z10, e11, hf⟩ := kf_b hf
      refine k_topi e11 ?_
      refine k_istore_n (lv' := [(3, .int z10), (0, kr Z 0), (1, .int v1), (2, .int v2)]) C dX5_wind_36 rfl (by decide) rfl rfl ?_
      refine k_aload_n C 1 dX5_wind_37 rfl rfl rfl ?_
      refine g_X5_present C rfl kw_1_160 dX5_wind_38 rfl ?_
      refine g_X4_winds C (yd_4 yd_1) kw_1_72 dX5_wind_41 rfl ?_
      refine k_iload_n C 2 dX5_wind_44 rfl rfl rfl ?_
      refine k_iload_n C 3 dX5_wind_45 rfl rfl rfl ?_
      refine k_iast (j := v1.toNatClampNeg) C (yd_w yd_1) g9 rfl dX5_wind_46 rfl ?_
      obtain ⟨s12, e13, hf⟩ := kf_b hf
      refine k_st e13 ?_
      refine k_iload_n C 0 dX5_wind_47 rfl rfl rfl ?_
      exact k_iret C K hf dX5_wind_48
    · replace hf := kf_t hf b8
      refine k_aload_n C 0 dX5_wind_20 rfl rfl rfl ?_
      refine k_ldc C (-1000000001 : Int32) kw_1_192 dX5_wind_21 rfl ?_
      obtain ⟨q14, e15, hf⟩ := kf_b hf
      refine k_callV C [.int (-1000000001 : Int32)] (mX5_tell e15) rfl (by decide) rfl kw_1_193 kw_1_195 kw_0_0 kw_1_1 kw_1_196 qX5_tell rfl ⟨by decide, by decide⟩ ⟨rfl, rfl⟩ (Nat.le_of_ble_eq_true rfl) dX5_wind_23 rfl ?_ rfl
      refine (show kV Z 4 26 [(0, kr Z 0), (1, .int v1), (2, .int v2)] [.int q14.1] q14.2 from ?_)
      exact k_iret C K hf dX5_wind_26
theorem mX5_wind {G : kG} {v1 : Int32} {v2 : Int32}  {st : kM} {res : Int32 × kM} (hf : fX5_wind v1 v2 st = some res) : kCt G yX5_wind cX5_wind 4 (some .int) rmX5_wind [.ref (G.2.1 0), .int v1, .int v2] st (some (.int res.1)) res.2 := kMet (by decide) (Nat.le_of_ble_eq_true rfl) ⟨rfl, rfl⟩ (fun X A Q C K => tX5_wind C  hf K)
theorem qX5_wind : yX5_wind.cls = RX5 ∧ yX5_wind.cls ≠ "java/lang/invoke/MethodHandle" ∧ yX5_wind.cls ≠ "java/lang/invoke/VarHandle" ∧ (parseMethodDescriptor yX5_wind.desc).map (fun d => d.parameters.length) = some 2 := ⟨rfl, by decide, by decide, by decide +kernel⟩
-- TalkKnots.isMast(I)Z
def rmX5_isMast : Room := { frames := 1, cells := 0, slots := 0, locals := 22 }
def fX5_isMast (v0 : Int32) (st : kM) : Option (Int32 × kM) :=
  (fX5_isWithin v0 (0 : Int32) (3 : Int32) st).bind fun q1 => (if q1.1 = 0 ∨ q1.1 = 1 then some (q1.1, q1.2) else none)
set_option maxRecDepth 100000 in
theorem tX5_isMast {Z : kZ} (C : kC Z cX5_isMast RX5 1 rmX5_isMast) {v0 : Int32}  {st : kM} {res : Int32 × kM} (hf : fX5_isMast v0 st = some res) (K : kEnd Z (some .boolean) (some (.int res.1)) res.2) : kV Z 1 0 [(0, .int v0)] [] st := by
  unfold fX5_isMast at hf
  refine k_iload_n C 0 dX5_isMast_0 rfl rfl rfl ?_
  refine k_iconst C (0 : Int32) dX5_isMast_1 (by decide) rfl ?_
  refine k_iconst C (3 : Int32) dX5_isMast_2 (by decide) rfl ?_
  obtain ⟨q1, e2, hf⟩ := kf_b hf
  refine k_callS C [.int v0, .int (0 : Int32), .int (3 : Int32)] (mX5_isWithin e2) kw_1_189 kw_1_190 kw_1_1 kw_1_191 qX5_isWithin rfl ⟨by decide, by decide⟩ ⟨rfl, rfl⟩ (Nat.le_of_ble_eq_true rfl) dX5_isMast_3 rfl ?_ rfl
  refine (show kV Z 1 6 [(0, .int v0)] [.int q1.1] q1.2 from ?_)
  obtain ⟨g0, hf⟩ := kf_y hf
  exact k_zret C K hf (kb_n g0) dX5_isMast_6
theorem mX5_isMast {G : kG} {v0 : Int32}  {st : kM} {res : Int32 × kM} (hf : fX5_isMast v0 st = some res) : kCt G yX5_isMast cX5_isMast 1 (some .boolean) rmX5_isMast [.int v0] st (some (.int res.1)) res.2 := kMet (by decide) (Nat.le_of_ble_eq_true rfl) ⟨rfl, rfl⟩ (fun X A Q C K => tX5_isMast C  hf K)
theorem qX5_isMast : yX5_isMast.cls ≠ "java/lang/invoke/MethodHandle" ∧ yX5_isMast.cls ≠ "java/lang/invoke/VarHandle" ∧ (parseMethodDescriptor yX5_isMast.desc).map (fun d => d.parameters.length) = some 1 := ⟨by decide, by decide, by decide +kernel⟩
-- TalkKnots.weight(II)I
def rmX5_weight : Room := { frames := 2, cells := 0, slots := 0, locals := 44 }
def fX5_weight (v1 : Int32) (v2 : Int32) (st : kM) : Option (Int32 × kM) :=
  (fX5_isMast v1 st).bind fun q1 => (if q1.1 = 0 then ((fX5_tell (-1000000001 : Int32) q1.2).bind fun q4 => (some (q4.1, q4.2))) else ((fX5_isWithin v2 (0 : Int32) (999 : Int32) q1.2).bind fun q6 => (if q6.1 = 0 then ((fX5_tell (-1000000001 : Int32) q6.2).bind fun q14 => (some (q14.1, q14.2))) else (if v1 < 0 ∨ 4 ≤ v1.toNatClampNeg then none else ((some (q6.2.1 (1 + 2) v1.toNatClampNeg)).bind fun z10 => ((some (kwr q6.2 (1 + 2) v1.toNatClampNeg v2)).bind fun s12 => (some (z10, s12))))))))
set_option maxRecDepth 100000 in
theorem tX5_weight {Z : kZ} (C : kC Z cX5_weight RX5 4 rmX5_weight) {v1 : Int32} {v2 : Int32}  {st : kM} {res : Int32 × kM} (hf : fX5_weight v1 v2 st = some res) (K : kEnd Z (some .int) (some (.int res.1)) res.2) : kV Z 4 0 [(0, kr Z 0), (1, .int v1), (2, .int v2)] [] st := by
  unfold fX5_weight at hf
  refine k_iload_n C 1 dX5_weight_0 rfl rfl rfl ?_
  obtain ⟨q1, e2, hf⟩ := kf_b hf
  refine k_callS C [.int v1] (mX5_isMast e2) kw_1_201 kw_1_202 kw_1_1 kw_1_203 qX5_isMast rfl ⟨by decide, by decide⟩ ⟨rfl, rfl⟩ (Nat.le_of_ble_eq_true rfl) dX5_weight_1 rfl ?_ rfl
  refine (show kV Z 4 4 [(0, kr Z 0), (1, .int v1), (2, .int v2)] [.int q1.1] q1.2 from ?_)
  refine k_if_eq C 18 dX5_weight_4 rfl rfl (fun b3 => ?_) (fun b3 => ?_)
  · replace hf := kf_t hf b3
    refine k_aload_n C 0 dX5_weight_18 rfl rfl rfl ?_
    refine k_ldc C (-1000000001 : Int32) kw_1_192 dX5_weight_19 rfl ?_
    obtain ⟨q4, e5, hf⟩ := kf_b hf
    refine k_callV C [.int (-1000000001 : Int32)] (mX5_tell e5) rfl (by decide) rfl kw_1_193 kw_1_195 kw_0_0 kw_1_1 kw_1_196 qX5_tell rfl ⟨by decide, by decide⟩ ⟨rfl, rfl⟩ (Nat.le_of_ble_eq_true rfl) dX5_weight_21 rfl ?_ rfl
    refine (show kV Z 4 24 [(0, kr Z 0), (1, .int v1), (2, .int v2)] [.int q4.1] q4.2 from ?_)
    exact k_iret C K hf dX5_weight_24
  · replace hf := kf_f hf b3
    refine k_iload_n C 2 dX5_weight_7 rfl rfl rfl ?_
    refine k_iconst C (0 : Int32) dX5_weight_8 (by decide) rfl ?_
    refine k_sipush C (999 : Int32) dX5_weight_9 (by decide) rfl ?_
    obtain ⟨q6, e7, hf⟩ := kf_b hf
    refine k_callS C [.int v2, .int (0 : Int32), .int (999 : Int32)] (mX5_isWithin e7) kw_1_189 kw_1_190 kw_1_1 kw_1_191 qX5_isWithin rfl ⟨by decide, by decide⟩ ⟨rfl, rfl⟩ (Nat.le_of_ble_eq_true rfl) dX5_weight_12 rfl ?_ rfl
    refine (show kV Z 4 15 [(0, kr Z 0), (1, .int v1), (2, .int v2)] [.int q6.1] q6.2 from ?_)
    refine k_if_ne C 25 dX5_weight_15 rfl rfl (fun b8 => ?_) (fun b8 => ?_)
    · replace hf := kf_f hf b8
      refine k_aload_n C 0 dX5_weight_25 rfl rfl rfl ?_
      refine g_X5_present C rfl kw_1_160 dX5_weight_26 rfl ?_
      refine g_X4_weights C (yd_4 yd_1) kw_1_75 dX5_weight_29 rfl ?_
      refine k_iload_n C 1 dX5_weight_32 rfl rfl rfl ?_
      obtain ⟨g9, hf⟩ := kf_g hf
      refine k_iald (j := v1.toNatClampNeg) C (yd_g yd_1) g9 rfl dX5_weight_33 rfl ?_
      obtain ⟨z10, e11, hf⟩ := kf_b hf
      refine k_topi e11 ?_
      refine k_istore_n (lv' := [(3, .int z10), (0, kr Z 0), (1, .int v1), (2, .int v2)]) C dX5_weight_34 rfl (by decide) rfl rfl ?_
      refine k_aload_n C 1 dX5_weight_35 rfl rfl rfl ?_
      refine g_X5_present C rfl kw_1_160 dX5_weight_36 rfl ?_
      refine g_X4_weights C (yd_4 yd_1) kw_1_75 dX5_weight_39 rfl ?_
      refine k_iload_n C 2 dX5_weight_42 rfl rfl rfl ?_
      refine k_iload_n C 3 dX5_weight_43 rfl rfl rfl ?_
      refine k_iast (j := v1.toNatClampNeg) C (yd_g yd_1) g9 rfl dX5_weight_44 rfl ?_
      obtain ⟨s12, e13, hf⟩ := kf_b hf
      refine k_st e13 ?_
      refine k_iload_n C 0 dX5_weight_45 rfl rfl rfl ?_
      exact k_iret C K hf dX5_weight_46
    · replace hf := kf_t hf b8
      refine k_aload_n C 0 dX5_weight_18 rfl rfl rfl ?_
      refine k_ldc C (-1000000001 : Int32) kw_1_192 dX5_weight_19 rfl ?_
      obtain ⟨q14, e15, hf⟩ := kf_b hf
      refine k_callV C [.int (-1000000001 : Int32)] (mX5_tell e15) rfl (by decide) rfl kw_1_193 kw_1_195 kw_0_0 kw_1_1 kw_1_196 qX5_tell rfl ⟨by decide, by decide⟩ ⟨rfl, rfl⟩ (Nat.le_of_ble_eq_true rfl) dX5_weight_21 rfl ?_ rfl
      refine (show kV Z 4 24 [(0, kr Z 0), (1, .int v1), (2, .int v2)] [.int q14.1] q14.2 from ?_)
      exact k_iret C K hf dX5_weight_24
theorem mX5_weight {G : kG} {v1 : Int32} {v2 : Int32}  {st : kM} {res : Int32 × kM} (hf : fX5_weight v1 v2 st = some res) : kCt G yX5_weight cX5_weight 4 (some .int) rmX5_weight [.ref (G.2.1 0), .int v1, .int v2] st (some (.int res.1)) res.2 := kMet (by decide) (Nat.le_of_ble_eq_true rfl) ⟨rfl, rfl⟩ (fun X A Q C K => tX5_weight C  hf K)
theorem qX5_weight : yX5_weight.cls = RX5 ∧ yX5_weight.cls ≠ "java/lang/invoke/MethodHandle" ∧ yX5_weight.cls ≠ "java/lang/invoke/VarHandle" ∧ (parseMethodDescriptor yX5_weight.desc).map (fun d => d.parameters.length) = some 2 := ⟨rfl, by decide, by decide, by decide +kernel⟩
-- TalkKnots.raise(I)I
def rmX5_raise : Room := { frames := 2, cells := 0, slots := 0, locals := 44 }
def fX5_raise (v1 : Int32) (st : kM) : Option (Int32 × kM) :=
  (fX5_isMast v1 st).bind fun q1 => (if q1.1 = 0 then ((fX5_tell (-1000000001 : Int32) q1.2).bind fun q11 => (some (q11.1, q11.2))) else ((fX4_isUp 1 v1 q1.2).bind fun q4 => (if q4.1 = 0 then ((fX4_putUp 1 v1 (1 : Int32) q4.2).bind fun s7 => (some ((1 : Int32), s7))) else ((fX4_putUp 1 v1 (1 : Int32) q4.2).bind fun s9 => (some ((0 : Int32), s9))))))
set_option maxRecDepth 100000 in
theorem tX5_raise {Z : kZ} (C : kC Z cX5_raise RX5 3 rmX5_raise) {v1 : Int32}  {st : kM} {res : Int32 × kM} (hf : fX5_raise v1 st = some res) (K : kEnd Z (some .int) (some (.int res.1)) res.2) : kV Z 3 0 [(0, kr Z 0), (1, .int v1)] [] st := by
  unfold fX5_raise at hf
  refine k_iload_n C 1 dX5_raise_0 rfl rfl rfl ?_
  obtain ⟨q1, e2, hf⟩ := kf_b hf
  refine k_callS C [.int v1] (mX5_isMast e2) kw_1_201 kw_1_202 kw_1_1 kw_1_203 qX5_isMast rfl ⟨by decide, by decide⟩ ⟨rfl, rfl⟩ (Nat.le_of_ble_eq_true rfl) dX5_raise_1 rfl ?_ rfl
  refine (show kV Z 3 4 [(0, kr Z 0), (1, .int v1)] [.int q1.1] q1.2 from ?_)
  refine k_if_ne C 14 dX5_raise_4 rfl rfl (fun b3 => ?_) (fun b3 => ?_)
  · replace hf := kf_f hf b3
    refine k_aload_n C 0 dX5_raise_14 rfl rfl rfl ?_
    refine g_X5_present C rfl kw_1_160 dX5_raise_15 rfl ?_
    refine k_iload_n C 1 dX5_raise_18 rfl rfl rfl ?_
    obtain ⟨q4, e5, hf⟩ := kf_b hf
    refine k_callV C [.int v1] (mX4_isUp yd_1 e5) (yd_4 yd_1) (by decide) rfl kw_1_208 kw_1_209 kw_1_210 kw_1_2 kw_1_211 qX4_isUp rfl ⟨by decide, by decide⟩ ⟨rfl, rfl⟩ (Nat.le_of_ble_eq_true rfl) dX5_raise_19 rfl ?_ rfl
    refine (show kV Z 3 22 [(0, kr Z 0), (1, .int v1)] [.int q4.1] q4.2 from ?_)
    refine k_if_eq C 29 dX5_raise_22 rfl rfl (fun b6 => ?_) (fun b6 => ?_)
    · replace hf := kf_t hf b6
      refine k_iconst C (1 : Int32) dX5_raise_29 (by decide) rfl ?_
      refine k_istore_n (lv' := [(2, .int (1 : Int32)), (0, kr Z 0), (1, .int v1)]) C dX5_raise_30 rfl (by decide) rfl rfl ?_
      refine k_aload_n C 1 dX5_raise_31 rfl rfl rfl ?_
      refine g_X5_present C rfl kw_1_160 dX5_raise_32 rfl ?_
      refine k_iload_n C 2 dX5_raise_35 rfl rfl rfl ?_
      refine k_iconst C (1 : Int32) dX5_raise_36 (by decide) rfl ?_
      obtain ⟨s7, e8, hf⟩ := kf_b hf
      refine k_callV C [.int v1, .int (1 : Int32)] (mX4_putUp yd_1 e8) (yd_4 yd_1) (by decide) rfl kw_1_212 kw_1_213 kw_1_214 kw_1_2 kw_1_215 qX4_putUp rfl ⟨by decide, by decide⟩ ⟨rfl, rfl⟩ (Nat.le_of_ble_eq_true rfl) dX5_raise_37 rfl ?_ rfl
      refine (show kV Z 3 40 [(2, .int (1 : Int32)), (0, kr Z 0), (1, .int v1)] [] s7 from ?_)
      refine k_iload_n C 0 dX5_raise_40 rfl rfl rfl ?_
      exact k_iret C K hf dX5_raise_41
    · replace hf := kf_f hf b6
      refine k_iconst C (0 : Int32) dX5_raise_25 (by decide) rfl ?_
      refine k_goto C 30 dX5_raise_26 rfl ?_
      refine k_istore_n (lv' := [(2, .int (0 : Int32)), (0, kr Z 0), (1, .int v1)]) C dX5_raise_30 rfl (by decide) rfl rfl ?_
      refine k_aload_n C 1 dX5_raise_31 rfl rfl rfl ?_
      refine g_X5_present C rfl kw_1_160 dX5_raise_32 rfl ?_
      refine k_iload_n C 2 dX5_raise_35 rfl rfl rfl ?_
      refine k_iconst C (1 : Int32) dX5_raise_36 (by decide) rfl ?_
      obtain ⟨s9, e10, hf⟩ := kf_b hf
      refine k_callV C [.int v1, .int (1 : Int32)] (mX4_putUp yd_1 e10) (yd_4 yd_1) (by decide) rfl kw_1_212 kw_1_213 kw_1_214 kw_1_2 kw_1_215 qX4_putUp rfl ⟨by decide, by decide⟩ ⟨rfl, rfl⟩ (Nat.le_of_ble_eq_true rfl) dX5_raise_37 rfl ?_ rfl
      refine (show kV Z 3 40 [(2, .int (0 : Int32)), (0, kr Z 0), (1, .int v1)] [] s9 from ?_)
      refine k_iload_n C 0 dX5_raise_40 rfl rfl rfl ?_
      exact k_iret C K hf dX5_raise_41
  · replace hf := kf_t hf b3
    refine k_aload_n C 0 dX5_raise_7 rfl rfl rfl ?_
    refine k_ldc C (-1000000001 : Int32) kw_1_192 dX5_raise_8 rfl ?_
    obtain ⟨q11, e12, hf⟩ := kf_b hf
    refine k_callV C [.int (-1000000001 : Int32)] (mX5_tell e12) rfl (by decide) rfl kw_1_193 kw_1_195 kw_0_0 kw_1_1 kw_1_196 qX5_tell rfl ⟨by decide, by decide⟩ ⟨rfl, rfl⟩ (Nat.le_of_ble_eq_true rfl) dX5_raise_10 rfl ?_ rfl
    refine (show kV Z 3 13 [(0, kr Z 0), (1, .int v1)] [.int q11.1] q11.2 from ?_)
    exact k_iret C K hf dX5_raise_13
theorem mX5_raise {G : kG} {v1 : Int32}  {st : kM} {res : Int32 × kM} (hf : fX5_raise v1 st = some res) : kCt G yX5_raise cX5_raise 3 (some .int) rmX5_raise [.ref (G.2.1 0), .int v1] st (some (.int res.1)) res.2 := kMet (by decide) (Nat.le_of_ble_eq_true rfl) ⟨rfl, rfl⟩ (fun X A Q C K => tX5_raise C  hf K)
theorem qX5_raise : yX5_raise.cls = RX5 ∧ yX5_raise.cls ≠ "java/lang/invoke/MethodHandle" ∧ yX5_raise.cls ≠ "java/lang/invoke/VarHandle" ∧ (parseMethodDescriptor yX5_raise.desc).map (fun d => d.parameters.length) = some 1 := ⟨rfl, by decide, by decide, by decide +kernel⟩
-- TalkKnots.mastOf(II)I
def rmX5_mastOf : Room := { frames := 5, cells := 0, slots := 0, locals := 109 }
def fX5_mastOf (v1 : Int32) (v2 : Int32) (st : kM) : Option (Int32 × kM) :=
  (fX5_isMast v1 st).bind fun q1 => (if q1.1 = 0 then ((fX5_tell (-1000000001 : Int32) q1.2).bind fun q26 => (some (q26.1, q26.2))) else (if v2 = (0 : Int32) then (if v1 < 0 ∨ 4 ≤ v1.toNatClampNeg then none else (some ((q1.2.1 (1 + 2) v1.toNatClampNeg), q1.2))) else (if v2 = (1 : Int32) then ((fX4_isUp 1 v1 q1.2).bind fun q7 => (if q7.1 = 0 then (some ((0 : Int32), q7.2)) else (some ((1 : Int32), q7.2)))) else (if v2 = (2 : Int32) then ((fX4_knotsOf 1 v1 q1.2).bind fun q11 => (some (q11.1, q11.2))) else (if v2 = (3 : Int32) then ((fX4_knotsOf 1 v1 q1.2).bind fun q14 => ((fX4_fastKnots 1 q14.2).bind fun q16 => (some ((q14.1 &&& q16.1), q16.2)))) else (if v2 = (4 : Int32) then ((fX4_strainOn 1 v1 q1.2).bind fun q19 => (some (q19.1, q19.2))) else (if v2 = (5 : Int32) then ((fX4_allHolding 1 v1 q1.2).bind fun q22 => (some (q22.1, q22.2))) else ((fX5_tell (-1000000001 : Int32) q1.2).bind fun q24 => (some (q24.1, q24.2))))))))))
set_option maxRecDepth 100000 in
theorem tX5_mastOf {Z : kZ} (C : kC Z cX5_mastOf RX5 3 rmX5_mastOf) {v1 : Int32} {v2 : Int32}  {st : kM} {res : Int32 × kM} (hf : fX5_mastOf v1 v2 st = some res) (K : kEnd Z (some .int) (some (.int res.1)) res.2) : kV Z 3 0 [(0, kr Z 0), (1, .int v1), (2, .int v2)] [] st := by
  unfold fX5_mastOf at hf
  refine k_iload_n C 1 dX5_mastOf_0 rfl rfl rfl ?_
  obtain ⟨q1, e2, hf⟩ := kf_b hf
  refine k_callS C [.int v1] (mX5_isMast e2) kw_1_201 kw_1_202 kw_1_1 kw_1_203 qX5_isMast rfl ⟨by decide, by decide⟩ ⟨rfl, rfl⟩ (Nat.le_of_ble_eq_true rfl) dX5_mastOf_1 rfl ?_ rfl
  refine (show kV Z 3 4 [(0, kr Z 0), (1, .int v1), (2, .int v2)] [.int q1.1] q1.2 from ?_)
  refine k_if_ne C 14 dX5_mastOf_4 rfl rfl (fun b3 => ?_) (fun b3 => ?_)
  · replace hf := kf_f hf b3
    refine k_iload_n C 2 dX5_mastOf_14 rfl rfl rfl ?_
    by_cases b4 : v2 = (0 : Int32)
    · replace hf := kf_t hf b4
      refine k_tabIn C 52 dX5_mastOf_15 (by rw [b4]; decide) (by rw [b4]; decide) (by rw [b4]; rfl) rfl ?_
      refine k_aload_n C 0 dX5_mastOf_52 rfl rfl rfl ?_
      refine g_X5_present C rfl kw_1_160 dX5_mastOf_53 rfl ?_
      refine g_X4_weights C (yd_4 yd_1) kw_1_75 dX5_mastOf_56 rfl ?_
      refine k_iload_n C 1 dX5_mastOf_59 rfl rfl rfl ?_
      obtain ⟨g5, hf⟩ := kf_g hf
      refine k_iald (j := v1.toNatClampNeg) C (yd_g yd_1) g5 rfl dX5_mastOf_60 rfl ?_
      exact k_iret C K hf dX5_mastOf_61
    · replace hf := kf_f hf b4
      by_cases b6 : v2 = (1 : Int32)
      · replace hf := kf_t hf b6
        refine k_tabIn C 62 dX5_mastOf_15 (by rw [b6]; decide) (by rw [b6]; decide) (by rw [b6]; rfl) rfl ?_
        refine k_aload_n C 0 dX5_mastOf_62 rfl rfl rfl ?_
        refine g_X5_present C rfl kw_1_160 dX5_mastOf_63 rfl ?_
        refine k_iload_n C 1 dX5_mastOf_66 rfl rfl rfl ?_
        obtain ⟨q7, e8, hf⟩ := kf_b hf
        refine k_callV C [.int v1] (mX4_isUp yd_1 e8) (yd_4 yd_1) (by decide) rfl kw_1_208 kw_1_209 kw_1_210 kw_1_2 kw_1_211 qX4_isUp rfl ⟨by decide, by decide⟩ ⟨rfl, rfl⟩ (Nat.le_of_ble_eq_true rfl) dX5_mastOf_67 rfl ?_ rfl
        refine (show kV Z 3 70 [(0, kr Z 0), (1, .int v1), (2, .int v2)] [.int q7.1] q7.2 from ?_)
        refine k_if_eq C 77 dX5_mastOf_70 rfl rfl (fun b9 => ?_) (fun b9 => ?_)
        · replace hf := kf_t hf b9
          refine k_iconst C (0 : Int32) dX5_mastOf_77 (by decide) rfl ?_
          exact k_iret C K hf dX5_mastOf_78
        · replace hf := kf_f hf b9
          refine k_iconst C (1 : Int32) dX5_mastOf_73 (by decide) rfl ?_
          refine k_goto C 78 dX5_mastOf_74 rfl ?_
          exact k_iret C K hf dX5_mastOf_78
      · replace hf := kf_f hf b6
        by_cases b10 : v2 = (2 : Int32)
        · replace hf := kf_t hf b10
          refine k_tabIn C 79 dX5_mastOf_15 (by rw [b10]; decide) (by rw [b10]; decide) (by rw [b10]; rfl) rfl ?_
          refine k_aload_n C 0 dX5_mastOf_79 rfl rfl rfl ?_
          refine g_X5_present C rfl kw_1_160 dX5_mastOf_80 rfl ?_
          refine k_iload_n C 1 dX5_mastOf_83 rfl rfl rfl ?_
          obtain ⟨q11, e12, hf⟩ := kf_b hf
          refine k_callV C [.int v1] (mX4_knotsOf yd_1 e12) (yd_4 yd_1) (by decide) rfl kw_1_220 kw_1_221 kw_1_222 kw_1_2 kw_1_223 qX4_knotsOf rfl ⟨by decide, by decide⟩ ⟨rfl, rfl⟩ (Nat.le_of_ble_eq_true rfl) dX5_mastOf_84 rfl ?_ rfl
          refine (show kV Z 3 87 [(0, kr Z 0), (1, .int v1), (2, .int v2)] [.int q11.1] q11.2 from ?_)
          exact k_iret C K hf dX5_mastOf_87
        · replace hf := kf_f hf b10
          by_cases b13 : v2 = (3 : Int32)
          · replace hf := kf_t hf b13
            refine k_tabIn C 88 dX5_mastOf_15 (by rw [b13]; decide) (by rw [b13]; decide) (by rw [b13]; rfl) rfl ?_
            refine k_aload_n C 0 dX5_mastOf_88 rfl rfl rfl ?_
            refine g_X5_present C rfl kw_1_160 dX5_mastOf_89 rfl ?_
            refine k_iload_n C 1 dX5_mastOf_92 rfl rfl rfl ?_
            obtain ⟨q14, e15, hf⟩ := kf_b hf
            refine k_callV C [.int v1] (mX4_knotsOf yd_1 e15) (yd_4 yd_1) (by decide) rfl kw_1_220 kw_1_221 kw_1_222 kw_1_2 kw_1_223 qX4_knotsOf rfl ⟨by decide, by decide⟩ ⟨rfl, rfl⟩ (Nat.le_of_ble_eq_true rfl) dX5_mastOf_93 rfl ?_ rfl
            refine (show kV Z 3 96 [(0, kr Z 0), (1, .int v1), (2, .int v2)] [.int q14.1] q14.2 from ?_)
            refine k_aload_n C 0 dX5_mastOf_96 rfl rfl rfl ?_
            refine g_X5_present C rfl kw_1_160 dX5_mastOf_97 rfl ?_
            obtain ⟨q16, e17, hf⟩ := kf_b hf
            refine k_callV C [] (mX4_fastKnots yd_1 e17) (yd_4 yd_1) (by decide) rfl kw_1_224 kw_1_225 kw_1_226 kw_1_2 kw_1_227 qX4_fastKnots rfl ⟨by decide, by decide⟩ ⟨rfl, rfl⟩ (Nat.le_of_ble_eq_true rfl) dX5_mastOf_100 rfl ?_ rfl
            refine (show kV Z 3 103 [(0, kr Z 0), (1, .int v1), (2, .int v2)] [.int q16.1, .int q14.1] q16.2 from ?_)
            refine k_iand C dX5_mastOf_103 rfl ?_
            exact k_iret C K hf dX5_mastOf_104
          · replace hf := kf_f hf b13
            by_cases b18 : v2 = (4 : Int32)
            · replace hf := kf_t hf b18
              refine k_tabIn C 105 dX5_mastOf_15 (by rw [b18]; decide) (by rw [b18]; decide) (by rw [b18]; rfl) rfl ?_
              refine k_aload_n C 0 dX5_mastOf_105 rfl rfl rfl ?_
              refine g_X5_present C rfl kw_1_160 dX5_mastOf_106 rfl ?_
              refine k_iload_n C 1 dX5_mastOf_109 rfl rfl rfl ?_
              obtain ⟨q19, e20, hf⟩ := kf_b hf
              refine k_callV C [.int v1] (mX4_strainOn yd_1 e20) (yd_4 yd_1) (by decide) rfl kw_1_228 kw_1_229 kw_1_230 kw_1_2 kw_1_231 qX4_strainOn rfl ⟨by decide, by decide⟩ ⟨rfl, rfl⟩ (Nat.le_of_ble_eq_true rfl) dX5_mastOf_110 rfl ?_ rfl
              refine (show kV Z 3 113 [(0, kr Z 0), (1, .int v1), (2, .int v2)] [.int q19.1] q19.2 from ?_)
              exact k_iret C K hf dX5_mastOf_113
            · replace hf := kf_f hf b18
              by_cases b21 : v2 = (5 : Int32)
              · replace hf := kf_t hf b21
                refine k_tabIn C 114 dX5_mastOf_15 (by rw [b21]; decide) (by rw [b21]; decide) (by rw [b21]; rfl) rfl ?_
                refine k_aload_n C 0 dX5_mastOf_114 rfl rfl rfl ?_
                refine g_X5_present C rfl kw_1_160 dX5_mastOf_115 rfl ?_
                refine k_iload_n C 1 dX5_mastOf_118 rfl rfl rfl ?_
                obtain ⟨q22, e23, hf⟩ := kf_b hf
                refine k_callV C [.int v1] (mX4_allHolding yd_1 e23) (yd_4 yd_1) (by decide) rfl kw_2_8 kw_2_9 kw_2_10 kw_1_2 kw_2_11 qX4_allHolding rfl ⟨by decide, by decide⟩ ⟨rfl, rfl⟩ (Nat.le_of_ble_eq_true rfl) dX5_mastOf_119 rfl ?_ rfl
                refine (show kV Z 3 122 [(0, kr Z 0), (1, .int v1), (2, .int v2)] [.int q22.1] q22.2 from ?_)
                exact k_iret C K hf dX5_mastOf_122
              · replace hf := kf_f hf b21
                have zb4 := ti_ne (0 : Int32) b4 (z := 0) rfl
                have zb6 := ti_ne (1 : Int32) b6 (z := 1) rfl
                have zb10 := ti_ne (2 : Int32) b10 (z := 2) rfl
                have zb13 := ti_ne (3 : Int32) b13 (z := 3) rfl
                have zb18 := ti_ne (4 : Int32) b18 (z := 4) rfl
                have zb21 := ti_ne (5 : Int32) b21 (z := 5) rfl
                refine k_tabOut C 123 dX5_mastOf_15 (by omega) rfl ?_
                refine k_aload_n C 0 dX5_mastOf_123 rfl rfl rfl ?_
                refine k_ldc C (-1000000001 : Int32) kw_1_192 dX5_mastOf_124 rfl ?_
                obtain ⟨q24, e25, hf⟩ := kf_b hf
                refine k_callV C [.int (-1000000001 : Int32)] (mX5_tell e25) rfl (by decide) rfl kw_1_193 kw_1_195 kw_0_0 kw_1_1 kw_1_196 qX5_tell rfl ⟨by decide, by decide⟩ ⟨rfl, rfl⟩ (Nat.le_of_ble_eq_true rfl) dX5_mastOf_126 rfl ?_ rfl
                refine (show kV Z 3 129 [(0, kr Z 0), (1, .int v1), (2, .int v2)] [.int q24.1] q24.2 from ?_)
                exact k_iret C K hf dX5_mastOf_129
  · replace hf := kf_t hf b3
    refine k_aload_n C 0 dX5_mastOf_7 rfl rfl rfl ?_
    refine k_ldc C (-1000000001 : Int32) kw_1_192 dX5_mastOf_8 rfl ?_
    obtain ⟨q26, e27, hf⟩ := kf_b hf
    refine k_callV C [.int (-1000000001 : Int32)] (mX5_tell e27) rfl (by decide) rfl kw_1_193 kw_1_195 kw_0_0 kw_1_1 kw_1_196 qX5_tell rfl ⟨by decide, by decide⟩ ⟨rfl, rfl⟩ (Nat.le_of_ble_eq_true rfl) dX5_mastOf_10 rfl ?_ rfl
    refine (show kV Z 3 13 [(0, kr Z 0), (1, .int v1), (2, .int v2)] [.int q26.1] q26.2 from ?_)
    exact k_iret C K hf dX5_mastOf_13
theorem mX5_mastOf {G : kG} {v1 : Int32} {v2 : Int32}  {st : kM} {res : Int32 × kM} (hf : fX5_mastOf v1 v2 st = some res) : kCt G yX5_mastOf cX5_mastOf 3 (some .int) rmX5_mastOf [.ref (G.2.1 0), .int v1, .int v2] st (some (.int res.1)) res.2 := kMet (by decide) (Nat.le_of_ble_eq_true rfl) ⟨rfl, rfl⟩ (fun X A Q C K => tX5_mastOf C  hf K)
theorem qX5_mastOf : yX5_mastOf.cls = RX5 ∧ yX5_mastOf.cls ≠ "java/lang/invoke/MethodHandle" ∧ yX5_mastOf.cls ≠ "java/lang/invoke/VarHandle" ∧ (parseMethodDescriptor yX5_mastOf.desc).map (fun d => d.parameters.length) = some 2 := ⟨rfl, by decide, by decide, by decide +kernel⟩
-- TalkKnots.now(I)I
def rmX5_now : Room := { frames := 2, cells := 0, slots := 0, locals := 44 }
def fX5_now (v1 : Int32) (st : kM) : Option (Int32 × kM) :=
  if v1 = (0 : Int32) then (some ((st.1 1 0), st)) else (if v1 = (1 : Int32) then ((fX4_place 1 st).bind fun q3 => (some (q3.1, q3.2))) else (if v1 = (2 : Int32) then ((fX4_windNow 1 st).bind fun q6 => (some (q6.1, q6.2))) else (if v1 = (3 : Int32) then (some ((st.1 1 2), st)) else (if v1 = (4 : Int32) then ((fX4_fastKnots 1 st).bind fun q10 => (some (q10.1, q10.2))) else (if v1 = (5 : Int32) then ((fX4_allOpen 1 st).bind fun q13 => (some (q13.1, q13.2))) else ((fX5_tell (-1000000001 : Int32) st).bind fun q15 => (some (q15.1, q15.2))))))))
set_option maxRecDepth 100000 in
theorem tX5_now {Z : kZ} (C : kC Z cX5_now RX5 2 rmX5_now) {v1 : Int32}  {st : kM} {res : Int32 × kM} (hf : fX5_now v1 st = some res) (K : kEnd Z (some .int) (some (.int res.1)) res.2) : kV Z 2 0 [(0, kr Z 0), (1, .int v1)] [] st := by
  unfold fX5_now at hf
  refine k_iload_n C 1 dX5_now_0 rfl rfl rfl ?_
  by_cases b1 : v1 = (0 : Int32)
  · replace hf := kf_t hf b1
    refine k_tabIn C 40 dX5_now_1 (by rw [b1]; decide) (by rw [b1]; decide) (by rw [b1]; rfl) rfl ?_
    refine k_aload_n C 0 dX5_now_40 rfl rfl rfl ?_
    refine g_X5_present C rfl kw_1_160 dX5_now_41 rfl ?_
    refine g_X4_hour C (yd_4 yd_1) kw_1_65 dX5_now_44 rfl ?_
    exact k_iret C K hf dX5_now_47
  · replace hf := kf_f hf b1
    by_cases b2 : v1 = (1 : Int32)
    · replace hf := kf_t hf b2
      refine k_tabIn C 48 dX5_now_1 (by rw [b2]; decide) (by rw [b2]; decide) (by rw [b2]; rfl) rfl ?_
      refine k_aload_n C 0 dX5_now_48 rfl rfl rfl ?_
      refine g_X5_present C rfl kw_1_160 dX5_now_49 rfl ?_
      obtain ⟨q3, e4, hf⟩ := kf_b hf
      refine k_callV C [] (mX4_place yd_1 e4) (yd_4 yd_1) (by decide) rfl kw_2_35 kw_2_1 kw_2_2 kw_1_2 kw_2_3 qX4_place rfl ⟨by decide, by decide⟩ ⟨rfl, rfl⟩ (Nat.le_of_ble_eq_true rfl) dX5_now_52 rfl ?_ rfl
      refine (show kV Z 2 55 [(0, kr Z 0), (1, .int v1)] [.int q3.1] q3.2 from ?_)
      exact k_iret C K hf dX5_now_55
    · replace hf := kf_f hf b2
      by_cases b5 : v1 = (2 : Int32)
      · replace hf := kf_t hf b5
        refine k_tabIn C 56 dX5_now_1 (by rw [b5]; decide) (by rw [b5]; decide) (by rw [b5]; rfl) rfl ?_
        refine k_aload_n C 0 dX5_now_56 rfl rfl rfl ?_
        refine g_X5_present C rfl kw_1_160 dX5_now_57 rfl ?_
        obtain ⟨q6, e7, hf⟩ := kf_b hf
        refine k_callV C [] (mX4_windNow yd_1 e7) (yd_4 yd_1) (by decide) rfl kw_2_36 kw_1_237 kw_1_238 kw_1_2 kw_1_239 qX4_windNow rfl ⟨by decide, by decide⟩ ⟨rfl, rfl⟩ (Nat.le_of_ble_eq_true rfl) dX5_now_60 rfl ?_ rfl
        refine (show kV Z 2 63 [(0, kr Z 0), (1, .int v1)] [.int q6.1] q6.2 from ?_)
        exact k_iret C K hf dX5_now_63
      · replace hf := kf_f hf b5
        by_cases b8 : v1 = (3 : Int32)
        · replace hf := kf_t hf b8
          refine k_tabIn C 64 dX5_now_1 (by rw [b8]; decide) (by rw [b8]; decide) (by rw [b8]; rfl) rfl ?_
          refine k_aload_n C 0 dX5_now_64 rfl rfl rfl ?_
          refine g_X5_present C rfl kw_1_160 dX5_now_65 rfl ?_
          refine g_X4_up C (yd_4 yd_1) kw_1_70 dX5_now_68 rfl ?_
          exact k_iret C K hf dX5_now_71
        · replace hf := kf_f hf b8
          by_cases b9 : v1 = (4 : Int32)
          · replace hf := kf_t hf b9
            refine k_tabIn C 72 dX5_now_1 (by rw [b9]; decide) (by rw [b9]; decide) (by rw [b9]; rfl) rfl ?_
            refine k_aload_n C 0 dX5_now_72 rfl rfl rfl ?_
            refine g_X5_present C rfl kw_1_160 dX5_now_73 rfl ?_
            obtain ⟨q10, e11, hf⟩ := kf_b hf
            refine k_callV C [] (mX4_fastKnots yd_1 e11) (yd_4 yd_1) (by decide) rfl kw_1_224 kw_1_225 kw_1_226 kw_1_2 kw_1_227 qX4_fastKnots rfl ⟨by decide, by decide⟩ ⟨rfl, rfl⟩ (Nat.le_of_ble_eq_true rfl) dX5_now_76 rfl ?_ rfl
            refine (show kV Z 2 79 [(0, kr Z 0), (1, .int v1)] [.int q10.1] q10.2 from ?_)
            exact k_iret C K hf dX5_now_79
          · replace hf := kf_f hf b9
            by_cases b12 : v1 = (5 : Int32)
            · replace hf := kf_t hf b12
              refine k_tabIn C 80 dX5_now_1 (by rw [b12]; decide) (by rw [b12]; decide) (by rw [b12]; rfl) rfl ?_
              refine k_aload_n C 0 dX5_now_80 rfl rfl rfl ?_
              refine g_X5_present C rfl kw_1_160 dX5_now_81 rfl ?_
              obtain ⟨q13, e14, hf⟩ := kf_b hf
              refine k_callV C [] (mX4_allOpen yd_1 e14) (yd_4 yd_1) (by decide) rfl kw_2_37 kw_2_38 kw_2_39 kw_1_2 kw_2_40 qX4_allOpen rfl ⟨by decide, by decide⟩ ⟨rfl, rfl⟩ (Nat.le_of_ble_eq_true rfl) dX5_now_84 rfl ?_ rfl
              refine (show kV Z 2 87 [(0, kr Z 0), (1, .int v1)] [.int q13.1] q13.2 from ?_)
              exact k_iret C K hf dX5_now_87
            · replace hf := kf_f hf b12
              have zb1 := ti_ne (0 : Int32) b1 (z := 0) rfl
              have zb2 := ti_ne (1 : Int32) b2 (z := 1) rfl
              have zb5 := ti_ne (2 : Int32) b5 (z := 2) rfl
              have zb8 := ti_ne (3 : Int32) b8 (z := 3) rfl
              have zb9 := ti_ne (4 : Int32) b9 (z := 4) rfl
              have zb12 := ti_ne (5 : Int32) b12 (z := 5) rfl
              refine k_tabOut C 88 dX5_now_1 (by omega) rfl ?_
              refine k_aload_n C 0 dX5_now_88 rfl rfl rfl ?_
              refine k_ldc C (-1000000001 : Int32) kw_1_192 dX5_now_89 rfl ?_
              obtain ⟨q15, e16, hf⟩ := kf_b hf
              refine k_callV C [.int (-1000000001 : Int32)] (mX5_tell e16) rfl (by decide) rfl kw_1_193 kw_1_195 kw_0_0 kw_1_1 kw_1_196 qX5_tell rfl ⟨by decide, by decide⟩ ⟨rfl, rfl⟩ (Nat.le_of_ble_eq_true rfl) dX5_now_91 rfl ?_ rfl
              refine (show kV Z 2 94 [(0, kr Z 0), (1, .int v1)] [.int q15.1] q15.2 from ?_)
              exact k_iret C K hf dX5_now_94
theorem mX5_now {G : kG} {v1 : Int32}  {st : kM} {res : Int32 × kM} (hf : fX5_now v1 st = some res) : kCt G yX5_now cX5_now 2 (some .int) rmX5_now [.ref (G.2.1 0), .int v1] st (some (.int res.1)) res.2 := kMet (by decide) (Nat.le_of_ble_eq_true rfl) ⟨rfl, rfl⟩ (fun X A Q C K => tX5_now C  hf K)
theorem qX5_now : yX5_now.cls = RX5 ∧ yX5_now.cls ≠ "java/lang/invoke/MethodHandle" ∧ yX5_now.cls ≠ "java/lang/invoke/VarHandle" ∧ (parseMethodDescriptor yX5_now.desc).map (fun d => d.parameters.length) = some 1 := ⟨rfl, by decide, by decide, by decide +kernel⟩
-- TalkKnots.isKind(I)Z
def rmX5_isKind : Room := { frames := 1, cells := 0, slots := 0, locals := 22 }
def fX5_isKind (v0 : Int32) (st : kM) : Option (Int32 × kM) :=
  (fX5_isWithin v0 (0 : Int32) (5 : Int32) st).bind fun q1 => (if q1.1 = 0 ∨ q1.1 = 1 then some (q1.1, q1.2) else none)
set_option maxRecDepth 100000 in
theorem tX5_isKind {Z : kZ} (C : kC Z cX5_isKind RX5 1 rmX5_isKind) {v0 : Int32}  {st : kM} {res : Int32 × kM} (hf : fX5_isKind v0 st = some res) (K : kEnd Z (some .boolean) (some (.int res.1)) res.2) : kV Z 1 0 [(0, .int v0)] [] st := by
  unfold fX5_isKind at hf
  refine k_iload_n C 0 dX5_isKind_0 rfl rfl rfl ?_
  refine k_iconst C (0 : Int32) dX5_isKind_1 (by decide) rfl ?_
  refine k_iconst C (5 : Int32) dX5_isKind_2 (by decide) rfl ?_
  obtain ⟨q1, e2, hf⟩ := kf_b hf
  refine k_callS C [.int v0, .int (0 : Int32), .int (5 : Int32)] (mX5_isWithin e2) kw_1_189 kw_1_190 kw_1_1 kw_1_191 qX5_isWithin rfl ⟨by decide, by decide⟩ ⟨rfl, rfl⟩ (Nat.le_of_ble_eq_true rfl) dX5_isKind_3 rfl ?_ rfl
  refine (show kV Z 1 6 [(0, .int v0)] [.int q1.1] q1.2 from ?_)
  obtain ⟨g0, hf⟩ := kf_y hf
  exact k_zret C K hf (kb_n g0) dX5_isKind_6
theorem mX5_isKind {G : kG} {v0 : Int32}  {st : kM} {res : Int32 × kM} (hf : fX5_isKind v0 st = some res) : kCt G yX5_isKind cX5_isKind 1 (some .boolean) rmX5_isKind [.int v0] st (some (.int res.1)) res.2 := kMet (by decide) (Nat.le_of_ble_eq_true rfl) ⟨rfl, rfl⟩ (fun X A Q C K => tX5_isKind C  hf K)
theorem qX5_isKind : yX5_isKind.cls ≠ "java/lang/invoke/MethodHandle" ∧ yX5_isKind.cls ≠ "java/lang/invoke/VarHandle" ∧ (parseMethodDescriptor yX5_isKind.desc).map (fun d => d.parameters.length) = some 1 := ⟨by decide, by decide, by decide +kernel⟩
-- TalkKnots.knot(II)I
def rmX5_knot : Room := { frames := 2, cells := 0, slots := 0, locals := 44 }
def fX5_knot (v1 : Int32) (v2 : Int32) (st : kM) : Option (Int32 × kM) :=
  (fX5_isKind v1 st).bind fun q1 => (if q1.1 = 0 then ((fX5_tell (-1000000001 : Int32) q1.2).bind fun q4 => (some (q4.1, q4.2))) else ((fX5_isMast v2 q1.2).bind fun q6 => (if q6.1 = 0 then ((fX5_tell (-1000000001 : Int32) q6.2).bind fun q16 => (some (q16.1, q16.2))) else ((fX4_isFull 1 q6.2).bind fun q9 => (if q9.1 = 0 then ((fX4_addKnot 1 v1 v2 q9.2).bind fun q12 => (some (q12.1, q12.2))) else ((fX5_tell (-1000000002 : Int32) q9.2).bind fun q14 => (some (q14.1, q14.2))))))))
set_option maxRecDepth 100000 in
theorem tX5_knot {Z : kZ} (C : kC Z cX5_knot RX5 3 rmX5_knot) {v1 : Int32} {v2 : Int32}  {st : kM} {res : Int32 × kM} (hf : fX5_knot v1 v2 st = some res) (K : kEnd Z (some .int) (some (.int res.1)) res.2) : kV Z 3 0 [(0, kr Z 0), (1, .int v1), (2, .int v2)] [] st := by
  unfold fX5_knot at hf
  refine k_iload_n C 1 dX5_knot_0 rfl rfl rfl ?_
  obtain ⟨q1, e2, hf⟩ := kf_b hf
  refine k_callS C [.int v1] (mX5_isKind e2) kw_2_45 kw_2_46 kw_1_1 kw_2_47 qX5_isKind rfl ⟨by decide, by decide⟩ ⟨rfl, rfl⟩ (Nat.le_of_ble_eq_true rfl) dX5_knot_1 rfl ?_ rfl
  refine (show kV Z 3 4 [(0, kr Z 0), (1, .int v1), (2, .int v2)] [.int q1.1] q1.2 from ?_)
  refine k_if_eq C 14 dX5_knot_4 rfl rfl (fun b3 => ?_) (fun b3 => ?_)
  · replace hf := kf_t hf b3
    refine k_aload_n C 0 dX5_knot_14 rfl rfl rfl ?_
    refine k_ldc C (-1000000001 : Int32) kw_1_192 dX5_knot_15 rfl ?_
    obtain ⟨q4, e5, hf⟩ := kf_b hf
    refine k_callV C [.int (-1000000001 : Int32)] (mX5_tell e5) rfl (by decide) rfl kw_1_193 kw_1_195 kw_0_0 kw_1_1 kw_1_196 qX5_tell rfl ⟨by decide, by decide⟩ ⟨rfl, rfl⟩ (Nat.le_of_ble_eq_true rfl) dX5_knot_17 rfl ?_ rfl
    refine (show kV Z 3 20 [(0, kr Z 0), (1, .int v1), (2, .int v2)] [.int q4.1] q4.2 from ?_)
    exact k_iret C K hf dX5_knot_20
  · replace hf := kf_f hf b3
    refine k_iload_n C 2 dX5_knot_7 rfl rfl rfl ?_
    obtain ⟨q6, e7, hf⟩ := kf_b hf
    refine k_callS C [.int v2] (mX5_isMast e7) kw_1_201 kw_1_202 kw_1_1 kw_1_203 qX5_isMast rfl ⟨by decide, by decide⟩ ⟨rfl, rfl⟩ (Nat.le_of_ble_eq_true rfl) dX5_knot_8 rfl ?_ rfl
    refine (show kV Z 3 11 [(0, kr Z 0), (1, .int v1), (2, .int v2)] [.int q6.1] q6.2 from ?_)
    refine k_if_ne C 21 dX5_knot_11 rfl rfl (fun b8 => ?_) (fun b8 => ?_)
    · replace hf := kf_f hf b8
      refine k_aload_n C 0 dX5_knot_21 rfl rfl rfl ?_
      refine g_X5_present C rfl kw_1_160 dX5_knot_22 rfl ?_
      obtain ⟨q9, e10, hf⟩ := kf_b hf
      refine k_callV C [] (mX4_isFull yd_1 e10) (yd_4 yd_1) (by decide) rfl kw_2_48 kw_2_49 kw_2_50 kw_1_2 kw_2_51 qX4_isFull rfl ⟨by decide, by decide⟩ ⟨rfl, rfl⟩ (Nat.le_of_ble_eq_true rfl) dX5_knot_25 rfl ?_ rfl
      refine (show kV Z 3 28 [(0, kr Z 0), (1, .int v1), (2, .int v2)] [.int q9.1] q9.2 from ?_)
      refine k_if_eq C 38 dX5_knot_28 rfl rfl (fun b11 => ?_) (fun b11 => ?_)
      · replace hf := kf_t hf b11
        refine k_aload_n C 0 dX5_knot_38 rfl rfl rfl ?_
        refine g_X5_present C rfl kw_1_160 dX5_knot_39 rfl ?_
        refine k_iload_n C 1 dX5_knot_42 rfl rfl rfl ?_
        refine k_iload_n C 2 dX5_knot_43 rfl rfl rfl ?_
        obtain ⟨q12, e13, hf⟩ := kf_b hf
        refine k_callV C [.int v1, .int v2] (mX4_addKnot yd_1 e13) (yd_4 yd_1) (by decide) rfl kw_2_53 kw_2_54 kw_2_55 kw_1_2 kw_2_56 qX4_addKnot rfl ⟨by decide, by decide⟩ ⟨rfl, rfl⟩ (Nat.le_of_ble_eq_true rfl) dX5_knot_44 rfl ?_ rfl
        refine (show kV Z 3 47 [(0, kr Z 0), (1, .int v1), (2, .int v2)] [.int q12.1] q12.2 from ?_)
        exact k_iret C K hf dX5_knot_47
      · replace hf := kf_f hf b11
        refine k_aload_n C 0 dX5_knot_31 rfl rfl rfl ?_
        refine k_ldc C (-1000000002 : Int32) kw_2_52 dX5_knot_32 rfl ?_
        obtain ⟨q14, e15, hf⟩ := kf_b hf
        refine k_callV C [.int (-1000000002 : Int32)] (mX5_tell e15) rfl (by decide) rfl kw_1_193 kw_1_195 kw_0_0 kw_1_1 kw_1_196 qX5_tell rfl ⟨by decide, by decide⟩ ⟨rfl, rfl⟩ (Nat.le_of_ble_eq_true rfl) dX5_knot_34 rfl ?_ rfl
        refine (show kV Z 3 37 [(0, kr Z 0), (1, .int v1), (2, .int v2)] [.int q14.1] q14.2 from ?_)
        exact k_iret C K hf dX5_knot_37
    · replace hf := kf_t hf b8
      refine k_aload_n C 0 dX5_knot_14 rfl rfl rfl ?_
      refine k_ldc C (-1000000001 : Int32) kw_1_192 dX5_knot_15 rfl ?_
      obtain ⟨q16, e17, hf⟩ := kf_b hf
      refine k_callV C [.int (-1000000001 : Int32)] (mX5_tell e17) rfl (by decide) rfl kw_1_193 kw_1_195 kw_0_0 kw_1_1 kw_1_196 qX5_tell rfl ⟨by decide, by decide⟩ ⟨rfl, rfl⟩ (Nat.le_of_ble_eq_true rfl) dX5_knot_17 rfl ?_ rfl
      refine (show kV Z 3 20 [(0, kr Z 0), (1, .int v1), (2, .int v2)] [.int q16.1] q16.2 from ?_)
      exact k_iret C K hf dX5_knot_20
theorem mX5_knot {G : kG} {v1 : Int32} {v2 : Int32}  {st : kM} {res : Int32 × kM} (hf : fX5_knot v1 v2 st = some res) : kCt G yX5_knot cX5_knot 3 (some .int) rmX5_knot [.ref (G.2.1 0), .int v1, .int v2] st (some (.int res.1)) res.2 := kMet (by decide) (Nat.le_of_ble_eq_true rfl) ⟨rfl, rfl⟩ (fun X A Q C K => tX5_knot C  hf K)
theorem qX5_knot : yX5_knot.cls = RX5 ∧ yX5_knot.cls ≠ "java/lang/invoke/MethodHandle" ∧ yX5_knot.cls ≠ "java/lang/invoke/VarHandle" ∧ (parseMethodDescriptor yX5_knot.desc).map (fun d => d.parameters.length) = some 2 := ⟨rfl, by decide, by decide, by decide +kernel⟩
-- TalkKnots.isKnot(I)Z
def rmX5_isKnot : Room := { frames := 1, cells := 0, slots := 0, locals := 22 }
def fX5_isKnot (v1 : Int32) (st : kM) : Option (Int32 × kM) :=
  (fX5_isWithin v1 (0 : Int32) ((st.1 1 1) - (1 : Int32)) st).bind fun q1 => (if q1.1 = 0 ∨ q1.1 = 1 then some (q1.1, q1.2) else none)
set_option maxRecDepth 100000 in
theorem tX5_isKnot {Z : kZ} (C : kC Z cX5_isKnot RX5 2 rmX5_isKnot) {v1 : Int32}  {st : kM} {res : Int32 × kM} (hf : fX5_isKnot v1 st = some res) (K : kEnd Z (some .boolean) (some (.int res.1)) res.2) : kV Z 2 0 [(0, kr Z 0), (1, .int v1)] [] st := by
  unfold fX5_isKnot at hf
  refine k_iload_n C 1 dX5_isKnot_0 rfl rfl rfl ?_
  refine k_iconst C (0 : Int32) dX5_isKnot_1 (by decide) rfl ?_
  refine k_aload_n C 0 dX5_isKnot_2 rfl rfl rfl ?_
  refine g_X5_present C rfl kw_1_160 dX5_isKnot_3 rfl ?_
  refine g_X4_count C (yd_4 yd_1) kw_1_68 dX5_isKnot_6 rfl ?_
  refine k_iconst C (1 : Int32) dX5_isKnot_9 (by decide) rfl ?_
  refine k_isub C dX5_isKnot_10 rfl ?_
  obtain ⟨q1, e2, hf⟩ := kf_b hf
  refine k_callS C [.int v1, .int (0 : Int32), .int ((st.1 1 1) - (1 : Int32))] (mX5_isWithin e2) kw_1_189 kw_1_190 kw_1_1 kw_1_191 qX5_isWithin rfl ⟨by decide, by decide⟩ ⟨rfl, rfl⟩ (Nat.le_of_ble_eq_true rfl) dX5_isKnot_11 rfl ?_ rfl
  refine (show kV Z 2 14 [(0, kr Z 0), (1, .int v1)] [.int q1.1] q1.2 from ?_)
  obtain ⟨g0, hf⟩ := kf_y hf
  exact k_zret C K hf (kb_n g0) dX5_isKnot_14
theorem mX5_isKnot {G : kG} {v1 : Int32}  {st : kM} {res : Int32 × kM} (hf : fX5_isKnot v1 st = some res) : kCt G yX5_isKnot cX5_isKnot 2 (some .boolean) rmX5_isKnot [.ref (G.2.1 0), .int v1] st (some (.int res.1)) res.2 := kMet (by decide) (Nat.le_of_ble_eq_true rfl) ⟨rfl, rfl⟩ (fun X A Q C K => tX5_isKnot C  hf K)
theorem qX5_isKnot : yX5_isKnot.cls = RX5 ∧ yX5_isKnot.cls ≠ "java/lang/invoke/MethodHandle" ∧ yX5_isKnot.cls ≠ "java/lang/invoke/VarHandle" ∧ (parseMethodDescriptor yX5_isKnot.desc).map (fun d => d.parameters.length) = some 1 := ⟨rfl, by decide, by decide, by decide +kernel⟩
-- TalkKnots.of(II)I
def rmX5_of : Room := { frames := 4, cells := 0, slots := 0, locals := 87 }
def fX5_of (v1 : Int32) (v2 : Int32) (st : kM) : Option (Int32 × kM) :=
  (fX5_isKnot v1 st).bind fun q1 => (if q1.1 = 0 then ((fX5_tell (-1000000001 : Int32) q1.2).bind fun q28 => (some (q28.1, q28.2))) else (if v1 < 0 ∨ 10 ≤ v1.toNatClampNeg then none else (if v2 = (0 : Int32) then (some ((q1.2.1 (1 + 5 + v1.toNatClampNeg) 0), q1.2)) else (if v2 = (1 : Int32) then (some ((q1.2.1 (1 + 5 + v1.toNatClampNeg) 1), q1.2)) else (if v2 = (2 : Int32) then (some ((q1.2.1 (1 + 5 + v1.toNatClampNeg) 2), q1.2)) else (if v2 = (3 : Int32) then (if (q1.2.1 (1 + 5 + v1.toNatClampNeg) 4) = 0 then (some ((0 : Int32), q1.2)) else (some ((1 : Int32), q1.2))) else (if v2 = (4 : Int32) then (some ((q1.2.1 (1 + 5 + v1.toNatClampNeg) 3), q1.2)) else (if v2 = (5 : Int32) then ((fX4_holdingOf 1 (1 + 5 + v1.toNatClampNeg) q1.2).bind fun q12 => (some (q12.1, q12.2))) else (if v2 = (6 : Int32) then ((fX4_windNow 1 q1.2).bind fun q15 => ((fX0_settling (1 + 5 + v1.toNatClampNeg) q15.1 q15.2).bind fun q17 => (some (((100 : Int32) + q17.1), q17.2)))) else (if v2 = (7 : Int32) then ((fX0_teasing (1 + 5 + v1.toNatClampNeg) q1.2).bind fun q20 => (some (((100 : Int32) + q20.1), q20.2))) else (if v2 = (8 : Int32) then ((fX4_wouldGive 1 (1 + 5 + v1.toNatClampNeg) q1.2).bind fun q23 => (if q23.1 = 0 then (some ((0 : Int32), q23.2)) else (some ((1 : Int32), q23.2)))) else ((fX5_tell (-1000000001 : Int32) q1.2).bind fun q26 => (some (q26.1, q26.2))))))))))))))
set_option maxRecDepth 100000 in
theorem tX5_of {Z : kZ} (C : kC Z cX5_of RX5 4 rmX5_of) {v1 : Int32} {v2 : Int32}  {st : kM} {res : Int32 × kM} (hf : fX5_of v1 v2 st = some res) (K : kEnd Z (some .int) (some (.int res.1)) res.2) : kV Z 4 0 [(0, kr Z 0), (1, .int v1), (2, .int v2)] [] st := by
  unfold fX5_of at hf
  refine k_aload_n C 0 dX5_of_0 rfl rfl rfl ?_
  refine k_iload_n C 1 dX5_of_1 rfl rfl rfl ?_
  obtain ⟨q1, e2, hf⟩ := kf_b hf
  refine k_callV C [.int v1] (mX5_isKnot e2) rfl (by decide) rfl kw_2_65 kw_2_67 kw_0_5 kw_1_1 kw_2_68 qX5_isKnot rfl ⟨by decide, by decide⟩ ⟨rfl, rfl⟩ (Nat.le_of_ble_eq_true rfl) dX5_of_2 rfl ?_ rfl
  refine (show kV Z 4 5 [(0, kr Z 0), (1, .int v1), (2, .int v2)] [.int q1.1] q1.2 from ?_)
  refine k_if_ne C 15 dX5_of_5 rfl rfl (fun b3 => ?_) (fun b3 => ?_)
  · replace hf := kf_f hf b3
    refine k_aload_n C 0 dX5_of_15 rfl rfl rfl ?_
    refine g_X5_present C rfl kw_1_160 dX5_of_16 rfl ?_
    refine g_X4_knots C (yd_4 yd_1) kw_1_79 dX5_of_19 rfl ?_
    refine k_iload_n C 1 dX5_of_22 rfl rfl rfl ?_
    obtain ⟨g4, hf⟩ := kf_g hf
    refine k_aldK C yd_1 g4 dX5_of_23 rfl ?_
    refine k_astore_n (lv' := [(3, kr Z (1 + 5 + v1.toNatClampNeg)), (0, kr Z 0), (1, .int v1), (2, .int v2)]) C dX5_of_24 rfl (by decide) rfl rfl ?_
    refine k_iload_n C 3 dX5_of_25 rfl rfl rfl ?_
    by_cases b5 : v2 = (0 : Int32)
    · replace hf := kf_t hf b5
      refine k_tabIn C 76 dX5_of_26 (by rw [b5]; decide) (by rw [b5]; decide) (by rw [b5]; rfl) rfl ?_
      refine k_aload_n C 0 dX5_of_76 rfl rfl rfl ?_
      refine g_X0_kind C (yd_n yd_1 (vi_lt g4)) kw_1_37 dX5_of_77 rfl ?_
      exact k_iret C K hf dX5_of_80
    · replace hf := kf_f hf b5
      by_cases b6 : v2 = (1 : Int32)
      · replace hf := kf_t hf b6
        refine k_tabIn C 81 dX5_of_26 (by rw [b6]; decide) (by rw [b6]; decide) (by rw [b6]; rfl) rfl ?_
        refine k_aload_n C 0 dX5_of_81 rfl rfl rfl ?_
        refine g_X0_mast C (yd_n yd_1 (vi_lt g4)) kw_1_39 dX5_of_82 rfl ?_
        exact k_iret C K hf dX5_of_85
      · replace hf := kf_f hf b6
        by_cases b7 : v2 = (2 : Int32)
        · replace hf := kf_t hf b7
          refine k_tabIn C 86 dX5_of_26 (by rw [b7]; decide) (by rw [b7]; decide) (by rw [b7]; rfl) rfl ?_
          refine k_aload_n C 0 dX5_of_86 rfl rfl rfl ?_
          refine g_X0_open C (yd_n yd_1 (vi_lt g4)) kw_1_43 dX5_of_87 rfl ?_
          exact k_iret C K hf dX5_of_90
        · replace hf := kf_f hf b7
          by_cases b8 : v2 = (3 : Int32)
          · replace hf := kf_t hf b8
            refine k_tabIn C 91 dX5_of_26 (by rw [b8]; decide) (by rw [b8]; decide) (by rw [b8]; rfl) rfl ?_
            refine k_aload_n C 0 dX5_of_91 rfl rfl rfl ?_
            refine g_X0_fast C (yd_n yd_1 (vi_lt g4)) kw_1_50 dX5_of_92 rfl ?_
            refine k_if_eq C 102 dX5_of_95 rfl rfl (fun b9 => ?_) (fun b9 => ?_)
            · replace hf := kf_t hf b9
              refine k_iconst C (0 : Int32) dX5_of_102 (by decide) rfl ?_
              exact k_iret C K hf dX5_of_103
            · replace hf := kf_f hf b9
              refine k_iconst C (1 : Int32) dX5_of_98 (by decide) rfl ?_
              refine k_goto C 103 dX5_of_99 rfl ?_
              exact k_iret C K hf dX5_of_103
          · replace hf := kf_f hf b8
            by_cases b10 : v2 = (4 : Int32)
            · replace hf := kf_t hf b10
              refine k_tabIn C 104 dX5_of_26 (by rw [b10]; decide) (by rw [b10]; decide) (by rw [b10]; rfl) rfl ?_
              refine k_aload_n C 0 dX5_of_104 rfl rfl rfl ?_
              refine g_X0_age C (yd_n yd_1 (vi_lt g4)) kw_1_46 dX5_of_105 rfl ?_
              exact k_iret C K hf dX5_of_108
            · replace hf := kf_f hf b10
              by_cases b11 : v2 = (5 : Int32)
              · replace hf := kf_t hf b11
                refine k_tabIn C 109 dX5_of_26 (by rw [b11]; decide) (by rw [b11]; decide) (by rw [b11]; rfl) rfl ?_
                refine k_aload_n C 1 dX5_of_109 rfl rfl rfl ?_
                refine g_X5_present C rfl kw_1_160 dX5_of_110 rfl ?_
                refine k_aload_n C 0 dX5_of_113 rfl rfl rfl ?_
                obtain ⟨q12, e13, hf⟩ := kf_b hf
                refine k_callV C [kr Z (1 + 5 + v1.toNatClampNeg)] (mX4_holdingOf yd_1 (yd_n yd_1 (vi_lt g4)) e13) (yd_4 yd_1) (by decide) rfl kw_2_69 kw_2_13 kw_2_14 kw_1_2 kw_2_15 qX4_holdingOf rfl ⟨by decide, by decide⟩ ⟨rfl, rfl⟩ (Nat.le_of_ble_eq_true rfl) dX5_of_114 rfl ?_ rfl
                refine (show kV Z 4 117 [(3, kr Z (1 + 5 + v1.toNatClampNeg)), (0, kr Z 0), (1, .int v1), (2, .int v2)] [.int q12.1] q12.2 from ?_)
                exact k_iret C K hf dX5_of_117
              · replace hf := kf_f hf b11
                by_cases b14 : v2 = (6 : Int32)
                · replace hf := kf_t hf b14
                  refine k_tabIn C 118 dX5_of_26 (by rw [b14]; decide) (by rw [b14]; decide) (by rw [b14]; rfl) rfl ?_
                  refine k_bipush C (100 : Int32) dX5_of_118 (by decide) rfl ?_
                  refine k_aload_n C 0 dX5_of_120 rfl rfl rfl ?_
                  refine k_aload_n C 1 dX5_of_121 rfl rfl rfl ?_
                  refine g_X5_present C rfl kw_1_160 dX5_of_122 rfl ?_
                  obtain ⟨q15, e16, hf⟩ := kf_b hf
                  refine k_callV C [] (mX4_windNow yd_1 e16) (yd_4 yd_1) (by decide) rfl kw_2_36 kw_1_237 kw_1_238 kw_1_2 kw_1_239 qX4_windNow rfl ⟨by decide, by decide⟩ ⟨rfl, rfl⟩ (Nat.le_of_ble_eq_true rfl) dX5_of_125 rfl ?_ rfl
                  refine (show kV Z 4 128 [(3, kr Z (1 + 5 + v1.toNatClampNeg)), (0, kr Z 0), (1, .int v1), (2, .int v2)] [.int q15.1, kr Z (1 + 5 + v1.toNatClampNeg), .int (100 : Int32)] q15.2 from ?_)
                  obtain ⟨q17, e18, hf⟩ := kf_b hf
                  refine k_callV C [.int q15.1] (mX0_settling (yd_n yd_1 (vi_lt g4)) e18) (yd_n yd_1 (vi_lt g4)) (by decide) rfl kw_2_70 kw_2_71 kw_2_72 kw_1_3 kw_2_73 qX0_settling rfl ⟨by decide, by decide⟩ ⟨rfl, rfl⟩ (Nat.le_of_ble_eq_true rfl) dX5_of_128 rfl ?_ rfl
                  refine (show kV Z 4 131 [(3, kr Z (1 + 5 + v1.toNatClampNeg)), (0, kr Z 0), (1, .int v1), (2, .int v2)] [.int q17.1, .int (100 : Int32)] q17.2 from ?_)
                  refine k_iadd C dX5_of_131 rfl ?_
                  exact k_iret C K hf dX5_of_132
                · replace hf := kf_f hf b14
                  by_cases b19 : v2 = (7 : Int32)
                  · replace hf := kf_t hf b19
                    refine k_tabIn C 133 dX5_of_26 (by rw [b19]; decide) (by rw [b19]; decide) (by rw [b19]; rfl) rfl ?_
                    refine k_bipush C (100 : Int32) dX5_of_133 (by decide) rfl ?_
                    refine k_aload_n C 0 dX5_of_135 rfl rfl rfl ?_
                    obtain ⟨q20, e21, hf⟩ := kf_b hf
                    refine k_callV C [] (mX0_teasing (yd_n yd_1 (vi_lt g4)) e21) (yd_n yd_1 (vi_lt g4)) (by decide) rfl kw_2_74 kw_2_75 kw_2_76 kw_1_3 kw_2_77 qX0_teasing rfl ⟨by decide, by decide⟩ ⟨rfl, rfl⟩ (Nat.le_of_ble_eq_true rfl) dX5_of_136 rfl ?_ rfl
                    refine (show kV Z 4 139 [(3, kr Z (1 + 5 + v1.toNatClampNeg)), (0, kr Z 0), (1, .int v1), (2, .int v2)] [.int q20.1, .int (100 : Int32)] q20.2 from ?_)
                    refine k_iadd C dX5_of_139 rfl ?_
                    exact k_iret C K hf dX5_of_140
                  · replace hf := kf_f hf b19
                    by_cases b22 : v2 = (8 : Int32)
                    · replace hf := kf_t hf b22
                      refine k_tabIn C 141 dX5_of_26 (by rw [b22]; decide) (by rw [b22]; decide) (by rw [b22]; rfl) rfl ?_
                      refine k_aload_n C 1 dX5_of_141 rfl rfl rfl ?_
                      refine g_X5_present C rfl kw_1_160 dX5_of_142 rfl ?_
                      refine k_aload_n C 0 dX5_of_145 rfl rfl rfl ?_
                      obtain ⟨q23, e24, hf⟩ := kf_b hf
                      refine k_callV C [kr Z (1 + 5 + v1.toNatClampNeg)] (mX4_wouldGive yd_1 (yd_n yd_1 (vi_lt g4)) e24) (yd_4 yd_1) (by decide) rfl kw_2_78 kw_2_79 kw_2_80 kw_1_2 kw_2_81 qX4_wouldGive rfl ⟨by decide, by decide⟩ ⟨rfl, rfl⟩ (Nat.le_of_ble_eq_true rfl) dX5_of_146 rfl ?_ rfl
                      refine (show kV Z 4 149 [(3, kr Z (1 + 5 + v1.toNatClampNeg)), (0, kr Z 0), (1, .int v1), (2, .int v2)] [.int q23.1] q23.2 from ?_)
                      refine k_if_eq C 156 dX5_of_149 rfl rfl (fun b25 => ?_) (fun b25 => ?_)
                      · replace hf := kf_t hf b25
                        refine k_iconst C (0 : Int32) dX5_of_156 (by decide) rfl ?_
                        exact k_iret C K hf dX5_of_157
                      · replace hf := kf_f hf b25
                        refine k_iconst C (1 : Int32) dX5_of_152 (by decide) rfl ?_
                        refine k_goto C 157 dX5_of_153 rfl ?_
                        exact k_iret C K hf dX5_of_157
                    · replace hf := kf_f hf b22
                      have zb5 := ti_ne (0 : Int32) b5 (z := 0) rfl
                      have zb6 := ti_ne (1 : Int32) b6 (z := 1) rfl
                      have zb7 := ti_ne (2 : Int32) b7 (z := 2) rfl
                      have zb8 := ti_ne (3 : Int32) b8 (z := 3) rfl
                      have zb10 := ti_ne (4 : Int32) b10 (z := 4) rfl
                      have zb11 := ti_ne (5 : Int32) b11 (z := 5) rfl
                      have zb14 := ti_ne (6 : Int32) b14 (z := 6) rfl
                      have zb19 := ti_ne (7 : Int32) b19 (z := 7) rfl
                      have zb22 := ti_ne (8 : Int32) b22 (z := 8) rfl
                      refine k_tabOut C 158 dX5_of_26 (by omega) rfl ?_
                      refine k_aload_n C 1 dX5_of_158 rfl rfl rfl ?_
                      refine k_ldc C (-1000000001 : Int32) kw_1_192 dX5_of_159 rfl ?_
                      obtain ⟨q26, e27, hf⟩ := kf_b hf
                      refine k_callV C [.int (-1000000001 : Int32)] (mX5_tell e27) rfl (by decide) rfl kw_1_193 kw_1_195 kw_0_0 kw_1_1 kw_1_196 qX5_tell rfl ⟨by decide, by decide⟩ ⟨rfl, rfl⟩ (Nat.le_of_ble_eq_true rfl) dX5_of_161 rfl ?_ rfl
                      refine (show kV Z 4 164 [(3, kr Z (1 + 5 + v1.toNatClampNeg)), (0, kr Z 0), (1, .int v1), (2, .int v2)] [.int q26.1] q26.2 from ?_)
                      exact k_iret C K hf dX5_of_164
  · replace hf := kf_t hf b3
    refine k_aload_n C 0 dX5_of_8 rfl rfl rfl ?_
    refine k_ldc C (-1000000001 : Int32) kw_1_192 dX5_of_9 rfl ?_
    obtain ⟨q28, e29, hf⟩ := kf_b hf
    refine k_callV C [.int (-1000000001 : Int32)] (mX5_tell e29) rfl (by decide) rfl kw_1_193 kw_1_195 kw_0_0 kw_1_1 kw_1_196 qX5_tell rfl ⟨by decide, by decide⟩ ⟨rfl, rfl⟩ (Nat.le_of_ble_eq_true rfl) dX5_of_11 rfl ?_ rfl
    refine (show kV Z 4 14 [(0, kr Z 0), (1, .int v1), (2, .int v2)] [.int q28.1] q28.2 from ?_)
    exact k_iret C K hf dX5_of_14
theorem mX5_of {G : kG} {v1 : Int32} {v2 : Int32}  {st : kM} {res : Int32 × kM} (hf : fX5_of v1 v2 st = some res) : kCt G yX5_of cX5_of 4 (some .int) rmX5_of [.ref (G.2.1 0), .int v1, .int v2] st (some (.int res.1)) res.2 := kMet (by decide) (Nat.le_of_ble_eq_true rfl) ⟨rfl, rfl⟩ (fun X A Q C K => tX5_of C  hf K)
theorem qX5_of : yX5_of.cls = RX5 ∧ yX5_of.cls ≠ "java/lang/invoke/MethodHandle" ∧ yX5_of.cls ≠ "java/lang/invoke/VarHandle" ∧ (parseMethodDescriptor yX5_of.desc).map (fun d => d.parameters.length) = some 2 := ⟨rfl, by decide, by decide, by decide +kernel⟩
