-- TalkKnots.set(III)I
def rmX5_set : Room := { frames := 2, cells := 0, slots := 0, locals := 44 }
def fX5_set_85 (x2 : Int32) (x3 : Int32) (x4 : Nat) (st : kM) : Option (Int32 × kM) :=
  if x2 = (4 : Int32) then ((fX5_isWithin x3 (0 : Int32) (9999 : Int32) st).bind fun q4 => (if q4.1 = 0 then ((fX5_tell (-1000000001 : Int32) q4.2).bind fun q7 => (some (q7.1, q7.2))) else ((some (q4.2.1 x4 3)).bind fun z9 => ((some (kwr q4.2 x4 3 x3)).bind fun s11 => (some (z9, s11)))))) else ((fX5_tell (-1000000001 : Int32) st).bind fun q2 => (some (q2.1, q2.2)))
def fX5_set_54 (x2 : Int32) (x3 : Int32) (x4 : Nat) (st : kM) : Option (Int32 × kM) :=
  if x2 = (2 : Int32) then ((fX5_isWithin x3 (0 : Int32) (99 : Int32) st).bind fun q2 => (if q2.1 = 0 then (fX5_set_85 x2 x3 x4 q2.2) else ((some (q2.2.1 x4 2)).bind fun z5 => ((some (kwr q2.2 x4 2 x3)).bind fun s7 => (some (z5, s7)))))) else (fX5_set_85 x2 x3 x4 st)
def fX5_set (v1 : Int32) (v2 : Int32) (v3 : Int32) (st : kM) : Option (Int32 × kM) :=
  (fX5_isKnot v1 st).bind fun q1 => (if q1.1 = 0 then ((fX5_tell (-1000000001 : Int32) q1.2).bind fun q13 => (some (q13.1, q13.2))) else (if v1 < 0 ∨ 10 ≤ v1.toNatClampNeg then none else (if v2 = (1 : Int32) then ((fX5_isMast v3 q1.2).bind fun q6 => (if q6.1 = 0 then (fX5_set_54 v2 v3 (1 + 5 + v1.toNatClampNeg) q6.2) else ((some (q6.2.1 (1 + 5 + v1.toNatClampNeg) 1)).bind fun z9 => ((some (kwr q6.2 (1 + 5 + v1.toNatClampNeg) 1 v3)).bind fun s11 => (some (z9, s11)))))) else (fX5_set_54 v2 v3 (1 + 5 + v1.toNatClampNeg) q1.2))))
set_option maxRecDepth 100000 in
theorem tX5_set_85 {Z : kZ} (C : kC Z cX5_set RX5 6 rmX5_set) {res : Int32 × kM} (K : kEnd Z (some .int) (some (.int res.1)) res.2) : ∀ (x2 : Int32) (x3 : Int32) (x4 : Nat) (st : kM), (hx4 : kd x4 = 0) → fX5_set_85 x2 x3 x4 st = some res → kV Z 6 85 [(0, kr Z 0), (2, .int x2), (3, .int x3), (4, kr Z x4)] [] st := by
  intro x2 x3 x4 st hx4 hf
  unfold fX5_set_85 at hf
  refine k_iload_n C 1 dX5_set_85 rfl rfl rfl ?_
  refine k_iconst C (4 : Int32) dX5_set_86 (by decide) rfl ?_
  refine k_icmp_ne C 117 dX5_set_87 rfl rfl (fun b1 => ?_) (fun b1 => ?_)
  · replace hf := kf_f hf b1
    refine k_aload_n C 0 dX5_set_117 rfl rfl rfl ?_
    refine k_ldc C (-1000000001 : Int32) kw_1_192 dX5_set_118 rfl ?_
    obtain ⟨q2, e3, hf⟩ := kf_b hf
    refine k_callV C [.int (-1000000001 : Int32)] (mX5_tell e3) rfl (by decide) rfl kw_1_193 kw_1_195 kw_0_0 kw_1_1 kw_1_196 qX5_tell rfl ⟨by decide, by decide⟩ ⟨rfl, rfl⟩ (Nat.le_of_ble_eq_true rfl) dX5_set_120 rfl ?_ rfl
    refine (show kV Z 6 123 [(0, kr Z 0), (2, .int x2), (3, .int x3), (4, kr Z x4)] [.int q2.1] q2.2 from ?_)
    exact k_iret C K hf dX5_set_123
  · replace hf := kf_t hf b1
    refine k_iload_n C 2 dX5_set_90 rfl rfl rfl ?_
    refine k_iconst C (0 : Int32) dX5_set_91 (by decide) rfl ?_
    refine k_sipush C (9999 : Int32) dX5_set_92 (by decide) rfl ?_
    obtain ⟨q4, e5, hf⟩ := kf_b hf
    refine k_callS C [.int x3, .int (0 : Int32), .int (9999 : Int32)] (mX5_isWithin e5) kw_1_189 kw_1_190 kw_1_1 kw_1_191 qX5_isWithin rfl ⟨by decide, by decide⟩ ⟨rfl, rfl⟩ (Nat.le_of_ble_eq_true rfl) dX5_set_95 rfl ?_ rfl
    refine (show kV Z 6 98 [(0, kr Z 0), (2, .int x2), (3, .int x3), (4, kr Z x4)] [.int q4.1] q4.2 from ?_)
    refine k_if_eq C 117 dX5_set_98 rfl rfl (fun b6 => ?_) (fun b6 => ?_)
    · replace hf := kf_t hf b6
      refine k_aload_n C 0 dX5_set_117 rfl rfl rfl ?_
      refine k_ldc C (-1000000001 : Int32) kw_1_192 dX5_set_118 rfl ?_
      obtain ⟨q7, e8, hf⟩ := kf_b hf
      refine k_callV C [.int (-1000000001 : Int32)] (mX5_tell e8) rfl (by decide) rfl kw_1_193 kw_1_195 kw_0_0 kw_1_1 kw_1_196 qX5_tell rfl ⟨by decide, by decide⟩ ⟨rfl, rfl⟩ (Nat.le_of_ble_eq_true rfl) dX5_set_120 rfl ?_ rfl
      refine (show kV Z 6 123 [(0, kr Z 0), (2, .int x2), (3, .int x3), (4, kr Z x4)] [.int q7.1] q7.2 from ?_)
      exact k_iret C K hf dX5_set_123
    · replace hf := kf_f hf b6
      refine k_aload C 3 dX5_set_101 rfl rfl ?_
      refine g_X0_age C hx4 kw_1_46 dX5_set_103 rfl ?_
      obtain ⟨z9, e10, hf⟩ := kf_b hf
      refine k_topi e10 ?_
      refine k_istore (lv' := [(5, .int z9), (0, kr Z 0), (2, .int x2), (3, .int x3), (4, kr Z x4)]) C dX5_set_106 (by decide) rfl rfl ?_
      refine k_aload C 4 dX5_set_108 rfl rfl ?_
      refine k_iload_n C 3 dX5_set_110 rfl rfl rfl ?_
      refine p_X0_age C hx4 kw_1_46 dX5_set_111 rfl ?_
      obtain ⟨s11, e12, hf⟩ := kf_b hf
      refine k_st e12 ?_
      refine k_iload C 0 dX5_set_114 rfl rfl ?_
      exact k_iret C K hf dX5_set_116
set_option maxRecDepth 100000 in
theorem tX5_set_54 {Z : kZ} (C : kC Z cX5_set RX5 6 rmX5_set) {res : Int32 × kM} (K : kEnd Z (some .int) (some (.int res.1)) res.2) : ∀ (x2 : Int32) (x3 : Int32) (x4 : Nat) (st : kM), (hx4 : kd x4 = 0) → fX5_set_54 x2 x3 x4 st = some res → kV Z 6 54 [(0, kr Z 0), (2, .int x2), (3, .int x3), (4, kr Z x4)] [] st := by
  intro x2 x3 x4 st hx4 hf
  unfold fX5_set_54 at hf
  refine k_iload_n C 1 dX5_set_54 rfl rfl rfl ?_
  refine k_iconst C (2 : Int32) dX5_set_55 (by decide) rfl ?_
  refine k_icmp_ne C 85 dX5_set_56 rfl rfl (fun b1 => ?_) (fun b1 => ?_)
  · replace hf := kf_f hf b1
    exact tX5_set_85 C K x2 x3 x4 st hx4 hf
  · replace hf := kf_t hf b1
    refine k_iload_n C 2 dX5_set_59 rfl rfl rfl ?_
    refine k_iconst C (0 : Int32) dX5_set_60 (by decide) rfl ?_
    refine k_bipush C (99 : Int32) dX5_set_61 (by decide) rfl ?_
    obtain ⟨q2, e3, hf⟩ := kf_b hf
    refine k_callS C [.int x3, .int (0 : Int32), .int (99 : Int32)] (mX5_isWithin e3) kw_1_189 kw_1_190 kw_1_1 kw_1_191 qX5_isWithin rfl ⟨by decide, by decide⟩ ⟨rfl, rfl⟩ (Nat.le_of_ble_eq_true rfl) dX5_set_63 rfl ?_ rfl
    refine (show kV Z 6 66 [(0, kr Z 0), (2, .int x2), (3, .int x3), (4, kr Z x4)] [.int q2.1] q2.2 from ?_)
    refine k_if_eq C 85 dX5_set_66 rfl rfl (fun b4 => ?_) (fun b4 => ?_)
    · replace hf := kf_t hf b4
      exact tX5_set_85 C K x2 x3 x4 q2.2 hx4 hf
    · replace hf := kf_f hf b4
      refine k_aload C 3 dX5_set_69 rfl rfl ?_
      refine g_X0_open C hx4 kw_1_43 dX5_set_71 rfl ?_
      obtain ⟨z5, e6, hf⟩ := kf_b hf
      refine k_topi e6 ?_
      refine k_istore (lv' := [(5, .int z5), (0, kr Z 0), (2, .int x2), (3, .int x3), (4, kr Z x4)]) C dX5_set_74 (by decide) rfl rfl ?_
      refine k_aload C 4 dX5_set_76 rfl rfl ?_
      refine k_iload_n C 3 dX5_set_78 rfl rfl rfl ?_
      refine p_X0_open C hx4 kw_1_43 dX5_set_79 rfl ?_
      obtain ⟨s7, e8, hf⟩ := kf_b hf
      refine k_st e8 ?_
      refine k_iload C 0 dX5_set_82 rfl rfl ?_
      exact k_iret C K hf dX5_set_84
set_option maxRecDepth 100000 in
theorem tX5_set {Z : kZ} (C : kC Z cX5_set RX5 6 rmX5_set) {v1 : Int32} {v2 : Int32} {v3 : Int32}  {st : kM} {res : Int32 × kM} (hf : fX5_set v1 v2 v3 st = some res) (K : kEnd Z (some .int) (some (.int res.1)) res.2) : kV Z 6 0 [(0, kr Z 0), (1, .int v1), (2, .int v2), (3, .int v3)] [] st := by
  unfold fX5_set at hf
  refine k_aload_n C 0 dX5_set_0 rfl rfl rfl ?_
  refine k_iload_n C 1 dX5_set_1 rfl rfl rfl ?_
  obtain ⟨q1, e2, hf⟩ := kf_b hf
  refine k_callV C [.int v1] (mX5_isKnot e2) rfl (by decide) rfl kw_2_65 kw_2_67 kw_0_5 kw_1_1 kw_2_68 qX5_isKnot rfl ⟨by decide, by decide⟩ ⟨rfl, rfl⟩ (Nat.le_of_ble_eq_true rfl) dX5_set_2 rfl ?_ rfl
  refine (show kV Z 6 5 [(0, kr Z 0), (1, .int v1), (2, .int v2), (3, .int v3)] [.int q1.1] q1.2 from ?_)
  refine k_if_ne C 15 dX5_set_5 rfl rfl (fun b3 => ?_) (fun b3 => ?_)
  · replace hf := kf_f hf b3
    refine k_aload_n C 0 dX5_set_15 rfl rfl rfl ?_
    refine g_X5_present C rfl kw_1_160 dX5_set_16 rfl ?_
    refine g_X4_knots C (yd_4 yd_1) kw_1_79 dX5_set_19 rfl ?_
    refine k_iload_n C 1 dX5_set_22 rfl rfl rfl ?_
    obtain ⟨g4, hf⟩ := kf_g hf
    refine k_aldK C yd_1 g4 dX5_set_23 rfl ?_
    refine k_astore (lv' := [(4, kr Z (1 + 5 + v1.toNatClampNeg)), (0, kr Z 0), (1, .int v1), (2, .int v2), (3, .int v3)]) C dX5_set_24 (by decide) rfl rfl ?_
    refine k_iload_n C 3 dX5_set_26 rfl rfl rfl ?_
    refine k_iconst C (1 : Int32) dX5_set_27 (by decide) rfl ?_
    refine k_icmp_ne C 54 dX5_set_28 rfl rfl (fun b5 => ?_) (fun b5 => ?_)
    · replace hf := kf_f hf b5
      refine k_lv (lv' := [(0, kr Z 0), (2, .int v2), (3, .int v3), (4, kr Z (1 + 5 + v1.toNatClampNeg))]) [1, 3, 4, 0] rfl ?_
      exact tX5_set_54 C K v2 v3 (1 + 5 + v1.toNatClampNeg) q1.2 (yd_n yd_1 (vi_lt g4)) hf
    · replace hf := kf_t hf b5
      refine k_iload_n C 4 dX5_set_31 rfl rfl rfl ?_
      obtain ⟨q6, e7, hf⟩ := kf_b hf
      refine k_callS C [.int v3] (mX5_isMast e7) kw_1_201 kw_1_202 kw_1_1 kw_1_203 qX5_isMast rfl ⟨by decide, by decide⟩ ⟨rfl, rfl⟩ (Nat.le_of_ble_eq_true rfl) dX5_set_32 rfl ?_ rfl
      refine (show kV Z 6 35 [(4, kr Z (1 + 5 + v1.toNatClampNeg)), (0, kr Z 0), (1, .int v1), (2, .int v2), (3, .int v3)] [.int q6.1] q6.2 from ?_)
      refine k_if_eq C 54 dX5_set_35 rfl rfl (fun b8 => ?_) (fun b8 => ?_)
      · replace hf := kf_t hf b8
        refine k_lv (lv' := [(0, kr Z 0), (2, .int v2), (3, .int v3), (4, kr Z (1 + 5 + v1.toNatClampNeg))]) [1, 3, 4, 0] rfl ?_
        exact tX5_set_54 C K v2 v3 (1 + 5 + v1.toNatClampNeg) q6.2 (yd_n yd_1 (vi_lt g4)) hf
      · replace hf := kf_f hf b8
        refine k_aload C 0 dX5_set_38 rfl rfl ?_
        refine g_X0_mast C (yd_n yd_1 (vi_lt g4)) kw_1_39 dX5_set_40 rfl ?_
        obtain ⟨z9, e10, hf⟩ := kf_b hf
        refine k_topi e10 ?_
        refine k_istore (lv' := [(5, .int z9), (4, kr Z (1 + 5 + v1.toNatClampNeg)), (0, kr Z 0), (1, .int v1), (2, .int v2), (3, .int v3)]) C dX5_set_43 (by decide) rfl rfl ?_
        refine k_aload C 1 dX5_set_45 rfl rfl ?_
        refine k_iload_n C 5 dX5_set_47 rfl rfl rfl ?_
        refine p_X0_mast C (yd_n yd_1 (vi_lt g4)) kw_1_39 dX5_set_48 rfl ?_
        obtain ⟨s11, e12, hf⟩ := kf_b hf
        refine k_st e12 ?_
        refine k_iload C 0 dX5_set_51 rfl rfl ?_
        exact k_iret C K hf dX5_set_53
  · replace hf := kf_t hf b3
    refine k_aload_n C 0 dX5_set_8 rfl rfl rfl ?_
    refine k_ldc C (-1000000001 : Int32) kw_1_192 dX5_set_9 rfl ?_
    obtain ⟨q13, e14, hf⟩ := kf_b hf
    refine k_callV C [.int (-1000000001 : Int32)] (mX5_tell e14) rfl (by decide) rfl kw_1_193 kw_1_195 kw_0_0 kw_1_1 kw_1_196 qX5_tell rfl ⟨by decide, by decide⟩ ⟨rfl, rfl⟩ (Nat.le_of_ble_eq_true rfl) dX5_set_11 rfl ?_ rfl
    refine (show kV Z 6 14 [(0, kr Z 0), (1, .int v1), (2, .int v2), (3, .int v3)] [.int q13.1] q13.2 from ?_)
    exact k_iret C K hf dX5_set_14
theorem mX5_set {G : kG} {v1 : Int32} {v2 : Int32} {v3 : Int32}  {st : kM} {res : Int32 × kM} (hf : fX5_set v1 v2 v3 st = some res) : kCt G yX5_set cX5_set 6 (some .int) rmX5_set [.ref (G.2.1 0), .int v1, .int v2, .int v3] st (some (.int res.1)) res.2 := kMet (by decide) (Nat.le_of_ble_eq_true rfl) ⟨rfl, rfl⟩ (fun X A Q C K => tX5_set C  hf K)
theorem qX5_set : yX5_set.cls = RX5 ∧ yX5_set.cls ≠ "java/lang/invoke/MethodHandle" ∧ yX5_set.cls ≠ "java/lang/invoke/VarHandle" ∧ (parseMethodDescriptor yX5_set.desc).map (fun d => d.parameters.length) = some 3 := ⟨rfl, by decide, by decide, by decide +kernel⟩
-- TalkKnots.turn(II)I
def rmX5_turn : Room := { frames := 2, cells := 0, slots := 0, locals := 44 }
def fX5_turn (v1 : Int32) (v2 : Int32) (st : kM) : Option (Int32 × kM) :=
  (fX5_isKnot v1 st).bind fun q1 => (if q1.1 = 0 then ((fX5_tell (-1000000001 : Int32) q1.2).bind fun q4 => (some (q4.1, q4.2))) else ((fX5_isKind v2 q1.2).bind fun q6 => (if q6.1 = 0 then ((fX5_tell (-1000000001 : Int32) q6.2).bind fun q14 => (some (q14.1, q14.2))) else (if v1 < 0 ∨ 10 ≤ v1.toNatClampNeg then none else ((some (q6.2.1 (1 + 5 + v1.toNatClampNeg) 0)).bind fun z10 => ((some (kwr q6.2 (1 + 5 + v1.toNatClampNeg) 0 v2)).bind fun s12 => (some (z10, s12))))))))
set_option maxRecDepth 100000 in
theorem tX5_turn {Z : kZ} (C : kC Z cX5_turn RX5 4 rmX5_turn) {v1 : Int32} {v2 : Int32}  {st : kM} {res : Int32 × kM} (hf : fX5_turn v1 v2 st = some res) (K : kEnd Z (some .int) (some (.int res.1)) res.2) : kV Z 4 0 [(0, kr Z 0), (1, .int v1), (2, .int v2)] [] st := by
  unfold fX5_turn at hf
  refine k_aload_n C 0 dX5_turn_0 rfl rfl rfl ?_
  refine k_iload_n C 1 dX5_turn_1 rfl rfl rfl ?_
  obtain ⟨q1, e2, hf⟩ := kf_b hf
  refine k_callV C [.int v1] (mX5_isKnot e2) rfl (by decide) rfl kw_2_65 kw_2_67 kw_0_5 kw_1_1 kw_2_68 qX5_isKnot rfl ⟨by decide, by decide⟩ ⟨rfl, rfl⟩ (Nat.le_of_ble_eq_true rfl) dX5_turn_2 rfl ?_ rfl
  refine (show kV Z 4 5 [(0, kr Z 0), (1, .int v1), (2, .int v2)] [.int q1.1] q1.2 from ?_)
  refine k_if_eq C 15 dX5_turn_5 rfl rfl (fun b3 => ?_) (fun b3 => ?_)
  · replace hf := kf_t hf b3
    refine k_aload_n C 0 dX5_turn_15 rfl rfl rfl ?_
    refine k_ldc C (-1000000001 : Int32) kw_1_192 dX5_turn_16 rfl ?_
    obtain ⟨q4, e5, hf⟩ := kf_b hf
    refine k_callV C [.int (-1000000001 : Int32)] (mX5_tell e5) rfl (by decide) rfl kw_1_193 kw_1_195 kw_0_0 kw_1_1 kw_1_196 qX5_tell rfl ⟨by decide, by decide⟩ ⟨rfl, rfl⟩ (Nat.le_of_ble_eq_true rfl) dX5_turn_18 rfl ?_ rfl
    refine (show kV Z 4 21 [(0, kr Z 0), (1, .int v1), (2, .int v2)] [.int q4.1] q4.2 from ?_)
    exact k_iret C K hf dX5_turn_21
  · replace hf := kf_f hf b3
    refine k_iload_n C 2 dX5_turn_8 rfl rfl rfl ?_
    obtain ⟨q6, e7, hf⟩ := kf_b hf
    refine k_callS C [.int v2] (mX5_isKind e7) kw_2_45 kw_2_46 kw_1_1 kw_2_47 qX5_isKind rfl ⟨by decide, by decide⟩ ⟨rfl, rfl⟩ (Nat.le_of_ble_eq_true rfl) dX5_turn_9 rfl ?_ rfl
    refine (show kV Z 4 12 [(0, kr Z 0), (1, .int v1), (2, .int v2)] [.int q6.1] q6.2 from ?_)
    refine k_if_ne C 22 dX5_turn_12 rfl rfl (fun b8 => ?_) (fun b8 => ?_)
    · replace hf := kf_f hf b8
      refine k_aload_n C 0 dX5_turn_22 rfl rfl rfl ?_
      refine g_X5_present C rfl kw_1_160 dX5_turn_23 rfl ?_
      refine g_X4_knots C (yd_4 yd_1) kw_1_79 dX5_turn_26 rfl ?_
      refine k_iload_n C 1 dX5_turn_29 rfl rfl rfl ?_
      obtain ⟨g9, hf⟩ := kf_g hf
      refine k_aldK C yd_1 g9 dX5_turn_30 rfl ?_
      refine g_X0_kind C (yd_n yd_1 (vi_lt g9)) kw_1_37 dX5_turn_31 rfl ?_
      obtain ⟨z10, e11, hf⟩ := kf_b hf
      refine k_topi e11 ?_
      refine k_istore_n (lv' := [(3, .int z10), (0, kr Z 0), (1, .int v1), (2, .int v2)]) C dX5_turn_34 rfl (by decide) rfl rfl ?_
      refine k_aload_n C 1 dX5_turn_35 rfl rfl rfl ?_
      refine g_X5_present C rfl kw_1_160 dX5_turn_36 rfl ?_
      refine g_X4_knots C (yd_4 yd_1) kw_1_79 dX5_turn_39 rfl ?_
      refine k_iload_n C 2 dX5_turn_42 rfl rfl rfl ?_
      refine k_aldK C yd_1 g9 dX5_turn_43 rfl ?_
      refine k_iload_n C 3 dX5_turn_44 rfl rfl rfl ?_
      refine p_X0_kind C (yd_n yd_1 (vi_lt g9)) kw_1_37 dX5_turn_45 rfl ?_
      obtain ⟨s12, e13, hf⟩ := kf_b hf
      refine k_st e13 ?_
      refine k_iload_n C 0 dX5_turn_48 rfl rfl rfl ?_
      exact k_iret C K hf dX5_turn_49
    · replace hf := kf_t hf b8
      refine k_aload_n C 0 dX5_turn_15 rfl rfl rfl ?_
      refine k_ldc C (-1000000001 : Int32) kw_1_192 dX5_turn_16 rfl ?_
      obtain ⟨q14, e15, hf⟩ := kf_b hf
      refine k_callV C [.int (-1000000001 : Int32)] (mX5_tell e15) rfl (by decide) rfl kw_1_193 kw_1_195 kw_0_0 kw_1_1 kw_1_196 qX5_tell rfl ⟨by decide, by decide⟩ ⟨rfl, rfl⟩ (Nat.le_of_ble_eq_true rfl) dX5_turn_18 rfl ?_ rfl
      refine (show kV Z 4 21 [(0, kr Z 0), (1, .int v1), (2, .int v2)] [.int q14.1] q14.2 from ?_)
      exact k_iret C K hf dX5_turn_21
theorem mX5_turn {G : kG} {v1 : Int32} {v2 : Int32}  {st : kM} {res : Int32 × kM} (hf : fX5_turn v1 v2 st = some res) : kCt G yX5_turn cX5_turn 4 (some .int) rmX5_turn [.ref (G.2.1 0), .int v1, .int v2] st (some (.int res.1)) res.2 := kMet (by decide) (Nat.le_of_ble_eq_true rfl) ⟨rfl, rfl⟩ (fun X A Q C K => tX5_turn C  hf K)
theorem qX5_turn : yX5_turn.cls = RX5 ∧ yX5_turn.cls ≠ "java/lang/invoke/MethodHandle" ∧ yX5_turn.cls ≠ "java/lang/invoke/VarHandle" ∧ (parseMethodDescriptor yX5_turn.desc).map (fun d => d.parameters.length) = some 2 := ⟨rfl, by decide, by decide, by decide +kernel⟩
-- TalkKnots.as(II)I
def rmX5_as : Room := { frames := 2, cells := 0, slots := 0, locals := 44 }
def fX5_as (v1 : Int32) (v2 : Int32) (st : kM) : Option (Int32 × kM) :=
  (fX5_isKnot v1 st).bind fun q1 => (if q1.1 = 0 then ((fX5_tell (-1000000001 : Int32) q1.2).bind fun q4 => (some (q4.1, q4.2))) else ((fX5_isKind v2 q1.2).bind fun q6 => (if q6.1 = 0 then ((fX5_tell (-1000000001 : Int32) q6.2).bind fun q15 => (some (q15.1, q15.2))) else (if v1 < 0 ∨ 10 ≤ v1.toNatClampNeg then none else ((fX0_isOf (1 + 5 + v1.toNatClampNeg) v2 q6.2).bind fun q10 => (if q10.1 = 0 then ((fX5_tell (-1000000003 : Int32) q10.2).bind fun q13 => (some (q13.1, q13.2))) else (some ((q10.2.1 (1 + 5 + v1.toNatClampNeg) 2), q10.2))))))))
set_option maxRecDepth 100000 in
theorem tX5_as {Z : kZ} (C : kC Z cX5_as RX5 4 rmX5_as) {v1 : Int32} {v2 : Int32}  {st : kM} {res : Int32 × kM} (hf : fX5_as v1 v2 st = some res) (K : kEnd Z (some .int) (some (.int res.1)) res.2) : kV Z 4 0 [(0, kr Z 0), (1, .int v1), (2, .int v2)] [] st := by
  unfold fX5_as at hf
  refine k_aload_n C 0 dX5_as_0 rfl rfl rfl ?_
  refine k_iload_n C 1 dX5_as_1 rfl rfl rfl ?_
  obtain ⟨q1, e2, hf⟩ := kf_b hf
  refine k_callV C [.int v1] (mX5_isKnot e2) rfl (by decide) rfl kw_2_65 kw_2_67 kw_0_5 kw_1_1 kw_2_68 qX5_isKnot rfl ⟨by decide, by decide⟩ ⟨rfl, rfl⟩ (Nat.le_of_ble_eq_true rfl) dX5_as_2 rfl ?_ rfl
  refine (show kV Z 4 5 [(0, kr Z 0), (1, .int v1), (2, .int v2)] [.int q1.1] q1.2 from ?_)
  refine k_if_eq C 15 dX5_as_5 rfl rfl (fun b3 => ?_) (fun b3 => ?_)
  · replace hf := kf_t hf b3
    refine k_aload_n C 0 dX5_as_15 rfl rfl rfl ?_
    refine k_ldc C (-1000000001 : Int32) kw_1_192 dX5_as_16 rfl ?_
    obtain ⟨q4, e5, hf⟩ := kf_b hf
    refine k_callV C [.int (-1000000001 : Int32)] (mX5_tell e5) rfl (by decide) rfl kw_1_193 kw_1_195 kw_0_0 kw_1_1 kw_1_196 qX5_tell rfl ⟨by decide, by decide⟩ ⟨rfl, rfl⟩ (Nat.le_of_ble_eq_true rfl) dX5_as_18 rfl ?_ rfl
    refine (show kV Z 4 21 [(0, kr Z 0), (1, .int v1), (2, .int v2)] [.int q4.1] q4.2 from ?_)
    exact k_iret C K hf dX5_as_21
  · replace hf := kf_f hf b3
    refine k_iload_n C 2 dX5_as_8 rfl rfl rfl ?_
    obtain ⟨q6, e7, hf⟩ := kf_b hf
    refine k_callS C [.int v2] (mX5_isKind e7) kw_2_45 kw_2_46 kw_1_1 kw_2_47 qX5_isKind rfl ⟨by decide, by decide⟩ ⟨rfl, rfl⟩ (Nat.le_of_ble_eq_true rfl) dX5_as_9 rfl ?_ rfl
    refine (show kV Z 4 12 [(0, kr Z 0), (1, .int v1), (2, .int v2)] [.int q6.1] q6.2 from ?_)
    refine k_if_ne C 22 dX5_as_12 rfl rfl (fun b8 => ?_) (fun b8 => ?_)
    · replace hf := kf_f hf b8
      refine k_aload_n C 0 dX5_as_22 rfl rfl rfl ?_
      refine g_X5_present C rfl kw_1_160 dX5_as_23 rfl ?_
      refine g_X4_knots C (yd_4 yd_1) kw_1_79 dX5_as_26 rfl ?_
      refine k_iload_n C 1 dX5_as_29 rfl rfl rfl ?_
      obtain ⟨g9, hf⟩ := kf_g hf
      refine k_aldK C yd_1 g9 dX5_as_30 rfl ?_
      refine k_astore_n (lv' := [(3, kr Z (1 + 5 + v1.toNatClampNeg)), (0, kr Z 0), (1, .int v1), (2, .int v2)]) C dX5_as_31 rfl (by decide) rfl rfl ?_
      refine k_aload_n C 0 dX5_as_32 rfl rfl rfl ?_
      refine k_iload_n C 3 dX5_as_33 rfl rfl rfl ?_
      obtain ⟨q10, e11, hf⟩ := kf_b hf
      refine k_callV C [.int v2] (mX0_isOf (yd_n yd_1 (vi_lt g9)) e11) (yd_n yd_1 (vi_lt g9)) (by decide) rfl kw_2_98 kw_2_99 kw_2_100 kw_1_3 kw_2_101 qX0_isOf rfl ⟨by decide, by decide⟩ ⟨rfl, rfl⟩ (Nat.le_of_ble_eq_true rfl) dX5_as_34 rfl ?_ rfl
      refine (show kV Z 4 37 [(3, kr Z (1 + 5 + v1.toNatClampNeg)), (0, kr Z 0), (1, .int v1), (2, .int v2)] [.int q10.1] q10.2 from ?_)
      refine k_if_eq C 47 dX5_as_37 rfl rfl (fun b12 => ?_) (fun b12 => ?_)
      · replace hf := kf_t hf b12
        refine k_aload_n C 1 dX5_as_47 rfl rfl rfl ?_
        refine k_ldc C (-1000000003 : Int32) kw_2_102 dX5_as_48 rfl ?_
        obtain ⟨q13, e14, hf⟩ := kf_b hf
        refine k_callV C [.int (-1000000003 : Int32)] (mX5_tell e14) rfl (by decide) rfl kw_1_193 kw_1_195 kw_0_0 kw_1_1 kw_1_196 qX5_tell rfl ⟨by decide, by decide⟩ ⟨rfl, rfl⟩ (Nat.le_of_ble_eq_true rfl) dX5_as_50 rfl ?_ rfl
        refine (show kV Z 4 53 [(3, kr Z (1 + 5 + v1.toNatClampNeg)), (0, kr Z 0), (1, .int v1), (2, .int v2)] [.int q13.1] q13.2 from ?_)
        exact k_iret C K hf dX5_as_53
      · replace hf := kf_f hf b12
        refine k_aload_n C 0 dX5_as_40 rfl rfl rfl ?_
        refine g_X0_open C (yd_n yd_1 (vi_lt g9)) kw_1_43 dX5_as_41 rfl ?_
        refine k_goto C 53 dX5_as_44 rfl ?_
        exact k_iret C K hf dX5_as_53
    · replace hf := kf_t hf b8
      refine k_aload_n C 0 dX5_as_15 rfl rfl rfl ?_
      refine k_ldc C (-1000000001 : Int32) kw_1_192 dX5_as_16 rfl ?_
      obtain ⟨q15, e16, hf⟩ := kf_b hf
      refine k_callV C [.int (-1000000001 : Int32)] (mX5_tell e16) rfl (by decide) rfl kw_1_193 kw_1_195 kw_0_0 kw_1_1 kw_1_196 qX5_tell rfl ⟨by decide, by decide⟩ ⟨rfl, rfl⟩ (Nat.le_of_ble_eq_true rfl) dX5_as_18 rfl ?_ rfl
      refine (show kV Z 4 21 [(0, kr Z 0), (1, .int v1), (2, .int v2)] [.int q15.1] q15.2 from ?_)
      exact k_iret C K hf dX5_as_21
theorem mX5_as {G : kG} {v1 : Int32} {v2 : Int32}  {st : kM} {res : Int32 × kM} (hf : fX5_as v1 v2 st = some res) : kCt G yX5_as cX5_as 4 (some .int) rmX5_as [.ref (G.2.1 0), .int v1, .int v2] st (some (.int res.1)) res.2 := kMet (by decide) (Nat.le_of_ble_eq_true rfl) ⟨rfl, rfl⟩ (fun X A Q C K => tX5_as C  hf K)
theorem qX5_as : yX5_as.cls = RX5 ∧ yX5_as.cls ≠ "java/lang/invoke/MethodHandle" ∧ yX5_as.cls ≠ "java/lang/invoke/VarHandle" ∧ (parseMethodDescriptor yX5_as.desc).map (fun d => d.parameters.length) = some 2 := ⟨rfl, by decide, by decide, by decide +kernel⟩
-- TalkKnots.tease(I)I
def rmX5_tease : Room := { frames := 3, cells := 0, slots := 0, locals := 62 }
def fX5_tease (v1 : Int32) (st : kM) : Option (Int32 × kM) :=
  (fX5_isKnot v1 st).bind fun q1 => (if q1.1 = 0 then ((fX5_tell (-1000000001 : Int32) q1.2).bind fun q7 => (some (q7.1, q7.2))) else (if v1 < 0 ∨ 10 ≤ v1.toNatClampNeg then none else ((fX0_beTeased (1 + 5 + v1.toNatClampNeg) q1.2).bind fun s5 => (some ((s5.1 (1 + 5 + v1.toNatClampNeg) 2), s5)))))
set_option maxRecDepth 100000 in
theorem tX5_tease {Z : kZ} (C : kC Z cX5_tease RX5 2 rmX5_tease) {v1 : Int32}  {st : kM} {res : Int32 × kM} (hf : fX5_tease v1 st = some res) (K : kEnd Z (some .int) (some (.int res.1)) res.2) : kV Z 2 0 [(0, kr Z 0), (1, .int v1)] [] st := by
  unfold fX5_tease at hf
  refine k_aload_n C 0 dX5_tease_0 rfl rfl rfl ?_
  refine k_iload_n C 1 dX5_tease_1 rfl rfl rfl ?_
  obtain ⟨q1, e2, hf⟩ := kf_b hf
  refine k_callV C [.int v1] (mX5_isKnot e2) rfl (by decide) rfl kw_2_65 kw_2_67 kw_0_5 kw_1_1 kw_2_68 qX5_isKnot rfl ⟨by decide, by decide⟩ ⟨rfl, rfl⟩ (Nat.le_of_ble_eq_true rfl) dX5_tease_2 rfl ?_ rfl
  refine (show kV Z 2 5 [(0, kr Z 0), (1, .int v1)] [.int q1.1] q1.2 from ?_)
  refine k_if_ne C 15 dX5_tease_5 rfl rfl (fun b3 => ?_) (fun b3 => ?_)
  · replace hf := kf_f hf b3
    refine k_aload_n C 0 dX5_tease_15 rfl rfl rfl ?_
    refine g_X5_present C rfl kw_1_160 dX5_tease_16 rfl ?_
    refine g_X4_knots C (yd_4 yd_1) kw_1_79 dX5_tease_19 rfl ?_
    refine k_iload_n C 1 dX5_tease_22 rfl rfl rfl ?_
    obtain ⟨g4, hf⟩ := kf_g hf
    refine k_aldK C yd_1 g4 dX5_tease_23 rfl ?_
    obtain ⟨s5, e6, hf⟩ := kf_b hf
    refine k_callV C [] (mX0_beTeased (yd_n yd_1 (vi_lt g4)) e6) (yd_n yd_1 (vi_lt g4)) (by decide) rfl kw_2_107 kw_2_108 kw_2_109 kw_1_3 kw_2_110 qX0_beTeased rfl ⟨by decide, by decide⟩ ⟨rfl, rfl⟩ (Nat.le_of_ble_eq_true rfl) dX5_tease_24 rfl ?_ rfl
    refine (show kV Z 2 27 [(0, kr Z 0), (1, .int v1)] [] s5 from ?_)
    refine k_aload_n C 0 dX5_tease_27 rfl rfl rfl ?_
    refine g_X5_present C rfl kw_1_160 dX5_tease_28 rfl ?_
    refine g_X4_knots C (yd_4 yd_1) kw_1_79 dX5_tease_31 rfl ?_
    refine k_iload_n C 1 dX5_tease_34 rfl rfl rfl ?_
    refine k_aldK C yd_1 g4 dX5_tease_35 rfl ?_
    refine g_X0_open C (yd_n yd_1 (vi_lt g4)) kw_1_43 dX5_tease_36 rfl ?_
    exact k_iret C K hf dX5_tease_39
  · replace hf := kf_t hf b3
    refine k_aload_n C 0 dX5_tease_8 rfl rfl rfl ?_
    refine k_ldc C (-1000000001 : Int32) kw_1_192 dX5_tease_9 rfl ?_
    obtain ⟨q7, e8, hf⟩ := kf_b hf
    refine k_callV C [.int (-1000000001 : Int32)] (mX5_tell e8) rfl (by decide) rfl kw_1_193 kw_1_195 kw_0_0 kw_1_1 kw_1_196 qX5_tell rfl ⟨by decide, by decide⟩ ⟨rfl, rfl⟩ (Nat.le_of_ble_eq_true rfl) dX5_tease_11 rfl ?_ rfl
    refine (show kV Z 2 14 [(0, kr Z 0), (1, .int v1)] [.int q7.1] q7.2 from ?_)
    exact k_iret C K hf dX5_tease_14
theorem mX5_tease {G : kG} {v1 : Int32}  {st : kM} {res : Int32 × kM} (hf : fX5_tease v1 st = some res) : kCt G yX5_tease cX5_tease 2 (some .int) rmX5_tease [.ref (G.2.1 0), .int v1] st (some (.int res.1)) res.2 := kMet (by decide) (Nat.le_of_ble_eq_true rfl) ⟨rfl, rfl⟩ (fun X A Q C K => tX5_tease C  hf K)
theorem qX5_tease : yX5_tease.cls = RX5 ∧ yX5_tease.cls ≠ "java/lang/invoke/MethodHandle" ∧ yX5_tease.cls ≠ "java/lang/invoke/VarHandle" ∧ (parseMethodDescriptor yX5_tease.desc).map (fun d => d.parameters.length) = some 1 := ⟨rfl, by decide, by decide, by decide +kernel⟩
-- TalkKnots.tie(I)I
def rmX5_tie : Room := { frames := 2, cells := 0, slots := 0, locals := 44 }
def fX5_tie (v1 : Int32) (st : kM) : Option (Int32 × kM) :=
  (fX5_isKnot v1 st).bind fun q1 => (if q1.1 = 0 then ((fX5_tell (-1000000001 : Int32) q1.2).bind fun q12 => (some (q12.1, q12.2))) else (if v1 < 0 ∨ 10 ≤ v1.toNatClampNeg then none else (if (q1.2.1 (1 + 5 + v1.toNatClampNeg) 4) = 0 then ((some (kwr q1.2 (1 + 5 + v1.toNatClampNeg) 4 (1 : Int32))).bind fun s6 => ((some (kwr s6 (1 + 5 + v1.toNatClampNeg) 3 (0 : Int32))).bind fun s8 => (some ((1 : Int32), s8)))) else ((fX5_tell (-1000000005 : Int32) q1.2).bind fun q10 => (some (q10.1, q10.2))))))
set_option maxRecDepth 100000 in
theorem tX5_tie {Z : kZ} (C : kC Z cX5_tie RX5 3 rmX5_tie) {v1 : Int32}  {st : kM} {res : Int32 × kM} (hf : fX5_tie v1 st = some res) (K : kEnd Z (some .int) (some (.int res.1)) res.2) : kV Z 3 0 [(0, kr Z 0), (1, .int v1)] [] st := by
  unfold fX5_tie at hf
  refine k_aload_n C 0 dX5_tie_0 rfl rfl rfl ?_
  refine k_iload_n C 1 dX5_tie_1 rfl rfl rfl ?_
  obtain ⟨q1, e2, hf⟩ := kf_b hf
  refine k_callV C [.int v1] (mX5_isKnot e2) rfl (by decide) rfl kw_2_65 kw_2_67 kw_0_5 kw_1_1 kw_2_68 qX5_isKnot rfl ⟨by decide, by decide⟩ ⟨rfl, rfl⟩ (Nat.le_of_ble_eq_true rfl) dX5_tie_2 rfl ?_ rfl
  refine (show kV Z 3 5 [(0, kr Z 0), (1, .int v1)] [.int q1.1] q1.2 from ?_)
  refine k_if_ne C 15 dX5_tie_5 rfl rfl (fun b3 => ?_) (fun b3 => ?_)
  · replace hf := kf_f hf b3
    refine k_aload_n C 0 dX5_tie_15 rfl rfl rfl ?_
    refine g_X5_present C rfl kw_1_160 dX5_tie_16 rfl ?_
    refine g_X4_knots C (yd_4 yd_1) kw_1_79 dX5_tie_19 rfl ?_
    refine k_iload_n C 1 dX5_tie_22 rfl rfl rfl ?_
    obtain ⟨g4, hf⟩ := kf_g hf
    refine k_aldK C yd_1 g4 dX5_tie_23 rfl ?_
    refine k_astore_n (lv' := [(2, kr Z (1 + 5 + v1.toNatClampNeg)), (0, kr Z 0), (1, .int v1)]) C dX5_tie_24 rfl (by decide) rfl rfl ?_
    refine k_aload_n C 0 dX5_tie_25 rfl rfl rfl ?_
    refine g_X0_fast C (yd_n yd_1 (vi_lt g4)) kw_1_50 dX5_tie_26 rfl ?_
    refine k_if_eq C 39 dX5_tie_29 rfl rfl (fun b5 => ?_) (fun b5 => ?_)
    · replace hf := kf_t hf b5
      refine k_aload_n C 0 dX5_tie_39 rfl rfl rfl ?_
      refine k_iconst C (1 : Int32) dX5_tie_40 (by decide) rfl ?_
      refine p_X0_fast C (by decide) (yd_n yd_1 (vi_lt g4)) kw_1_50 dX5_tie_41 rfl ?_
      obtain ⟨s6, e7, hf⟩ := kf_b hf
      refine k_st e7 ?_
      refine k_aload_n C 0 dX5_tie_44 rfl rfl rfl ?_
      refine k_iconst C (0 : Int32) dX5_tie_45 (by decide) rfl ?_
      refine p_X0_age C (yd_n yd_1 (vi_lt g4)) kw_1_46 dX5_tie_46 rfl ?_
      obtain ⟨s8, e9, hf⟩ := kf_b hf
      refine k_st e9 ?_
      refine k_iconst C (1 : Int32) dX5_tie_49 (by decide) rfl ?_
      exact k_iret C K hf dX5_tie_50
    · replace hf := kf_f hf b5
      refine k_aload_n C 1 dX5_tie_32 rfl rfl rfl ?_
      refine k_ldc C (-1000000005 : Int32) kw_2_123 dX5_tie_33 rfl ?_
      obtain ⟨q10, e11, hf⟩ := kf_b hf
      refine k_callV C [.int (-1000000005 : Int32)] (mX5_tell e11) rfl (by decide) rfl kw_1_193 kw_1_195 kw_0_0 kw_1_1 kw_1_196 qX5_tell rfl ⟨by decide, by decide⟩ ⟨rfl, rfl⟩ (Nat.le_of_ble_eq_true rfl) dX5_tie_35 rfl ?_ rfl
      refine (show kV Z 3 38 [(2, kr Z (1 + 5 + v1.toNatClampNeg)), (0, kr Z 0), (1, .int v1)] [.int q10.1] q10.2 from ?_)
      exact k_iret C K hf dX5_tie_38
  · replace hf := kf_t hf b3
    refine k_aload_n C 0 dX5_tie_8 rfl rfl rfl ?_
    refine k_ldc C (-1000000001 : Int32) kw_1_192 dX5_tie_9 rfl ?_
    obtain ⟨q12, e13, hf⟩ := kf_b hf
    refine k_callV C [.int (-1000000001 : Int32)] (mX5_tell e13) rfl (by decide) rfl kw_1_193 kw_1_195 kw_0_0 kw_1_1 kw_1_196 qX5_tell rfl ⟨by decide, by decide⟩ ⟨rfl, rfl⟩ (Nat.le_of_ble_eq_true rfl) dX5_tie_11 rfl ?_ rfl
    refine (show kV Z 3 14 [(0, kr Z 0), (1, .int v1)] [.int q12.1] q12.2 from ?_)
    exact k_iret C K hf dX5_tie_14
theorem mX5_tie {G : kG} {v1 : Int32}  {st : kM} {res : Int32 × kM} (hf : fX5_tie v1 st = some res) : kCt G yX5_tie cX5_tie 3 (some .int) rmX5_tie [.ref (G.2.1 0), .int v1] st (some (.int res.1)) res.2 := kMet (by decide) (Nat.le_of_ble_eq_true rfl) ⟨rfl, rfl⟩ (fun X A Q C K => tX5_tie C  hf K)
theorem qX5_tie : yX5_tie.cls = RX5 ∧ yX5_tie.cls ≠ "java/lang/invoke/MethodHandle" ∧ yX5_tie.cls ≠ "java/lang/invoke/VarHandle" ∧ (parseMethodDescriptor yX5_tie.desc).map (fun d => d.parameters.length) = some 1 := ⟨rfl, by decide, by decide, by decide +kernel⟩
-- TalkKnots.cast(I)I
def rmX5_cast : Room := { frames := 2, cells := 0, slots := 0, locals := 44 }
def fX5_cast (v1 : Int32) (st : kM) : Option (Int32 × kM) :=
  (fX5_isKnot v1 st).bind fun q1 => (if q1.1 = 0 then ((fX5_tell (-1000000001 : Int32) q1.2).bind fun q10 => (some (q10.1, q10.2))) else (if v1 < 0 ∨ 10 ≤ v1.toNatClampNeg then none else (if (q1.2.1 (1 + 5 + v1.toNatClampNeg) 4) = 0 then ((fX5_tell (-1000000005 : Int32) q1.2).bind fun q8 => (some (q8.1, q8.2))) else ((some (kwr q1.2 (1 + 5 + v1.toNatClampNeg) 4 (0 : Int32))).bind fun s6 => (some ((s6.1 (1 + 5 + v1.toNatClampNeg) 3), s6))))))
set_option maxRecDepth 100000 in
theorem tX5_cast {Z : kZ} (C : kC Z cX5_cast RX5 3 rmX5_cast) {v1 : Int32}  {st : kM} {res : Int32 × kM} (hf : fX5_cast v1 st = some res) (K : kEnd Z (some .int) (some (.int res.1)) res.2) : kV Z 3 0 [(0, kr Z 0), (1, .int v1)] [] st := by
  unfold fX5_cast at hf
  refine k_aload_n C 0 dX5_cast_0 rfl rfl rfl ?_
  refine k_iload_n C 1 dX5_cast_1 rfl rfl rfl ?_
  obtain ⟨q1, e2, hf⟩ := kf_b hf
  refine k_callV C [.int v1] (mX5_isKnot e2) rfl (by decide) rfl kw_2_65 kw_2_67 kw_0_5 kw_1_1 kw_2_68 qX5_isKnot rfl ⟨by decide, by decide⟩ ⟨rfl, rfl⟩ (Nat.le_of_ble_eq_true rfl) dX5_cast_2 rfl ?_ rfl
  refine (show kV Z 3 5 [(0, kr Z 0), (1, .int v1)] [.int q1.1] q1.2 from ?_)
  refine k_if_ne C 15 dX5_cast_5 rfl rfl (fun b3 => ?_) (fun b3 => ?_)
  · replace hf := kf_f hf b3
    refine k_aload_n C 0 dX5_cast_15 rfl rfl rfl ?_
    refine g_X5_present C rfl kw_1_160 dX5_cast_16 rfl ?_
    refine g_X4_knots C (yd_4 yd_1) kw_1_79 dX5_cast_19 rfl ?_
    refine k_iload_n C 1 dX5_cast_22 rfl rfl rfl ?_
    obtain ⟨g4, hf⟩ := kf_g hf
    refine k_aldK C yd_1 g4 dX5_cast_23 rfl ?_
    refine k_astore_n (lv' := [(2, kr Z (1 + 5 + v1.toNatClampNeg)), (0, kr Z 0), (1, .int v1)]) C dX5_cast_24 rfl (by decide) rfl rfl ?_
    refine k_aload_n C 0 dX5_cast_25 rfl rfl rfl ?_
    refine g_X0_fast C (yd_n yd_1 (vi_lt g4)) kw_1_50 dX5_cast_26 rfl ?_
    refine k_if_ne C 39 dX5_cast_29 rfl rfl (fun b5 => ?_) (fun b5 => ?_)
    · replace hf := kf_f hf b5
      refine k_aload_n C 0 dX5_cast_39 rfl rfl rfl ?_
      refine k_iconst C (0 : Int32) dX5_cast_40 (by decide) rfl ?_
      refine p_X0_fast C (by decide) (yd_n yd_1 (vi_lt g4)) kw_1_50 dX5_cast_41 rfl ?_
      obtain ⟨s6, e7, hf⟩ := kf_b hf
      refine k_st e7 ?_
      refine k_aload_n C 0 dX5_cast_44 rfl rfl rfl ?_
      refine g_X0_age C (yd_n yd_1 (vi_lt g4)) kw_1_46 dX5_cast_45 rfl ?_
      exact k_iret C K hf dX5_cast_48
    · replace hf := kf_t hf b5
      refine k_aload_n C 1 dX5_cast_32 rfl rfl rfl ?_
      refine k_ldc C (-1000000005 : Int32) kw_2_123 dX5_cast_33 rfl ?_
      obtain ⟨q8, e9, hf⟩ := kf_b hf
      refine k_callV C [.int (-1000000005 : Int32)] (mX5_tell e9) rfl (by decide) rfl kw_1_193 kw_1_195 kw_0_0 kw_1_1 kw_1_196 qX5_tell rfl ⟨by decide, by decide⟩ ⟨rfl, rfl⟩ (Nat.le_of_ble_eq_true rfl) dX5_cast_35 rfl ?_ rfl
      refine (show kV Z 3 38 [(2, kr Z (1 + 5 + v1.toNatClampNeg)), (0, kr Z 0), (1, .int v1)] [.int q8.1] q8.2 from ?_)
      exact k_iret C K hf dX5_cast_38
  · replace hf := kf_t hf b3
    refine k_aload_n C 0 dX5_cast_8 rfl rfl rfl ?_
    refine k_ldc C (-1000000001 : Int32) kw_1_192 dX5_cast_9 rfl ?_
    obtain ⟨q10, e11, hf⟩ := kf_b hf
    refine k_callV C [.int (-1000000001 : Int32)] (mX5_tell e11) rfl (by decide) rfl kw_1_193 kw_1_195 kw_0_0 kw_1_1 kw_1_196 qX5_tell rfl ⟨by decide, by decide⟩ ⟨rfl, rfl⟩ (Nat.le_of_ble_eq_true rfl) dX5_cast_11 rfl ?_ rfl
    refine (show kV Z 3 14 [(0, kr Z 0), (1, .int v1)] [.int q10.1] q10.2 from ?_)
    exact k_iret C K hf dX5_cast_14
theorem mX5_cast {G : kG} {v1 : Int32}  {st : kM} {res : Int32 × kM} (hf : fX5_cast v1 st = some res) : kCt G yX5_cast cX5_cast 3 (some .int) rmX5_cast [.ref (G.2.1 0), .int v1] st (some (.int res.1)) res.2 := kMet (by decide) (Nat.le_of_ble_eq_true rfl) ⟨rfl, rfl⟩ (fun X A Q C K => tX5_cast C  hf K)
theorem qX5_cast : yX5_cast.cls = RX5 ∧ yX5_cast.cls ≠ "java/lang/invoke/MethodHandle" ∧ yX5_cast.cls ≠ "java/lang/invoke/VarHandle" ∧ (parseMethodDescriptor yX5_cast.desc).map (fun d => d.parameters.length) = some 1 := ⟨rfl, by decide, by decide, by decide +kernel⟩
-- TalkKnots.hours(I)I
def rmX5_hours : Room := { frames := 6, cells := 0, slots := 0, locals := 131 }
def fX5_hours (v1 : Int32) (st : kM) : Option (Int32 × kM) :=
  (fX5_isWithin v1 (1 : Int32) (100 : Int32) st).bind fun q1 => (if q1.1 = 0 then ((fX5_tell (-1000000001 : Int32) q1.2).bind fun q9 => (some (q9.1, q9.2))) else (if (q1.2.1 1 0) ≤ ((99999 : Int32) - v1) then ((fX4_passHours 1 v1 q1.2).bind fun s5 => (some ((s5.1 1 2), s5))) else ((fX5_tell (-1000000005 : Int32) q1.2).bind fun q7 => (some (q7.1, q7.2)))))
set_option maxRecDepth 100000 in
theorem tX5_hours {Z : kZ} (C : kC Z cX5_hours RX5 2 rmX5_hours) {v1 : Int32}  {st : kM} {res : Int32 × kM} (hf : fX5_hours v1 st = some res) (K : kEnd Z (some .int) (some (.int res.1)) res.2) : kV Z 2 0 [(0, kr Z 0), (1, .int v1)] [] st := by
  unfold fX5_hours at hf
  refine k_iload_n C 1 dX5_hours_0 rfl rfl rfl ?_
  refine k_iconst C (1 : Int32) dX5_hours_1 (by decide) rfl ?_
  refine k_bipush C (100 : Int32) dX5_hours_2 (by decide) rfl ?_
  obtain ⟨q1, e2, hf⟩ := kf_b hf
  refine k_callS C [.int v1, .int (1 : Int32), .int (100 : Int32)] (mX5_isWithin e2) kw_1_189 kw_1_190 kw_1_1 kw_1_191 qX5_isWithin rfl ⟨by decide, by decide⟩ ⟨rfl, rfl⟩ (Nat.le_of_ble_eq_true rfl) dX5_hours_4 rfl ?_ rfl
  refine (show kV Z 2 7 [(0, kr Z 0), (1, .int v1)] [.int q1.1] q1.2 from ?_)
  refine k_if_ne C 17 dX5_hours_7 rfl rfl (fun b3 => ?_) (fun b3 => ?_)
  · replace hf := kf_f hf b3
    refine k_aload_n C 0 dX5_hours_17 rfl rfl rfl ?_
    refine g_X5_present C rfl kw_1_160 dX5_hours_18 rfl ?_
    refine g_X4_hour C (yd_4 yd_1) kw_1_65 dX5_hours_21 rfl ?_
    refine k_ldc C (99999 : Int32) kw_2_132 dX5_hours_24 rfl ?_
    refine k_iload_n C 1 dX5_hours_26 rfl rfl rfl ?_
    refine k_isub C dX5_hours_27 rfl ?_
    refine k_icmp_le C 38 dX5_hours_28 rfl rfl (fun b4 => ?_) (fun b4 => ?_)
    · replace hf := kf_t hf b4
      refine k_aload_n C 0 dX5_hours_38 rfl rfl rfl ?_
      refine g_X5_present C rfl kw_1_160 dX5_hours_39 rfl ?_
      refine k_iload_n C 1 dX5_hours_42 rfl rfl rfl ?_
      obtain ⟨s5, e6, hf⟩ := kf_b hf
      refine k_callV C [.int v1] (mX4_passHours yd_1 e6) (yd_4 yd_1) (by decide) rfl kw_2_133 kw_2_134 kw_2_135 kw_1_2 kw_2_136 qX4_passHours rfl ⟨by decide, by decide⟩ ⟨rfl, rfl⟩ (Nat.le_of_ble_eq_true rfl) dX5_hours_43 rfl ?_ rfl
      refine (show kV Z 2 46 [(0, kr Z 0), (1, .int v1)] [] s5 from ?_)
      refine k_aload_n C 0 dX5_hours_46 rfl rfl rfl ?_
      refine g_X5_present C rfl kw_1_160 dX5_hours_47 rfl ?_
      refine g_X4_up C (yd_4 yd_1) kw_1_70 dX5_hours_50 rfl ?_
      exact k_iret C K hf dX5_hours_53
    · replace hf := kf_f hf b4
      refine k_aload_n C 0 dX5_hours_31 rfl rfl rfl ?_
      refine k_ldc C (-1000000005 : Int32) kw_2_123 dX5_hours_32 rfl ?_
      obtain ⟨q7, e8, hf⟩ := kf_b hf
      refine k_callV C [.int (-1000000005 : Int32)] (mX5_tell e8) rfl (by decide) rfl kw_1_193 kw_1_195 kw_0_0 kw_1_1 kw_1_196 qX5_tell rfl ⟨by decide, by decide⟩ ⟨rfl, rfl⟩ (Nat.le_of_ble_eq_true rfl) dX5_hours_34 rfl ?_ rfl
      refine (show kV Z 2 37 [(0, kr Z 0), (1, .int v1)] [.int q7.1] q7.2 from ?_)
      exact k_iret C K hf dX5_hours_37
  · replace hf := kf_t hf b3
    refine k_aload_n C 0 dX5_hours_10 rfl rfl rfl ?_
    refine k_ldc C (-1000000001 : Int32) kw_1_192 dX5_hours_11 rfl ?_
    obtain ⟨q9, e10, hf⟩ := kf_b hf
    refine k_callV C [.int (-1000000001 : Int32)] (mX5_tell e10) rfl (by decide) rfl kw_1_193 kw_1_195 kw_0_0 kw_1_1 kw_1_196 qX5_tell rfl ⟨by decide, by decide⟩ ⟨rfl, rfl⟩ (Nat.le_of_ble_eq_true rfl) dX5_hours_13 rfl ?_ rfl
    refine (show kV Z 2 16 [(0, kr Z 0), (1, .int v1)] [.int q9.1] q9.2 from ?_)
    exact k_iret C K hf dX5_hours_16
theorem mX5_hours {G : kG} {v1 : Int32}  {st : kM} {res : Int32 × kM} (hf : fX5_hours v1 st = some res) : kCt G yX5_hours cX5_hours 2 (some .int) rmX5_hours [.ref (G.2.1 0), .int v1] st (some (.int res.1)) res.2 := kMet (by decide) (Nat.le_of_ble_eq_true rfl) ⟨rfl, rfl⟩ (fun X A Q C K => tX5_hours C  hf K)
theorem qX5_hours : yX5_hours.cls = RX5 ∧ yX5_hours.cls ≠ "java/lang/invoke/MethodHandle" ∧ yX5_hours.cls ≠ "java/lang/invoke/VarHandle" ∧ (parseMethodDescriptor yX5_hours.desc).map (fun d => d.parameters.length) = some 1 := ⟨rfl, by decide, by decide, by decide +kernel⟩
-- TalkKnots.on(III)I
def rmX5_on : Room := { frames := 6, cells := 0, slots := 0, locals := 131 }
def fX5_on (v1 : Int32) (v2 : Int32) (v3 : Int32) (st : kM) : Option (Int32 × kM) :=
  (fX5_isKnot v1 st).bind fun q1 => (if q1.1 = 0 then ((fX5_tell (-1000000001 : Int32) q1.2).bind fun q4 => (some (q4.1, q4.2))) else ((fX5_isWithin v2 (0 : Int32) (200 : Int32) q1.2).bind fun q6 => (if q6.1 = 0 then ((fX5_tell (-1000000001 : Int32) q6.2).bind fun q9 => (some (q9.1, q9.2))) else ((fX5_isWithin v3 (0 : Int32) (2 : Int32) q6.2).bind fun q11 => (if q11.1 = 0 then ((fX5_tell (-1000000001 : Int32) q11.2).bind fun q22 => (some (q22.1, q22.2))) else ((fX4_become 16 1 q11.2).bind fun s14 => ((fX4_passHours 16 v2 s14).bind fun s16 => (if v1 < 0 ∨ 10 ≤ v1.toNatClampNeg then none else (if v3 = 0 then (some ((s16.1 (16 + 5 + v1.toNatClampNeg) 2), s16)) else (if v3 = (1 : Int32) then (if (s16.1 (16 + 5 + v1.toNatClampNeg) 4) = 0 then (some ((0 : Int32), s16)) else (some ((1 : Int32), s16))) else (some ((s16.1 (16 + 5 + v1.toNatClampNeg) 3), s16))))))))))))
set_option maxRecDepth 100000 in
theorem tX5_on {Z : kZ} (C : kC Z cX5_on RX5 5 rmX5_on) {v1 : Int32} {v2 : Int32} {v3 : Int32}  {st : kM} {res : Int32 × kM} (hf : fX5_on v1 v2 v3 st = some res) (K : kEnd Z (some .int) (some (.int res.1)) res.2) : kV Z 5 0 [(0, kr Z 0), (1, .int v1), (2, .int v2), (3, .int v3)] [] st := by
  unfold fX5_on at hf
  refine k_aload_n C 0 dX5_on_0 rfl rfl rfl ?_
  refine k_iload_n C 1 dX5_on_1 rfl rfl rfl ?_
  obtain ⟨q1, e2, hf⟩ := kf_b hf
  refine k_callV C [.int v1] (mX5_isKnot e2) rfl (by decide) rfl kw_2_65 kw_2_67 kw_0_5 kw_1_1 kw_2_68 qX5_isKnot rfl ⟨by decide, by decide⟩ ⟨rfl, rfl⟩ (Nat.le_of_ble_eq_true rfl) dX5_on_2 rfl ?_ rfl
  refine (show kV Z 5 5 [(0, kr Z 0), (1, .int v1), (2, .int v2), (3, .int v3)] [.int q1.1] q1.2 from ?_)
  refine k_if_eq C 28 dX5_on_5 rfl rfl (fun b3 => ?_) (fun b3 => ?_)
  · replace hf := kf_t hf b3
    refine k_aload_n C 0 dX5_on_28 rfl rfl rfl ?_
    refine k_ldc C (-1000000001 : Int32) kw_1_192 dX5_on_29 rfl ?_
    obtain ⟨q4, e5, hf⟩ := kf_b hf
    refine k_callV C [.int (-1000000001 : Int32)] (mX5_tell e5) rfl (by decide) rfl kw_1_193 kw_1_195 kw_0_0 kw_1_1 kw_1_196 qX5_tell rfl ⟨by decide, by decide⟩ ⟨rfl, rfl⟩ (Nat.le_of_ble_eq_true rfl) dX5_on_31 rfl ?_ rfl
    refine (show kV Z 5 34 [(0, kr Z 0), (1, .int v1), (2, .int v2), (3, .int v3)] [.int q4.1] q4.2 from ?_)
    exact k_iret C K hf dX5_on_34
  · replace hf := kf_f hf b3
    refine k_iload_n C 2 dX5_on_8 rfl rfl rfl ?_
    refine k_iconst C (0 : Int32) dX5_on_9 (by decide) rfl ?_
    refine k_sipush C (200 : Int32) dX5_on_10 (by decide) rfl ?_
    obtain ⟨q6, e7, hf⟩ := kf_b hf
    refine k_callS C [.int v2, .int (0 : Int32), .int (200 : Int32)] (mX5_isWithin e7) kw_1_189 kw_1_190 kw_1_1 kw_1_191 qX5_isWithin rfl ⟨by decide, by decide⟩ ⟨rfl, rfl⟩ (Nat.le_of_ble_eq_true rfl) dX5_on_13 rfl ?_ rfl
    refine (show kV Z 5 16 [(0, kr Z 0), (1, .int v1), (2, .int v2), (3, .int v3)] [.int q6.1] q6.2 from ?_)
    refine k_if_eq C 28 dX5_on_16 rfl rfl (fun b8 => ?_) (fun b8 => ?_)
    · replace hf := kf_t hf b8
      refine k_aload_n C 0 dX5_on_28 rfl rfl rfl ?_
      refine k_ldc C (-1000000001 : Int32) kw_1_192 dX5_on_29 rfl ?_
      obtain ⟨q9, e10, hf⟩ := kf_b hf
      refine k_callV C [.int (-1000000001 : Int32)] (mX5_tell e10) rfl (by decide) rfl kw_1_193 kw_1_195 kw_0_0 kw_1_1 kw_1_196 qX5_tell rfl ⟨by decide, by decide⟩ ⟨rfl, rfl⟩ (Nat.le_of_ble_eq_true rfl) dX5_on_31 rfl ?_ rfl
      refine (show kV Z 5 34 [(0, kr Z 0), (1, .int v1), (2, .int v2), (3, .int v3)] [.int q9.1] q9.2 from ?_)
      exact k_iret C K hf dX5_on_34
    · replace hf := kf_f hf b8
      refine k_iload_n C 3 dX5_on_19 rfl rfl rfl ?_
      refine k_iconst C (0 : Int32) dX5_on_20 (by decide) rfl ?_
      refine k_iconst C (2 : Int32) dX5_on_21 (by decide) rfl ?_
      obtain ⟨q11, e12, hf⟩ := kf_b hf
      refine k_callS C [.int v3, .int (0 : Int32), .int (2 : Int32)] (mX5_isWithin e12) kw_1_189 kw_1_190 kw_1_1 kw_1_191 qX5_isWithin rfl ⟨by decide, by decide⟩ ⟨rfl, rfl⟩ (Nat.le_of_ble_eq_true rfl) dX5_on_22 rfl ?_ rfl
      refine (show kV Z 5 25 [(0, kr Z 0), (1, .int v1), (2, .int v2), (3, .int v3)] [.int q11.1] q11.2 from ?_)
      refine k_if_ne C 35 dX5_on_25 rfl rfl (fun b13 => ?_) (fun b13 => ?_)
      · replace hf := kf_f hf b13
        refine k_aload_n C 0 dX5_on_35 rfl rfl rfl ?_
        refine g_X5_trial C rfl kw_1_161 dX5_on_36 rfl ?_
        refine k_aload_n C 0 dX5_on_39 rfl rfl rfl ?_
        refine g_X5_present C rfl kw_1_160 dX5_on_40 rfl ?_
        obtain ⟨s14, e15, hf⟩ := kf_b hf
        refine k_callV C [kr Z 1] (mX4_become yd_16 yd_1 e15) (yd_4 yd_16) (by decide) rfl kw_2_164 kw_2_165 kw_2_166 kw_1_2 kw_2_167 qX4_become rfl ⟨by decide, by decide⟩ ⟨rfl, rfl⟩ (Nat.le_of_ble_eq_true rfl) dX5_on_43 rfl ?_ rfl
        refine (show kV Z 5 46 [(0, kr Z 0), (1, .int v1), (2, .int v2), (3, .int v3)] [] s14 from ?_)
        refine k_aload_n C 0 dX5_on_46 rfl rfl rfl ?_
        refine g_X5_trial C rfl kw_1_161 dX5_on_47 rfl ?_
        refine k_iload_n C 2 dX5_on_50 rfl rfl rfl ?_
        obtain ⟨s16, e17, hf⟩ := kf_b hf
        refine k_callV C [.int v2] (mX4_passHours yd_16 e17) (yd_4 yd_16) (by decide) rfl kw_2_133 kw_2_134 kw_2_135 kw_1_2 kw_2_136 qX4_passHours rfl ⟨by decide, by decide⟩ ⟨rfl, rfl⟩ (Nat.le_of_ble_eq_true rfl) dX5_on_51 rfl ?_ rfl
        refine (show kV Z 5 54 [(0, kr Z 0), (1, .int v1), (2, .int v2), (3, .int v3)] [] s16 from ?_)
        refine k_aload_n C 0 dX5_on_54 rfl rfl rfl ?_
        refine g_X5_trial C rfl kw_1_161 dX5_on_55 rfl ?_
        refine g_X4_knots C (yd_4 yd_16) kw_1_79 dX5_on_58 rfl ?_
        refine k_iload_n C 1 dX5_on_61 rfl rfl rfl ?_
        obtain ⟨g18, hf⟩ := kf_g hf
        refine k_aldK C yd_16 g18 dX5_on_62 rfl ?_
        refine k_astore (lv' := [(4, kr Z (16 + 5 + v1.toNatClampNeg)), (0, kr Z 0), (1, .int v1), (2, .int v2), (3, .int v3)]) C dX5_on_63 (by decide) rfl rfl ?_
        refine k_iload_n C 4 dX5_on_65 rfl rfl rfl ?_
        refine k_if_ne C 75 dX5_on_66 rfl rfl (fun b19 => ?_) (fun b19 => ?_)
        · replace hf := kf_f hf b19
          refine k_iload_n C 4 dX5_on_75 rfl rfl rfl ?_
          refine k_iconst C (1 : Int32) dX5_on_76 (by decide) rfl ?_
          refine k_icmp_ne C 94 dX5_on_77 rfl rfl (fun b20 => ?_) (fun b20 => ?_)
          · replace hf := kf_f hf b20
            refine k_aload C 0 dX5_on_94 rfl rfl ?_
            refine g_X0_age C (yd_n yd_16 (vi_lt g18)) kw_1_46 dX5_on_96 rfl ?_
            exact k_iret C K hf dX5_on_99
          · replace hf := kf_t hf b20
            refine k_aload C 0 dX5_on_80 rfl rfl ?_
            refine g_X0_fast C (yd_n yd_16 (vi_lt g18)) kw_1_50 dX5_on_82 rfl ?_
            refine k_if_eq C 92 dX5_on_85 rfl rfl (fun b21 => ?_) (fun b21 => ?_)
            · replace hf := kf_t hf b21
              refine k_iconst C (0 : Int32) dX5_on_92 (by decide) rfl ?_
              exact k_iret C K hf dX5_on_93
            · replace hf := kf_f hf b21
              refine k_iconst C (1 : Int32) dX5_on_88 (by decide) rfl ?_
              refine k_goto C 93 dX5_on_89 rfl ?_
              exact k_iret C K hf dX5_on_93
        · replace hf := kf_t hf b19
          refine k_aload C 0 dX5_on_69 rfl rfl ?_
          refine g_X0_open C (yd_n yd_16 (vi_lt g18)) kw_1_43 dX5_on_71 rfl ?_
          exact k_iret C K hf dX5_on_74
      · replace hf := kf_t hf b13
        refine k_aload_n C 0 dX5_on_28 rfl rfl rfl ?_
        refine k_ldc C (-1000000001 : Int32) kw_1_192 dX5_on_29 rfl ?_
        obtain ⟨q22, e23, hf⟩ := kf_b hf
        refine k_callV C [.int (-1000000001 : Int32)] (mX5_tell e23) rfl (by decide) rfl kw_1_193 kw_1_195 kw_0_0 kw_1_1 kw_1_196 qX5_tell rfl ⟨by decide, by decide⟩ ⟨rfl, rfl⟩ (Nat.le_of_ble_eq_true rfl) dX5_on_31 rfl ?_ rfl
        refine (show kV Z 5 34 [(0, kr Z 0), (1, .int v1), (2, .int v2), (3, .int v3)] [.int q22.1] q22.2 from ?_)
        exact k_iret C K hf dX5_on_34
theorem mX5_on {G : kG} {v1 : Int32} {v2 : Int32} {v3 : Int32}  {st : kM} {res : Int32 × kM} (hf : fX5_on v1 v2 v3 st = some res) : kCt G yX5_on cX5_on 5 (some .int) rmX5_on [.ref (G.2.1 0), .int v1, .int v2, .int v3] st (some (.int res.1)) res.2 := kMet (by decide) (Nat.le_of_ble_eq_true rfl) ⟨rfl, rfl⟩ (fun X A Q C K => tX5_on C  hf K)
theorem qX5_on : yX5_on.cls = RX5 ∧ yX5_on.cls ≠ "java/lang/invoke/MethodHandle" ∧ yX5_on.cls ≠ "java/lang/invoke/VarHandle" ∧ (parseMethodDescriptor yX5_on.desc).map (fun d => d.parameters.length) = some 3 := ⟨rfl, by decide, by decide, by decide +kernel⟩
-- TalkKnots.then(II)I
def rmX5_then : Room := { frames := 6, cells := 0, slots := 0, locals := 131 }
def fX5_then (v1 : Int32) (v2 : Int32) (st : kM) : Option (Int32 × kM) :=
  (fX5_isWithin v1 (0 : Int32) (200 : Int32) st).bind fun q1 => (if q1.1 = 0 then ((fX5_tell (-1000000001 : Int32) q1.2).bind fun q4 => (some (q4.1, q4.2))) else ((fX5_isWithin v2 (0 : Int32) (1 : Int32) q1.2).bind fun q6 => (if q6.1 = 0 then ((fX5_tell (-1000000001 : Int32) q6.2).bind fun q16 => (some (q16.1, q16.2))) else ((fX4_become 16 1 q6.2).bind fun s9 => ((fX4_passHours 16 v1 s9).bind fun s11 => (if v2 = 0 then (some ((s11.1 16 2), s11)) else ((fX4_fastKnots 16 s11).bind fun q14 => (some (q14.1, q14.2)))))))))
set_option maxRecDepth 100000 in
theorem tX5_then {Z : kZ} (C : kC Z cX5_then RX5 3 rmX5_then) {v1 : Int32} {v2 : Int32}  {st : kM} {res : Int32 × kM} (hf : fX5_then v1 v2 st = some res) (K : kEnd Z (some .int) (some (.int res.1)) res.2) : kV Z 3 0 [(0, kr Z 0), (1, .int v1), (2, .int v2)] [] st := by
  unfold fX5_then at hf
  refine k_iload_n C 1 dX5_then_0 rfl rfl rfl ?_
  refine k_iconst C (0 : Int32) dX5_then_1 (by decide) rfl ?_
  refine k_sipush C (200 : Int32) dX5_then_2 (by decide) rfl ?_
  obtain ⟨q1, e2, hf⟩ := kf_b hf
  refine k_callS C [.int v1, .int (0 : Int32), .int (200 : Int32)] (mX5_isWithin e2) kw_1_189 kw_1_190 kw_1_1 kw_1_191 qX5_isWithin rfl ⟨by decide, by decide⟩ ⟨rfl, rfl⟩ (Nat.le_of_ble_eq_true rfl) dX5_then_5 rfl ?_ rfl
  refine (show kV Z 3 8 [(0, kr Z 0), (1, .int v1), (2, .int v2)] [.int q1.1] q1.2 from ?_)
  refine k_if_eq C 20 dX5_then_8 rfl rfl (fun b3 => ?_) (fun b3 => ?_)
  · replace hf := kf_t hf b3
    refine k_aload_n C 0 dX5_then_20 rfl rfl rfl ?_
    refine k_ldc C (-1000000001 : Int32) kw_1_192 dX5_then_21 rfl ?_
    obtain ⟨q4, e5, hf⟩ := kf_b hf
    refine k_callV C [.int (-1000000001 : Int32)] (mX5_tell e5) rfl (by decide) rfl kw_1_193 kw_1_195 kw_0_0 kw_1_1 kw_1_196 qX5_tell rfl ⟨by decide, by decide⟩ ⟨rfl, rfl⟩ (Nat.le_of_ble_eq_true rfl) dX5_then_23 rfl ?_ rfl
    refine (show kV Z 3 26 [(0, kr Z 0), (1, .int v1), (2, .int v2)] [.int q4.1] q4.2 from ?_)
    exact k_iret C K hf dX5_then_26
  · replace hf := kf_f hf b3
    refine k_iload_n C 2 dX5_then_11 rfl rfl rfl ?_
    refine k_iconst C (0 : Int32) dX5_then_12 (by decide) rfl ?_
    refine k_iconst C (1 : Int32) dX5_then_13 (by decide) rfl ?_
    obtain ⟨q6, e7, hf⟩ := kf_b hf
    refine k_callS C [.int v2, .int (0 : Int32), .int (1 : Int32)] (mX5_isWithin e7) kw_1_189 kw_1_190 kw_1_1 kw_1_191 qX5_isWithin rfl ⟨by decide, by decide⟩ ⟨rfl, rfl⟩ (Nat.le_of_ble_eq_true rfl) dX5_then_14 rfl ?_ rfl
    refine (show kV Z 3 17 [(0, kr Z 0), (1, .int v1), (2, .int v2)] [.int q6.1] q6.2 from ?_)
    refine k_if_ne C 27 dX5_then_17 rfl rfl (fun b8 => ?_) (fun b8 => ?_)
    · replace hf := kf_f hf b8
      refine k_aload_n C 0 dX5_then_27 rfl rfl rfl ?_
      refine g_X5_trial C rfl kw_1_161 dX5_then_28 rfl ?_
      refine k_aload_n C 0 dX5_then_31 rfl rfl rfl ?_
      refine g_X5_present C rfl kw_1_160 dX5_then_32 rfl ?_
      obtain ⟨s9, e10, hf⟩ := kf_b hf
      refine k_callV C [kr Z 1] (mX4_become yd_16 yd_1 e10) (yd_4 yd_16) (by decide) rfl kw_2_164 kw_2_165 kw_2_166 kw_1_2 kw_2_167 qX4_become rfl ⟨by decide, by decide⟩ ⟨rfl, rfl⟩ (Nat.le_of_ble_eq_true rfl) dX5_then_35 rfl ?_ rfl
      refine (show kV Z 3 38 [(0, kr Z 0), (1, .int v1), (2, .int v2)] [] s9 from ?_)
      refine k_aload_n C 0 dX5_then_38 rfl rfl rfl ?_
      refine g_X5_trial C rfl kw_1_161 dX5_then_39 rfl ?_
      refine k_iload_n C 1 dX5_then_42 rfl rfl rfl ?_
      obtain ⟨s11, e12, hf⟩ := kf_b hf
      refine k_callV C [.int v1] (mX4_passHours yd_16 e12) (yd_4 yd_16) (by decide) rfl kw_2_133 kw_2_134 kw_2_135 kw_1_2 kw_2_136 qX4_passHours rfl ⟨by decide, by decide⟩ ⟨rfl, rfl⟩ (Nat.le_of_ble_eq_true rfl) dX5_then_43 rfl ?_ rfl
      refine (show kV Z 3 46 [(0, kr Z 0), (1, .int v1), (2, .int v2)] [] s11 from ?_)
      refine k_iload_n C 2 dX5_then_46 rfl rfl rfl ?_
      refine k_if_ne C 60 dX5_then_47 rfl rfl (fun b13 => ?_) (fun b13 => ?_)
      · replace hf := kf_f hf b13
        refine k_aload_n C 0 dX5_then_60 rfl rfl rfl ?_
        refine g_X5_trial C rfl kw_1_161 dX5_then_61 rfl ?_
        obtain ⟨q14, e15, hf⟩ := kf_b hf
        refine k_callV C [] (mX4_fastKnots yd_16 e15) (yd_4 yd_16) (by decide) rfl kw_1_224 kw_1_225 kw_1_226 kw_1_2 kw_1_227 qX4_fastKnots rfl ⟨by decide, by decide⟩ ⟨rfl, rfl⟩ (Nat.le_of_ble_eq_true rfl) dX5_then_64 rfl ?_ rfl
        refine (show kV Z 3 67 [(0, kr Z 0), (1, .int v1), (2, .int v2)] [.int q14.1] q14.2 from ?_)
        exact k_iret C K hf dX5_then_67
      · replace hf := kf_t hf b13
        refine k_aload_n C 0 dX5_then_50 rfl rfl rfl ?_
        refine g_X5_trial C rfl kw_1_161 dX5_then_51 rfl ?_
        refine g_X4_up C (yd_4 yd_16) kw_1_70 dX5_then_54 rfl ?_
        refine k_goto C 67 dX5_then_57 rfl ?_
        exact k_iret C K hf dX5_then_67
    · replace hf := kf_t hf b8
      refine k_aload_n C 0 dX5_then_20 rfl rfl rfl ?_
      refine k_ldc C (-1000000001 : Int32) kw_1_192 dX5_then_21 rfl ?_
      obtain ⟨q16, e17, hf⟩ := kf_b hf
      refine k_callV C [.int (-1000000001 : Int32)] (mX5_tell e17) rfl (by decide) rfl kw_1_193 kw_1_195 kw_0_0 kw_1_1 kw_1_196 qX5_tell rfl ⟨by decide, by decide⟩ ⟨rfl, rfl⟩ (Nat.le_of_ble_eq_true rfl) dX5_then_23 rfl ?_ rfl
      refine (show kV Z 3 26 [(0, kr Z 0), (1, .int v1), (2, .int v2)] [.int q16.1] q16.2 from ?_)
      exact k_iret C K hf dX5_then_26
theorem mX5_then {G : kG} {v1 : Int32} {v2 : Int32}  {st : kM} {res : Int32 × kM} (hf : fX5_then v1 v2 st = some res) : kCt G yX5_then cX5_then 3 (some .int) rmX5_then [.ref (G.2.1 0), .int v1, .int v2] st (some (.int res.1)) res.2 := kMet (by decide) (Nat.le_of_ble_eq_true rfl) ⟨rfl, rfl⟩ (fun X A Q C K => tX5_then C  hf K)
theorem qX5_then : yX5_then.cls = RX5 ∧ yX5_then.cls ≠ "java/lang/invoke/MethodHandle" ∧ yX5_then.cls ≠ "java/lang/invoke/VarHandle" ∧ (parseMethodDescriptor yX5_then.desc).map (fun d => d.parameters.length) = some 2 := ⟨rfl, by decide, by decide, by decide +kernel⟩
-- TalkKnots.falls(I)I
def rmX5_falls : Room := { frames := 6, cells := 0, slots := 0, locals := 131 }
def fX5_falls (v1 : Int32) (st : kM) : Option (Int32 × kM) :=
  (fX5_isMast v1 st).bind fun q1 => (if q1.1 = 0 then ((fX5_tell (-1000000001 : Int32) q1.2).bind fun q11 => (some (q11.1, q11.2))) else ((fX4_become 16 1 q1.2).bind fun s4 => ((fX4_hoursTillFallen 16 v1 s4).bind fun q6 => (if q6.1 ≤ (200 : Int32) then (some (q6.1, q6.2)) else ((fX5_tell (-1000000004 : Int32) q6.2).bind fun q9 => (some (q9.1, q9.2)))))))
set_option maxRecDepth 100000 in
theorem tX5_falls {Z : kZ} (C : kC Z cX5_falls RX5 3 rmX5_falls) {v1 : Int32}  {st : kM} {res : Int32 × kM} (hf : fX5_falls v1 st = some res) (K : kEnd Z (some .int) (some (.int res.1)) res.2) : kV Z 3 0 [(0, kr Z 0), (1, .int v1)] [] st := by
  unfold fX5_falls at hf
  refine k_iload_n C 1 dX5_falls_0 rfl rfl rfl ?_
  obtain ⟨q1, e2, hf⟩ := kf_b hf
  refine k_callS C [.int v1] (mX5_isMast e2) kw_1_201 kw_1_202 kw_1_1 kw_1_203 qX5_isMast rfl ⟨by decide, by decide⟩ ⟨rfl, rfl⟩ (Nat.le_of_ble_eq_true rfl) dX5_falls_1 rfl ?_ rfl
  refine (show kV Z 3 4 [(0, kr Z 0), (1, .int v1)] [.int q1.1] q1.2 from ?_)
  refine k_if_ne C 14 dX5_falls_4 rfl rfl (fun b3 => ?_) (fun b3 => ?_)
  · replace hf := kf_f hf b3
    refine k_aload_n C 0 dX5_falls_14 rfl rfl rfl ?_
    refine g_X5_trial C rfl kw_1_161 dX5_falls_15 rfl ?_
    refine k_aload_n C 0 dX5_falls_18 rfl rfl rfl ?_
    refine g_X5_present C rfl kw_1_160 dX5_falls_19 rfl ?_
    obtain ⟨s4, e5, hf⟩ := kf_b hf
    refine k_callV C [kr Z 1] (mX4_become yd_16 yd_1 e5) (yd_4 yd_16) (by decide) rfl kw_2_164 kw_2_165 kw_2_166 kw_1_2 kw_2_167 qX4_become rfl ⟨by decide, by decide⟩ ⟨rfl, rfl⟩ (Nat.le_of_ble_eq_true rfl) dX5_falls_22 rfl ?_ rfl
    refine (show kV Z 3 25 [(0, kr Z 0), (1, .int v1)] [] s4 from ?_)
    refine k_aload_n C 0 dX5_falls_25 rfl rfl rfl ?_
    refine g_X5_trial C rfl kw_1_161 dX5_falls_26 rfl ?_
    refine k_iload_n C 1 dX5_falls_29 rfl rfl rfl ?_
    obtain ⟨q6, e7, hf⟩ := kf_b hf
    refine k_callV C [.int v1] (mX4_hoursTillFallen yd_16 e7) (yd_4 yd_16) (by decide) rfl kw_2_183 kw_2_184 kw_2_185 kw_1_2 kw_2_186 qX4_hoursTillFallen rfl ⟨by decide, by decide⟩ ⟨rfl, rfl⟩ (Nat.le_of_ble_eq_true rfl) dX5_falls_30 rfl ?_ rfl
    refine (show kV Z 3 33 [(0, kr Z 0), (1, .int v1)] [.int q6.1] q6.2 from ?_)
    refine k_istore_n (lv' := [(2, .int q6.1), (0, kr Z 0), (1, .int v1)]) C dX5_falls_33 rfl (by decide) rfl rfl ?_
    refine k_iload_n C 0 dX5_falls_34 rfl rfl rfl ?_
    refine k_sipush C (200 : Int32) dX5_falls_35 (by decide) rfl ?_
    refine k_icmp_le C 50 dX5_falls_38 rfl rfl (fun b8 => ?_) (fun b8 => ?_)
    · replace hf := kf_t hf b8
      refine k_iload_n C 0 dX5_falls_50 rfl rfl rfl ?_
      exact k_iret C K hf dX5_falls_51
    · replace hf := kf_f hf b8
      refine k_aload_n C 1 dX5_falls_41 rfl rfl rfl ?_
      refine k_ldc C (-1000000004 : Int32) kw_2_187 dX5_falls_42 rfl ?_
      obtain ⟨q9, e10, hf⟩ := kf_b hf
      refine k_callV C [.int (-1000000004 : Int32)] (mX5_tell e10) rfl (by decide) rfl kw_1_193 kw_1_195 kw_0_0 kw_1_1 kw_1_196 qX5_tell rfl ⟨by decide, by decide⟩ ⟨rfl, rfl⟩ (Nat.le_of_ble_eq_true rfl) dX5_falls_44 rfl ?_ rfl
      refine (show kV Z 3 47 [(2, .int q6.1), (0, kr Z 0), (1, .int v1)] [.int q9.1] q9.2 from ?_)
      refine k_goto C 51 dX5_falls_47 rfl ?_
      exact k_iret C K hf dX5_falls_51
  · replace hf := kf_t hf b3
    refine k_aload_n C 0 dX5_falls_7 rfl rfl rfl ?_
    refine k_ldc C (-1000000001 : Int32) kw_1_192 dX5_falls_8 rfl ?_
    obtain ⟨q11, e12, hf⟩ := kf_b hf
    refine k_callV C [.int (-1000000001 : Int32)] (mX5_tell e12) rfl (by decide) rfl kw_1_193 kw_1_195 kw_0_0 kw_1_1 kw_1_196 qX5_tell rfl ⟨by decide, by decide⟩ ⟨rfl, rfl⟩ (Nat.le_of_ble_eq_true rfl) dX5_falls_10 rfl ?_ rfl
    refine (show kV Z 3 13 [(0, kr Z 0), (1, .int v1)] [.int q11.1] q11.2 from ?_)
    exact k_iret C K hf dX5_falls_13
theorem mX5_falls {G : kG} {v1 : Int32}  {st : kM} {res : Int32 × kM} (hf : fX5_falls v1 st = some res) : kCt G yX5_falls cX5_falls 3 (some .int) rmX5_falls [.ref (G.2.1 0), .int v1] st (some (.int res.1)) res.2 := kMet (by decide) (Nat.le_of_ble_eq_true rfl) ⟨rfl, rfl⟩ (fun X A Q C K => tX5_falls C  hf K)
theorem qX5_falls : yX5_falls.cls = RX5 ∧ yX5_falls.cls ≠ "java/lang/invoke/MethodHandle" ∧ yX5_falls.cls ≠ "java/lang/invoke/VarHandle" ∧ (parseMethodDescriptor yX5_falls.desc).map (fun d => d.parameters.length) = some 1 := ⟨rfl, by decide, by decide, by decide +kernel⟩
-- TalkKnots.gives(I)I
def rmX5_gives : Room := { frames := 6, cells := 0, slots := 0, locals := 131 }
def fX5_gives (v1 : Int32) (st : kM) : Option (Int32 × kM) :=
  (fX5_isKnot v1 st).bind fun q1 => (if q1.1 = 0 then ((fX5_tell (-1000000001 : Int32) q1.2).bind fun q12 => (some (q12.1, q12.2))) else ((fX4_become 16 1 q1.2).bind fun s4 => (if v1 < 0 ∨ 10 ≤ v1.toNatClampNeg then none else ((fX4_hoursTillLoose 16 (16 + 5 + v1.toNatClampNeg) s4).bind fun q7 => (if q7.1 ≤ (200 : Int32) then (some (q7.1, q7.2)) else ((fX5_tell (-1000000004 : Int32) q7.2).bind fun q10 => (some (q10.1, q10.2))))))))
set_option maxRecDepth 100000 in
theorem tX5_gives {Z : kZ} (C : kC Z cX5_gives RX5 3 rmX5_gives) {v1 : Int32}  {st : kM} {res : Int32 × kM} (hf : fX5_gives v1 st = some res) (K : kEnd Z (some .int) (some (.int res.1)) res.2) : kV Z 3 0 [(0, kr Z 0), (1, .int v1)] [] st := by
  unfold fX5_gives at hf
  refine k_aload_n C 0 dX5_gives_0 rfl rfl rfl ?_
  refine k_iload_n C 1 dX5_gives_1 rfl rfl rfl ?_
  obtain ⟨q1, e2, hf⟩ := kf_b hf
  refine k_callV C [.int v1] (mX5_isKnot e2) rfl (by decide) rfl kw_2_65 kw_2_67 kw_0_5 kw_1_1 kw_2_68 qX5_isKnot rfl ⟨by decide, by decide⟩ ⟨rfl, rfl⟩ (Nat.le_of_ble_eq_true rfl) dX5_gives_2 rfl ?_ rfl
  refine (show kV Z 3 5 [(0, kr Z 0), (1, .int v1)] [.int q1.1] q1.2 from ?_)
  refine k_if_ne C 15 dX5_gives_5 rfl rfl (fun b3 => ?_) (fun b3 => ?_)
  · replace hf := kf_f hf b3
    refine k_aload_n C 0 dX5_gives_15 rfl rfl rfl ?_
    refine g_X5_trial C rfl kw_1_161 dX5_gives_16 rfl ?_
    refine k_aload_n C 0 dX5_gives_19 rfl rfl rfl ?_
    refine g_X5_present C rfl kw_1_160 dX5_gives_20 rfl ?_
    obtain ⟨s4, e5, hf⟩ := kf_b hf
    refine k_callV C [kr Z 1] (mX4_become yd_16 yd_1 e5) (yd_4 yd_16) (by decide) rfl kw_2_164 kw_2_165 kw_2_166 kw_1_2 kw_2_167 qX4_become rfl ⟨by decide, by decide⟩ ⟨rfl, rfl⟩ (Nat.le_of_ble_eq_true rfl) dX5_gives_23 rfl ?_ rfl
    refine (show kV Z 3 26 [(0, kr Z 0), (1, .int v1)] [] s4 from ?_)
    refine k_aload_n C 0 dX5_gives_26 rfl rfl rfl ?_
    refine g_X5_trial C rfl kw_1_161 dX5_gives_27 rfl ?_
    refine k_aload_n C 0 dX5_gives_30 rfl rfl rfl ?_
    refine g_X5_trial C rfl kw_1_161 dX5_gives_31 rfl ?_
    refine g_X4_knots C (yd_4 yd_16) kw_1_79 dX5_gives_34 rfl ?_
    refine k_iload_n C 1 dX5_gives_37 rfl rfl rfl ?_
    obtain ⟨g6, hf⟩ := kf_g hf
    refine k_aldK C yd_16 g6 dX5_gives_38 rfl ?_
    obtain ⟨q7, e8, hf⟩ := kf_b hf
    refine k_callV C [kr Z (16 + 5 + v1.toNatClampNeg)] (mX4_hoursTillLoose yd_16 (yd_n yd_16 (vi_lt g6)) e8) (yd_4 yd_16) (by decide) rfl kw_2_192 kw_2_193 kw_2_194 kw_1_2 kw_2_195 qX4_hoursTillLoose rfl ⟨by decide, by decide⟩ ⟨rfl, rfl⟩ (Nat.le_of_ble_eq_true rfl) dX5_gives_39 rfl ?_ rfl
    refine (show kV Z 3 42 [(0, kr Z 0), (1, .int v1)] [.int q7.1] q7.2 from ?_)
    refine k_istore_n (lv' := [(2, .int q7.1), (0, kr Z 0), (1, .int v1)]) C dX5_gives_42 rfl (by decide) rfl rfl ?_
    refine k_iload_n C 0 dX5_gives_43 rfl rfl rfl ?_
    refine k_sipush C (200 : Int32) dX5_gives_44 (by decide) rfl ?_
    refine k_icmp_le C 59 dX5_gives_47 rfl rfl (fun b9 => ?_) (fun b9 => ?_)
    · replace hf := kf_t hf b9
      refine k_iload_n C 0 dX5_gives_59 rfl rfl rfl ?_
      exact k_iret C K hf dX5_gives_60
    · replace hf := kf_f hf b9
      refine k_aload_n C 1 dX5_gives_50 rfl rfl rfl ?_
      refine k_ldc C (-1000000004 : Int32) kw_2_187 dX5_gives_51 rfl ?_
      obtain ⟨q10, e11, hf⟩ := kf_b hf
      refine k_callV C [.int (-1000000004 : Int32)] (mX5_tell e11) rfl (by decide) rfl kw_1_193 kw_1_195 kw_0_0 kw_1_1 kw_1_196 qX5_tell rfl ⟨by decide, by decide⟩ ⟨rfl, rfl⟩ (Nat.le_of_ble_eq_true rfl) dX5_gives_53 rfl ?_ rfl
      refine (show kV Z 3 56 [(2, .int q7.1), (0, kr Z 0), (1, .int v1)] [.int q10.1] q10.2 from ?_)
      refine k_goto C 60 dX5_gives_56 rfl ?_
      exact k_iret C K hf dX5_gives_60
  · replace hf := kf_t hf b3
    refine k_aload_n C 0 dX5_gives_8 rfl rfl rfl ?_
    refine k_ldc C (-1000000001 : Int32) kw_1_192 dX5_gives_9 rfl ?_
    obtain ⟨q12, e13, hf⟩ := kf_b hf
    refine k_callV C [.int (-1000000001 : Int32)] (mX5_tell e13) rfl (by decide) rfl kw_1_193 kw_1_195 kw_0_0 kw_1_1 kw_1_196 qX5_tell rfl ⟨by decide, by decide⟩ ⟨rfl, rfl⟩ (Nat.le_of_ble_eq_true rfl) dX5_gives_11 rfl ?_ rfl
    refine (show kV Z 3 14 [(0, kr Z 0), (1, .int v1)] [.int q12.1] q12.2 from ?_)
    exact k_iret C K hf dX5_gives_14
theorem mX5_gives {G : kG} {v1 : Int32}  {st : kM} {res : Int32 × kM} (hf : fX5_gives v1 st = some res) : kCt G yX5_gives cX5_gives 3 (some .int) rmX5_gives [.ref (G.2.1 0), .int v1] st (some (.int res.1)) res.2 := kMet (by decide) (Nat.le_of_ble_eq_true rfl) ⟨rfl, rfl⟩ (fun X A Q C K => tX5_gives C  hf K)
theorem qX5_gives : yX5_gives.cls = RX5 ∧ yX5_gives.cls ≠ "java/lang/invoke/MethodHandle" ∧ yX5_gives.cls ≠ "java/lang/invoke/VarHandle" ∧ (parseMethodDescriptor yX5_gives.desc).map (fun d => d.parameters.length) = some 1 := ⟨rfl, by decide, by decide, by decide +kernel⟩
-- TalkKnots.best(I)I
def rmX5_best : Room := { frames := 6, cells := 0, slots := 0, locals := 131 }
def fX5_best_39 : Nat → Int32 → Int32 → Int32 → Int32 → kM → Option (Int32 × kM)
  | 0, _, _, _, _, _ => none
  | n + 1, x1, x2, x3, x4, st =>
    if (st.1 1 1) ≤ x4 then (if 0 ≤ x3 then (some (x3, st)) else ((fX5_tell (-1000000004 : Int32) st).bind fun q3 => (some (q3.1, q3.2)))) else ((fX4_become 16 1 st).bind fun s5 => (if x4 < 0 ∨ 10 ≤ x4.toNatClampNeg then none else ((fX0_beTeased (16 + 5 + x4.toNatClampNeg) s5).bind fun s8 => ((fX4_hoursTillFallen 16 x1 s8).bind fun q10 => (if q10.1 ≤ x2 then (fX5_best_39 n x1 x2 x3 (x4 + (1 : Int32)) q10.2) else (fX5_best_39 n x1 q10.1 x4 (x4 + (1 : Int32)) q10.2))))))
def fX5_best (v1 : Int32) (st : kM) : Option (Int32 × kM) :=
  (fX5_isMast v1 st).bind fun q1 => (if q1.1 = 0 then ((fX5_tell (-1000000001 : Int32) q1.2).bind fun q8 => (some (q8.1, q8.2))) else ((fX4_become 16 1 q1.2).bind fun s4 => ((fX4_hoursTillFallen 16 v1 s4).bind fun q6 => (fX5_best_39 kfu v1 q6.1 (-1 : Int32) (0 : Int32) q6.2))))
set_option maxRecDepth 100000 in
theorem tX5_best_39 {Z : kZ} (C : kC Z cX5_best RX5 6 rmX5_best) {res : Int32 × kM} (K : kEnd Z (some .int) (some (.int res.1)) res.2) : ∀ (n : Nat) (x1 : Int32) (x2 : Int32) (x3 : Int32) (x4 : Int32) (st : kM), fX5_best_39 n x1 x2 x3 x4 st = some res → kV Z 6 39 [(0, kr Z 0), (1, .int x1), (2, .int x2), (3, .int x3), (4, .int x4)] [] st := by
  intro n
  induction n with
  | zero => intro x1 x2 x3 x4 st hf; cases hf
  | succ n ih =>
    intro x1 x2 x3 x4 st hf
    unfold fX5_best_39 at hf
    refine k_iload C 4 dX5_best_39 rfl rfl ?_
    refine k_aload_n C 0 dX5_best_41 rfl rfl rfl ?_
    refine g_X5_present C rfl kw_1_160 dX5_best_42 rfl ?_
    refine g_X4_count C (yd_4 yd_1) kw_1_68 dX5_best_45 rfl ?_
    refine k_icmp_ge C 103 dX5_best_48 rfl rfl (fun b1 => ?_) (fun b1 => ?_)
    · replace hf := kf_t hf b1
      refine k_iload_n C 3 dX5_best_103 rfl rfl rfl ?_
      refine k_if_ge C 116 dX5_best_104 rfl rfl (fun b2 => ?_) (fun b2 => ?_)
      · replace hf := kf_t hf b2
        refine k_iload_n C 3 dX5_best_116 rfl rfl rfl ?_
        exact k_iret C K hf dX5_best_117
      · replace hf := kf_f hf b2
        refine k_aload_n C 0 dX5_best_107 rfl rfl rfl ?_
        refine k_ldc C (-1000000004 : Int32) kw_2_187 dX5_best_108 rfl ?_
        obtain ⟨q3, e4, hf⟩ := kf_b hf
        refine k_callV C [.int (-1000000004 : Int32)] (mX5_tell e4) rfl (by decide) rfl kw_1_193 kw_1_195 kw_0_0 kw_1_1 kw_1_196 qX5_tell rfl ⟨by decide, by decide⟩ ⟨rfl, rfl⟩ (Nat.le_of_ble_eq_true rfl) dX5_best_110 rfl ?_ rfl
        refine (show kV Z 6 113 [(0, kr Z 0), (1, .int x1), (2, .int x2), (3, .int x3), (4, .int x4)] [.int q3.1] q3.2 from ?_)
        refine k_goto C 117 dX5_best_113 rfl ?_
        exact k_iret C K hf dX5_best_117
    · replace hf := kf_f hf b1
      refine k_aload_n C 0 dX5_best_51 rfl rfl rfl ?_
      refine g_X5_trial C rfl kw_1_161 dX5_best_52 rfl ?_
      refine k_aload_n C 0 dX5_best_55 rfl rfl rfl ?_
      refine g_X5_present C rfl kw_1_160 dX5_best_56 rfl ?_
      obtain ⟨s5, e6, hf⟩ := kf_b hf
      refine k_callV C [kr Z 1] (mX4_become yd_16 yd_1 e6) (yd_4 yd_16) (by decide) rfl kw_2_164 kw_2_165 kw_2_166 kw_1_2 kw_2_167 qX4_become rfl ⟨by decide, by decide⟩ ⟨rfl, rfl⟩ (Nat.le_of_ble_eq_true rfl) dX5_best_59 rfl ?_ rfl
      refine (show kV Z 6 62 [(0, kr Z 0), (1, .int x1), (2, .int x2), (3, .int x3), (4, .int x4)] [] s5 from ?_)
      refine k_aload_n C 0 dX5_best_62 rfl rfl rfl ?_
      refine g_X5_trial C rfl kw_1_161 dX5_best_63 rfl ?_
      refine g_X4_knots C (yd_4 yd_16) kw_1_79 dX5_best_66 rfl ?_
      refine k_iload C 4 dX5_best_69 rfl rfl ?_
      obtain ⟨g7, hf⟩ := kf_g hf
      refine k_aldK C yd_16 g7 dX5_best_71 rfl ?_
      obtain ⟨s8, e9, hf⟩ := kf_b hf
      refine k_callV C [] (mX0_beTeased (yd_n yd_16 (vi_lt g7)) e9) (yd_n yd_16 (vi_lt g7)) (by decide) rfl kw_2_107 kw_2_108 kw_2_109 kw_1_3 kw_2_110 qX0_beTeased rfl ⟨by decide, by decide⟩ ⟨rfl, rfl⟩ (Nat.le_of_ble_eq_true rfl) dX5_best_72 rfl ?_ rfl
      refine (show kV Z 6 75 [(0, kr Z 0), (1, .int x1), (2, .int x2), (3, .int x3), (4, .int x4)] [] s8 from ?_)
      refine k_aload_n C 0 dX5_best_75 rfl rfl rfl ?_
      refine g_X5_trial C rfl kw_1_161 dX5_best_76 rfl ?_
      refine k_iload_n C 1 dX5_best_79 rfl rfl rfl ?_
      obtain ⟨q10, e11, hf⟩ := kf_b hf
      refine k_callV C [.int x1] (mX4_hoursTillFallen yd_16 e11) (yd_4 yd_16) (by decide) rfl kw_2_183 kw_2_184 kw_2_185 kw_1_2 kw_2_186 qX4_hoursTillFallen rfl ⟨by decide, by decide⟩ ⟨rfl, rfl⟩ (Nat.le_of_ble_eq_true rfl) dX5_best_80 rfl ?_ rfl
      refine (show kV Z 6 83 [(0, kr Z 0), (1, .int x1), (2, .int x2), (3, .int x3), (4, .int x4)] [.int q10.1] q10.2 from ?_)
      refine k_istore (lv' := [(5, .int q10.1), (0, kr Z 0), (1, .int x1), (2, .int x2), (3, .int x3), (4, .int x4)]) C dX5_best_83 (by decide) rfl rfl ?_
      refine k_iload C 0 dX5_best_85 rfl rfl ?_
      refine k_iload_n C 3 dX5_best_87 rfl rfl rfl ?_
      refine k_icmp_le C 97 dX5_best_88 rfl rfl (fun b12 => ?_) (fun b12 => ?_)
      · replace hf := kf_t hf b12
        refine k_iinc (lv' := [(4, .int (x4 + (1 : Int32))), (5, .int q10.1), (0, kr Z 0), (1, .int x1), (2, .int x2), (3, .int x3)]) C (x4 + (1 : Int32)) 5 dX5_best_97 rfl rfl (by decide) rfl rfl ?_
        refine k_goto C 39 dX5_best_100 rfl ?_
        refine k_lv (lv' := [(0, kr Z 0), (1, .int x1), (2, .int x2), (3, .int x3), (4, .int (x4 + (1 : Int32)))]) [2, 3, 4, 5, 0] rfl ?_
        exact ih x1 x2 x3 (x4 + (1 : Int32)) q10.2  hf
      · replace hf := kf_f hf b12
        refine k_iload C 0 dX5_best_91 rfl rfl ?_
        refine k_istore_n (lv' := [(2, .int q10.1), (5, .int q10.1), (0, kr Z 0), (1, .int x1), (3, .int x3), (4, .int x4)]) C dX5_best_93 rfl (by decide) rfl rfl ?_
        refine k_iload C 5 dX5_best_94 rfl rfl ?_
        refine k_istore_n (lv' := [(3, .int x4), (2, .int q10.1), (5, .int q10.1), (0, kr Z 0), (1, .int x1), (4, .int x4)]) C dX5_best_96 rfl (by decide) rfl rfl ?_
        refine k_iinc (lv' := [(4, .int (x4 + (1 : Int32))), (3, .int x4), (2, .int q10.1), (5, .int q10.1), (0, kr Z 0), (1, .int x1)]) C (x4 + (1 : Int32)) 5 dX5_best_97 rfl rfl (by decide) rfl rfl ?_
        refine k_goto C 39 dX5_best_100 rfl ?_
        refine k_lv (lv' := [(0, kr Z 0), (1, .int x1), (2, .int q10.1), (3, .int x4), (4, .int (x4 + (1 : Int32)))]) [4, 5, 2, 1, 0] rfl ?_
        exact ih x1 q10.1 x4 (x4 + (1 : Int32)) q10.2  hf
set_option maxRecDepth 100000 in
theorem tX5_best {Z : kZ} (C : kC Z cX5_best RX5 6 rmX5_best) {v1 : Int32}  {st : kM} {res : Int32 × kM} (hf : fX5_best v1 st = some res) (K : kEnd Z (some .int) (some (.int res.1)) res.2) : kV Z 6 0 [(0, kr Z 0), (1, .int v1)] [] st := by
  unfold fX5_best at hf
  refine k_iload_n C 1 dX5_best_0 rfl rfl rfl ?_
  obtain ⟨q1, e2, hf⟩ := kf_b hf
  refine k_callS C [.int v1] (mX5_isMast e2) kw_1_201 kw_1_202 kw_1_1 kw_1_203 qX5_isMast rfl ⟨by decide, by decide⟩ ⟨rfl, rfl⟩ (Nat.le_of_ble_eq_true rfl) dX5_best_1 rfl ?_ rfl
  refine (show kV Z 6 4 [(0, kr Z 0), (1, .int v1)] [.int q1.1] q1.2 from ?_)
  refine k_if_ne C 14 dX5_best_4 rfl rfl (fun b3 => ?_) (fun b3 => ?_)
  · replace hf := kf_f hf b3
    refine k_aload_n C 0 dX5_best_14 rfl rfl rfl ?_
    refine g_X5_trial C rfl kw_1_161 dX5_best_15 rfl ?_
    refine k_aload_n C 0 dX5_best_18 rfl rfl rfl ?_
    refine g_X5_present C rfl kw_1_160 dX5_best_19 rfl ?_
    obtain ⟨s4, e5, hf⟩ := kf_b hf
    refine k_callV C [kr Z 1] (mX4_become yd_16 yd_1 e5) (yd_4 yd_16) (by decide) rfl kw_2_164 kw_2_165 kw_2_166 kw_1_2 kw_2_167 qX4_become rfl ⟨by decide, by decide⟩ ⟨rfl, rfl⟩ (Nat.le_of_ble_eq_true rfl) dX5_best_22 rfl ?_ rfl
    refine (show kV Z 6 25 [(0, kr Z 0), (1, .int v1)] [] s4 from ?_)
    refine k_aload_n C 0 dX5_best_25 rfl rfl rfl ?_
    refine g_X5_trial C rfl kw_1_161 dX5_best_26 rfl ?_
    refine k_iload_n C 1 dX5_best_29 rfl rfl rfl ?_
    obtain ⟨q6, e7, hf⟩ := kf_b hf
    refine k_callV C [.int v1] (mX4_hoursTillFallen yd_16 e7) (yd_4 yd_16) (by decide) rfl kw_2_183 kw_2_184 kw_2_185 kw_1_2 kw_2_186 qX4_hoursTillFallen rfl ⟨by decide, by decide⟩ ⟨rfl, rfl⟩ (Nat.le_of_ble_eq_true rfl) dX5_best_30 rfl ?_ rfl
    refine (show kV Z 6 33 [(0, kr Z 0), (1, .int v1)] [.int q6.1] q6.2 from ?_)
    refine k_istore_n (lv' := [(2, .int q6.1), (0, kr Z 0), (1, .int v1)]) C dX5_best_33 rfl (by decide) rfl rfl ?_
    refine k_iconst C (-1 : Int32) dX5_best_34 (by decide) rfl ?_
    refine k_istore_n (lv' := [(3, .int (-1 : Int32)), (2, .int q6.1), (0, kr Z 0), (1, .int v1)]) C dX5_best_35 rfl (by decide) rfl rfl ?_
    refine k_iconst C (0 : Int32) dX5_best_36 (by decide) rfl ?_
    refine k_istore (lv' := [(4, .int (0 : Int32)), (3, .int (-1 : Int32)), (2, .int q6.1), (0, kr Z 0), (1, .int v1)]) C dX5_best_37 (by decide) rfl rfl ?_
    refine k_lv (lv' := [(0, kr Z 0), (1, .int v1), (2, .int q6.1), (3, .int (-1 : Int32)), (4, .int (0 : Int32))]) [3, 4, 2, 1, 0] rfl ?_
    exact tX5_best_39 C K _ v1 q6.1 (-1 : Int32) (0 : Int32) q6.2 hf
  · replace hf := kf_t hf b3
    refine k_aload_n C 0 dX5_best_7 rfl rfl rfl ?_
    refine k_ldc C (-1000000001 : Int32) kw_1_192 dX5_best_8 rfl ?_
    obtain ⟨q8, e9, hf⟩ := kf_b hf
    refine k_callV C [.int (-1000000001 : Int32)] (mX5_tell e9) rfl (by decide) rfl kw_1_193 kw_1_195 kw_0_0 kw_1_1 kw_1_196 qX5_tell rfl ⟨by decide, by decide⟩ ⟨rfl, rfl⟩ (Nat.le_of_ble_eq_true rfl) dX5_best_10 rfl ?_ rfl
    refine (show kV Z 6 13 [(0, kr Z 0), (1, .int v1)] [.int q8.1] q8.2 from ?_)
    exact k_iret C K hf dX5_best_13
theorem mX5_best {G : kG} {v1 : Int32}  {st : kM} {res : Int32 × kM} (hf : fX5_best v1 st = some res) : kCt G yX5_best cX5_best 6 (some .int) rmX5_best [.ref (G.2.1 0), .int v1] st (some (.int res.1)) res.2 := kMet (by decide) (Nat.le_of_ble_eq_true rfl) ⟨rfl, rfl⟩ (fun X A Q C K => tX5_best C  hf K)
theorem qX5_best : yX5_best.cls = RX5 ∧ yX5_best.cls ≠ "java/lang/invoke/MethodHandle" ∧ yX5_best.cls ≠ "java/lang/invoke/VarHandle" ∧ (parseMethodDescriptor yX5_best.desc).map (fun d => d.parameters.length) = some 1 := ⟨rfl, by decide, by decide, by decide +kernel⟩
