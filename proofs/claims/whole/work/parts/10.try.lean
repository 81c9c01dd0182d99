-- TalkKnots$Knot.begin(II)V
def rmX0_begin : Room := { frames := 0, cells := 0, slots := 0, locals := 0 }
def fX0_begin (c : Nat) (v1 : Int32) (v2 : Int32) (st : kM) : Option (kM) :=
  (some (kwr st c 0 v1)).bind fun s1 => ((some (kwr s1 c 1 v2)).bind fun s3 => ((some (kwr s3 c 2 (50 : Int32))).bind fun s5 => ((some (kwr s5 c 3 (0 : Int32))).bind fun s7 => ((some (kwr s7 c 4 (1 : Int32))).bind fun s9 => (some s9)))))
set_option maxRecDepth 100000 in
theorem tX0_begin {Z : kZ} (C : kC Z cX0_begin RX0 3 rmX0_begin) {c : Nat} {v1 : Int32} {v2 : Int32} (hc : kd c = 0) {st : kM} {res : kM} (hf : fX0_begin c v1 v2 st = some res) (K : kEnd Z none none res) : kV Z 3 0 [(0, kr Z c), (1, .int v1), (2, .int v2)] [] st := by
  unfold fX0_begin at hf
  refine k_aload_n C 0 dX0_begin_0 rfl rfl rfl ?_
  refine k_iload_n C 1 dX0_begin_1 rfl rfl rfl ?_
  refine p_X0_kind C hc kw_1_36 dX0_begin_2 rfl ?_
  obtain ⟨s1, e2, hf⟩ := kf_b hf
  refine k_st e2 ?_
  refine k_aload_n C 0 dX0_begin_5 rfl rfl rfl ?_
  refine k_iload_n C 2 dX0_begin_6 rfl rfl rfl ?_
  refine p_X0_mast C hc kw_1_38 dX0_begin_7 rfl ?_
  obtain ⟨s3, e4, hf⟩ := kf_b hf
  refine k_st e4 ?_
  refine k_aload_n C 0 dX0_begin_10 rfl rfl rfl ?_
  refine k_bipush C (50 : Int32) dX0_begin_11 (by decide) rfl ?_
  refine p_X0_open C hc kw_1_41 dX0_begin_13 rfl ?_
  obtain ⟨s5, e6, hf⟩ := kf_b hf
  refine k_st e6 ?_
  refine k_aload_n C 0 dX0_begin_16 rfl rfl rfl ?_
  refine k_iconst C (0 : Int32) dX0_begin_17 (by decide) rfl ?_
  refine p_X0_age C hc kw_1_45 dX0_begin_18 rfl ?_
  obtain ⟨s7, e8, hf⟩ := kf_b hf
  refine k_st e8 ?_
  refine k_aload_n C 0 dX0_begin_21 rfl rfl rfl ?_
  refine k_iconst C (1 : Int32) dX0_begin_22 (by decide) rfl ?_
  refine p_X0_fast C (by decide) hc kw_1_48 dX0_begin_23 rfl ?_
  obtain ⟨s9, e10, hf⟩ := kf_b hf
  refine k_st e10 ?_
  exact k_vret C K hf dX0_begin_26
theorem mX0_begin {G : kG} {c : Nat} {v1 : Int32} {v2 : Int32} (hc : kd c = 0) {st : kM} {res : kM} (hf : fX0_begin c v1 v2 st = some res) : kCt G yX0_begin cX0_begin 3 none rmX0_begin [.ref (G.2.1 c), .int v1, .int v2] st none res := kMet (by decide) (Nat.le_of_ble_eq_true rfl) ⟨rfl, rfl⟩ (fun X A Q C K => tX0_begin C hc hf K)
theorem qX0_begin : yX0_begin.cls = RX0 ∧ yX0_begin.cls ≠ "java/lang/invoke/MethodHandle" ∧ yX0_begin.cls ≠ "java/lang/invoke/VarHandle" ∧ (parseMethodDescriptor yX0_begin.desc).map (fun d => d.parameters.length) = some 2 := ⟨rfl, by decide, by decide, by decide +kernel⟩
-- TalkKnots$Knot.beLike(LTalkKnots$Knot;)V
def rmX0_beLike : Room := { frames := 0, cells := 0, slots := 0, locals := 0 }
def fX0_beLike (c : Nat) (c1 : Nat) (st : kM) : Option (kM) :=
  (some (kwr st c 0 (st.1 c1 0))).bind fun s1 => ((some (kwr s1 c 1 (s1.1 c1 1))).bind fun s3 => ((some (kwr s3 c 2 (s3.1 c1 2))).bind fun s5 => ((some (kwr s5 c 3 (s5.1 c1 3))).bind fun s7 => (if (s7.1 c1 4) = 0 ∨ (s7.1 c1 4) = 1 then ((some (kwr s7 c 4 (s7.1 c1 4))).bind fun s10 => (some s10)) else none))))
set_option maxRecDepth 100000 in
theorem tX0_beLike {Z : kZ} (C : kC Z cX0_beLike RX0 2 rmX0_beLike) {c : Nat} {c1 : Nat} (hc : kd c = 0) (hc1 : kd c1 = 0) {st : kM} {res : kM} (hf : fX0_beLike c c1 st = some res) (K : kEnd Z none none res) : kV Z 2 0 [(0, kr Z c), (1, kr Z c1)] [] st := by
  unfold fX0_beLike at hf
  refine k_aload_n C 0 dX0_beLike_0 rfl rfl rfl ?_
  refine k_aload_n C 1 dX0_beLike_1 rfl rfl rfl ?_
  refine g_X0_kind C hc1 kw_1_36 dX0_beLike_2 rfl ?_
  refine p_X0_kind C hc kw_1_36 dX0_beLike_5 rfl ?_
  obtain ⟨s1, e2, hf⟩ := kf_b hf
  refine k_st e2 ?_
  refine k_aload_n C 0 dX0_beLike_8 rfl rfl rfl ?_
  refine k_aload_n C 1 dX0_beLike_9 rfl rfl rfl ?_
  refine g_X0_mast C hc1 kw_1_38 dX0_beLike_10 rfl ?_
  refine p_X0_mast C hc kw_1_38 dX0_beLike_13 rfl ?_
  obtain ⟨s3, e4, hf⟩ := kf_b hf
  refine k_st e4 ?_
  refine k_aload_n C 0 dX0_beLike_16 rfl rfl rfl ?_
  refine k_aload_n C 1 dX0_beLike_17 rfl rfl rfl ?_
  refine g_X0_open C hc1 kw_1_41 dX0_beLike_18 rfl ?_
  refine p_X0_open C hc kw_1_41 dX0_beLike_21 rfl ?_
  obtain ⟨s5, e6, hf⟩ := kf_b hf
  refine k_st e6 ?_
  refine k_aload_n C 0 dX0_beLike_24 rfl rfl rfl ?_
  refine k_aload_n C 1 dX0_beLike_25 rfl rfl rfl ?_
  refine g_X0_age C hc1 kw_1_45 dX0_beLike_26 rfl ?_
  refine p_X0_age C hc kw_1_45 dX0_beLike_29 rfl ?_
  obtain ⟨s7, e8, hf⟩ := kf_b hf
  refine k_st e8 ?_
  refine k_aload_n C 0 dX0_beLike_32 rfl rfl rfl ?_
  refine k_aload_n C 1 dX0_beLike_33 rfl rfl rfl ?_
  refine g_X0_fast C hc1 kw_1_48 dX0_beLike_34 rfl ?_
  obtain ⟨g9, hf⟩ := kf_y hf
  refine p_X0_fast C g9 hc kw_1_48 dX0_beLike_37 rfl ?_
  obtain ⟨s10, e11, hf⟩ := kf_b hf
  refine k_st e11 ?_
  exact k_vret C K hf dX0_beLike_40
theorem mX0_beLike {G : kG} {c : Nat} {c1 : Nat} (hc : kd c = 0) (hc1 : kd c1 = 0) {st : kM} {res : kM} (hf : fX0_beLike c c1 st = some res) : kCt G yX0_beLike cX0_beLike 2 none rmX0_beLike [.ref (G.2.1 c), .ref (G.2.1 c1)] st none res := kMet (by decide) (Nat.le_of_ble_eq_true rfl) ⟨rfl, rfl⟩ (fun X A Q C K => tX0_beLike C hc hc1 hf K)
theorem qX0_beLike : yX0_beLike.cls = RX0 ∧ yX0_beLike.cls ≠ "java/lang/invoke/MethodHandle" ∧ yX0_beLike.cls ≠ "java/lang/invoke/VarHandle" ∧ (parseMethodDescriptor yX0_beLike.desc).map (fun d => d.parameters.length) = some 1 := ⟨rfl, by decide, by decide, by decide +kernel⟩
-- TalkKnots$Knot.isOf(I)Z
def rmX0_isOf : Room := { frames := 0, cells := 0, slots := 0, locals := 0 }
def fX0_isOf_25 (c : Nat) (x1 : Int32) (st : kM) : Option (Int32 × kM) :=
  if x1 = (2 : Int32) then (if (st.1 c 0) = (5 : Int32) then (some ((1 : Int32), st)) else (some ((0 : Int32), st))) else (some ((0 : Int32), st))
def fX0_isOf (c : Nat) (v1 : Int32) (st : kM) : Option (Int32 × kM) :=
  if v1 = (st.1 c 0) then (some ((1 : Int32), st)) else (if v1 = 0 then (some ((1 : Int32), st)) else (if v1 = (1 : Int32) then (if (st.1 c 0) = (4 : Int32) then (some ((1 : Int32), st)) else (fX0_isOf_25 c v1 st)) else (fX0_isOf_25 c v1 st)))
set_option maxRecDepth 100000 in
theorem tX0_isOf_25 {Z : kZ} (C : kC Z cX0_isOf RX0 2 rmX0_isOf) {c : Nat} (hc : kd c = 0) {res : Int32 × kM} (K : kEnd Z (some .boolean) (some (.int res.1)) res.2) : ∀ (x1 : Int32) (st : kM), fX0_isOf_25 c x1 st = some res → kV Z 2 25 [(0, kr Z c), (1, .int x1)] [] st := by
  intro x1 st hf
  unfold fX0_isOf_25 at hf
  refine k_iload_n C 1 dX0_isOf_25 rfl rfl rfl ?_
  refine k_iconst C (2 : Int32) dX0_isOf_26 (by decide) rfl ?_
  refine k_icmp_ne C 42 dX0_isOf_27 rfl rfl (fun b1 => ?_) (fun b1 => ?_)
  · replace hf := kf_f hf b1
    refine k_iconst C (0 : Int32) dX0_isOf_42 (by decide) rfl ?_
    exact k_zret C K hf rfl dX0_isOf_43
  · replace hf := kf_t hf b1
    refine k_aload_n C 0 dX0_isOf_30 rfl rfl rfl ?_
    refine g_X0_kind C hc kw_1_36 dX0_isOf_31 rfl ?_
    refine k_iconst C (5 : Int32) dX0_isOf_34 (by decide) rfl ?_
    refine k_icmp_ne C 42 dX0_isOf_35 rfl rfl (fun b2 => ?_) (fun b2 => ?_)
    · replace hf := kf_f hf b2
      refine k_iconst C (0 : Int32) dX0_isOf_42 (by decide) rfl ?_
      exact k_zret C K hf rfl dX0_isOf_43
    · replace hf := kf_t hf b2
      refine k_iconst C (1 : Int32) dX0_isOf_38 (by decide) rfl ?_
      refine k_goto C 43 dX0_isOf_39 rfl ?_
      exact k_zret C K hf rfl dX0_isOf_43
set_option maxRecDepth 100000 in
theorem tX0_isOf {Z : kZ} (C : kC Z cX0_isOf RX0 2 rmX0_isOf) {c : Nat} {v1 : Int32} (hc : kd c = 0) {st : kM} {res : Int32 × kM} (hf : fX0_isOf c v1 st = some res) (K : kEnd Z (some .boolean) (some (.int res.1)) res.2) : kV Z 2 0 [(0, kr Z c), (1, .int v1)] [] st := by
  unfold fX0_isOf at hf
  refine k_iload_n C 1 dX0_isOf_0 rfl rfl rfl ?_
  refine k_aload_n C 0 dX0_isOf_1 rfl rfl rfl ?_
  refine g_X0_kind C hc kw_1_36 dX0_isOf_2 rfl ?_
  refine k_icmp_eq C 38 dX0_isOf_5 rfl rfl (fun b1 => ?_) (fun b1 => ?_)
  · replace hf := kf_t hf b1
    refine k_iconst C (1 : Int32) dX0_isOf_38 (by decide) rfl ?_
    refine k_goto C 43 dX0_isOf_39 rfl ?_
    exact k_zret C K hf rfl dX0_isOf_43
  · replace hf := kf_f hf b1
    refine k_iload_n C 1 dX0_isOf_8 rfl rfl rfl ?_
    refine k_if_eq C 38 dX0_isOf_9 rfl rfl (fun b2 => ?_) (fun b2 => ?_)
    · replace hf := kf_t hf b2
      refine k_iconst C (1 : Int32) dX0_isOf_38 (by decide) rfl ?_
      refine k_goto C 43 dX0_isOf_39 rfl ?_
      exact k_zret C K hf rfl dX0_isOf_43
    · replace hf := kf_f hf b2
      refine k_iload_n C 1 dX0_isOf_12 rfl rfl rfl ?_
      refine k_iconst C (1 : Int32) dX0_isOf_13 (by decide) rfl ?_
      refine k_icmp_ne C 25 dX0_isOf_14 rfl rfl (fun b3 => ?_) (fun b3 => ?_)
      · replace hf := kf_f hf b3
        exact tX0_isOf_25 C hc K v1 st hf
      · replace hf := kf_t hf b3
        refine k_aload_n C 0 dX0_isOf_17 rfl rfl rfl ?_
        refine g_X0_kind C hc kw_1_36 dX0_isOf_18 rfl ?_
        refine k_iconst C (4 : Int32) dX0_isOf_21 (by decide) rfl ?_
        refine k_icmp_eq C 38 dX0_isOf_22 rfl rfl (fun b4 => ?_) (fun b4 => ?_)
        · replace hf := kf_t hf b4
          refine k_iconst C (1 : Int32) dX0_isOf_38 (by decide) rfl ?_
          refine k_goto C 43 dX0_isOf_39 rfl ?_
          exact k_zret C K hf rfl dX0_isOf_43
        · replace hf := kf_f hf b4
          exact tX0_isOf_25 C hc K v1 st hf
theorem mX0_isOf {G : kG} {c : Nat} {v1 : Int32} (hc : kd c = 0) {st : kM} {res : Int32 × kM} (hf : fX0_isOf c v1 st = some res) : kCt G yX0_isOf cX0_isOf 2 (some .boolean) rmX0_isOf [.ref (G.2.1 c), .int v1] st (some (.int res.1)) res.2 := kMet (by decide) (Nat.le_of_ble_eq_true rfl) ⟨rfl, rfl⟩ (fun X A Q C K => tX0_isOf C hc hf K)
theorem qX0_isOf : yX0_isOf.cls = RX0 ∧ yX0_isOf.cls ≠ "java/lang/invoke/MethodHandle" ∧ yX0_isOf.cls ≠ "java/lang/invoke/VarHandle" ∧ (parseMethodDescriptor yX0_isOf.desc).map (fun d => d.parameters.length) = some 1 := ⟨rfl, by decide, by decide, by decide +kernel⟩
-- TalkKnots$Knot.spliceHolding()I
def rmX0_spliceHolding : Room := { frames := 0, cells := 0, slots := 0, locals := 0 }
def fX0_spliceHolding (c : Nat) (st : kM) : Option (Int32 × kM) :=
  if (st.1 c 2) < (60 : Int32) then (some (((2 : Int32) * (st.1 c 2)), st)) else (some (((3 : Int32) * (st.1 c 2)), st))
set_option maxRecDepth 100000 in
theorem tX0_spliceHolding {Z : kZ} (C : kC Z cX0_spliceHolding RX0 1 rmX0_spliceHolding) {c : Nat} (hc : kd c = 0) {st : kM} {res : Int32 × kM} (hf : fX0_spliceHolding c st = some res) (K : kEnd Z (some .int) (some (.int res.1)) res.2) : kV Z 1 0 [(0, kr Z c)] [] st := by
  unfold fX0_spliceHolding at hf
  refine k_aload_n C 0 dX0_spliceHolding_0 rfl rfl rfl ?_
  refine g_X0_open C hc kw_1_41 dX0_spliceHolding_1 rfl ?_
  refine k_bipush C (60 : Int32) dX0_spliceHolding_4 (by decide) rfl ?_
  refine k_icmp_lt C 18 dX0_spliceHolding_6 rfl rfl (fun b1 => ?_) (fun b1 => ?_)
  · replace hf := kf_t hf b1
    refine k_iconst C (2 : Int32) dX0_spliceHolding_18 (by decide) rfl ?_
    refine k_aload_n C 0 dX0_spliceHolding_19 rfl rfl rfl ?_
    refine g_X0_open C hc kw_1_41 dX0_spliceHolding_20 rfl ?_
    refine k_imul C dX0_spliceHolding_23 rfl ?_
    exact k_iret C K hf dX0_spliceHolding_24
  · replace hf := kf_f hf b1
    refine k_iconst C (3 : Int32) dX0_spliceHolding_9 (by decide) rfl ?_
    refine k_aload_n C 0 dX0_spliceHolding_10 rfl rfl rfl ?_
    refine g_X0_open C hc kw_1_41 dX0_spliceHolding_11 rfl ?_
    refine k_imul C dX0_spliceHolding_14 rfl ?_
    refine k_goto C 24 dX0_spliceHolding_15 rfl ?_
    exact k_iret C K hf dX0_spliceHolding_24
theorem mX0_spliceHolding {G : kG} {c : Nat} (hc : kd c = 0) {st : kM} {res : Int32 × kM} (hf : fX0_spliceHolding c st = some res) : kCt G yX0_spliceHolding cX0_spliceHolding 1 (some .int) rmX0_spliceHolding [.ref (G.2.1 c)] st (some (.int res.1)) res.2 := kMet (by decide) (Nat.le_of_ble_eq_true rfl) ⟨rfl, rfl⟩ (fun X A Q C K => tX0_spliceHolding C hc hf K)
theorem qX0_spliceHolding : yX0_spliceHolding.cls = RX0 ∧ yX0_spliceHolding.cls ≠ "java/lang/invoke/MethodHandle" ∧ yX0_spliceHolding.cls ≠ "java/lang/invoke/VarHandle" ∧ (parseMethodDescriptor yX0_spliceHolding.desc).map (fun d => d.parameters.length) = some 0 := ⟨rfl, by decide, by decide, by decide +kernel⟩
-- TalkKnots$Knot.holding(II)I
def rmX0_holding : Room := { frames := 1, cells := 0, slots := 0, locals := 21 }
def fX0_holding (c : Nat) (v1 : Int32) (v2 : Int32) (st : kM) : Option (Int32 × kM) :=
  if (st.1 c 4) = 0 then (some ((0 : Int32), st)) else (if (st.1 c 0) = (1 : Int32) then ((fX0_spliceHolding c st).bind fun q3 => (some (q3.1, q3.2))) else (if (st.1 c 0) = (2 : Int32) then (some ((if (0 : Int32) < (((2 : Int32) * (st.1 c 2)) - v1) then (((2 : Int32) * (st.1 c 2)) - v1) else (0 : Int32)), st)) else (if (st.1 c 0) = (3 : Int32) then (some (((99 : Int32) - (st.1 c 2)), st)) else (if (st.1 c 0) = (4 : Int32) then ((fX0_spliceHolding c st).bind fun q8 => (some ((q8.1 + ((10 : Int32) * v2)), q8.2))) else (if (st.1 c 0) = (5 : Int32) then (some ((if (60 : Int32) < (((2 : Int32) * (st.1 c 2)) - v1) then (((2 : Int32) * (st.1 c 2)) - v1) else (60 : Int32)), st)) else (some (((2 : Int32) * (st.1 c 2)), st)))))))
set_option maxRecDepth 100000 in
theorem tX0_holding {Z : kZ} (C : kC Z cX0_holding RX0 3 rmX0_holding) {c : Nat} {v1 : Int32} {v2 : Int32} (hc : kd c = 0) {st : kM} {res : Int32 × kM} (hf : fX0_holding c v1 v2 st = some res) (K : kEnd Z (some .int) (some (.int res.1)) res.2) : kV Z 3 0 [(0, kr Z c), (1, .int v1), (2, .int v2)] [] st := by
  unfold fX0_holding at hf
  refine k_aload_n C 0 dX0_holding_0 rfl rfl rfl ?_
  refine g_X0_fast C hc kw_1_48 dX0_holding_1 rfl ?_
  refine k_if_ne C 9 dX0_holding_4 rfl rfl (fun b1 => ?_) (fun b1 => ?_)
  · replace hf := kf_f hf b1
    refine k_aload_n C 0 dX0_holding_9 rfl rfl rfl ?_
    refine g_X0_kind C hc kw_1_36 dX0_holding_10 rfl ?_
    by_cases b2 : (st.1 c 0) = (1 : Int32)
    · replace hf := kf_t hf b2
      refine k_tabIn C 48 dX0_holding_13 (by rw [b2]; decide) (by rw [b2]; decide) (by rw [b2]; rfl) rfl ?_
      refine k_aload_n C 0 dX0_holding_48 rfl rfl rfl ?_
      obtain ⟨q3, e4, hf⟩ := kf_b hf
      refine k_callV C [] (mX0_spliceHolding hc e4) hc (by decide) rfl kw_2_24 kw_2_26 kw_0_4 kw_1_3 kw_2_27 qX0_spliceHolding rfl ⟨by decide, by decide⟩ ⟨rfl, rfl⟩ (Nat.le_of_ble_eq_true rfl) dX0_holding_49 rfl ?_ rfl
      refine (show kV Z 3 52 [(0, kr Z c), (1, .int v1), (2, .int v2)] [.int q3.1] q3.2 from ?_)
      exact k_iret C K hf dX0_holding_52
    · replace hf := kf_f hf b2
      by_cases b5 : (st.1 c 0) = (2 : Int32)
      · replace hf := kf_t hf b5
        refine k_tabIn C 53 dX0_holding_13 (by rw [b5]; decide) (by rw [b5]; decide) (by rw [b5]; rfl) rfl ?_
        refine k_iconst C (0 : Int32) dX0_holding_53 (by decide) rfl ?_
        refine k_iconst C (2 : Int32) dX0_holding_54 (by decide) rfl ?_
        refine k_aload_n C 0 dX0_holding_55 rfl rfl rfl ?_
        refine g_X0_open C hc kw_1_41 dX0_holding_56 rfl ?_
        refine k_imul C dX0_holding_59 rfl ?_
        refine k_iload_n C 1 dX0_holding_60 rfl rfl rfl ?_
        refine k_isub C dX0_holding_61 rfl ?_
        refine k_mmax C kw_2_28 kw_2_29 kw_1_8 kw_2_30 ⟨by decide, by decide⟩ (Nat.le_of_ble_eq_true rfl) dX0_holding_62 rfl ?_
        exact k_iret C K hf dX0_holding_65
      · replace hf := kf_f hf b5
        by_cases b6 : (st.1 c 0) = (3 : Int32)
        · replace hf := kf_t hf b6
          refine k_tabIn C 66 dX0_holding_13 (by rw [b6]; decide) (by rw [b6]; decide) (by rw [b6]; rfl) rfl ?_
          refine k_bipush C (99 : Int32) dX0_holding_66 (by decide) rfl ?_
          refine k_aload_n C 0 dX0_holding_68 rfl rfl rfl ?_
          refine g_X0_open C hc kw_1_41 dX0_holding_69 rfl ?_
          refine k_isub C dX0_holding_72 rfl ?_
          exact k_iret C K hf dX0_holding_73
        · replace hf := kf_f hf b6
          by_cases b7 : (st.1 c 0) = (4 : Int32)
          · replace hf := kf_t hf b7
            refine k_tabIn C 74 dX0_holding_13 (by rw [b7]; decide) (by rw [b7]; decide) (by rw [b7]; rfl) rfl ?_
            refine k_aload_n C 0 dX0_holding_74 rfl rfl rfl ?_
            obtain ⟨q8, e9, hf⟩ := kf_b hf
            refine k_callV C [] (mX0_spliceHolding hc e9) hc (by decide) rfl kw_2_24 kw_2_26 kw_0_4 kw_1_3 kw_2_27 qX0_spliceHolding rfl ⟨by decide, by decide⟩ ⟨rfl, rfl⟩ (Nat.le_of_ble_eq_true rfl) dX0_holding_75 rfl ?_ rfl
            refine (show kV Z 3 78 [(0, kr Z c), (1, .int v1), (2, .int v2)] [.int q8.1] q8.2 from ?_)
            refine k_bipush C (10 : Int32) dX0_holding_78 (by decide) rfl ?_
            refine k_iload_n C 2 dX0_holding_80 rfl rfl rfl ?_
            refine k_imul C dX0_holding_81 rfl ?_
            refine k_iadd C dX0_holding_82 rfl ?_
            exact k_iret C K hf dX0_holding_83
          · replace hf := kf_f hf b7
            by_cases b10 : (st.1 c 0) = (5 : Int32)
            · replace hf := kf_t hf b10
              refine k_tabIn C 84 dX0_holding_13 (by rw [b10]; decide) (by rw [b10]; decide) (by rw [b10]; rfl) rfl ?_
              refine k_bipush C (60 : Int32) dX0_holding_84 (by decide) rfl ?_
              refine k_iconst C (2 : Int32) dX0_holding_86 (by decide) rfl ?_
              refine k_aload_n C 0 dX0_holding_87 rfl rfl rfl ?_
              refine g_X0_open C hc kw_1_41 dX0_holding_88 rfl ?_
              refine k_imul C dX0_holding_91 rfl ?_
              refine k_iload_n C 1 dX0_holding_92 rfl rfl rfl ?_
              refine k_isub C dX0_holding_93 rfl ?_
              refine k_mmax C kw_2_28 kw_2_29 kw_1_8 kw_2_30 ⟨by decide, by decide⟩ (Nat.le_of_ble_eq_true rfl) dX0_holding_94 rfl ?_
              exact k_iret C K hf dX0_holding_97
            · replace hf := kf_f hf b10
              have zb2 := ti_ne (1 : Int32) b2 (z := 1) rfl
              have zb5 := ti_ne (2 : Int32) b5 (z := 2) rfl
              have zb6 := ti_ne (3 : Int32) b6 (z := 3) rfl
              have zb7 := ti_ne (4 : Int32) b7 (z := 4) rfl
              have zb10 := ti_ne (5 : Int32) b10 (z := 5) rfl
              refine k_tabOut C 98 dX0_holding_13 (by omega) rfl ?_
              refine k_iconst C (2 : Int32) dX0_holding_98 (by decide) rfl ?_
              refine k_aload_n C 0 dX0_holding_99 rfl rfl rfl ?_
              refine g_X0_open C hc kw_1_41 dX0_holding_100 rfl ?_
              refine k_imul C dX0_holding_103 rfl ?_
              exact k_iret C K hf dX0_holding_104
  · replace hf := kf_t hf b1
    refine k_iconst C (0 : Int32) dX0_holding_7 (by decide) rfl ?_
    exact k_iret C K hf dX0_holding_8
theorem mX0_holding {G : kG} {c : Nat} {v1 : Int32} {v2 : Int32} (hc : kd c = 0) {st : kM} {res : Int32 × kM} (hf : fX0_holding c v1 v2 st = some res) : kCt G yX0_holding cX0_holding 3 (some .int) rmX0_holding [.ref (G.2.1 c), .int v1, .int v2] st (some (.int res.1)) res.2 := kMet (by decide) (Nat.le_of_ble_eq_true rfl) ⟨rfl, rfl⟩ (fun X A Q C K => tX0_holding C hc hf K)
theorem qX0_holding : yX0_holding.cls = RX0 ∧ yX0_holding.cls ≠ "java/lang/invoke/MethodHandle" ∧ yX0_holding.cls ≠ "java/lang/invoke/VarHandle" ∧ (parseMethodDescriptor yX0_holding.desc).map (fun d => d.parameters.length) = some 2 := ⟨rfl, by decide, by decide, by decide +kernel⟩
-- TalkKnots$Knot.settling(I)I
def rmX0_settling : Room := { frames := 0, cells := 0, slots := 0, locals := 0 }
def fX0_settling (c : Nat) (v1 : Int32) (st : kM) : Option (Int32 × kM) :=
  if (st.1 c 0) = (1 : Int32) then (if (st.1 c 2) < (60 : Int32) then (some ((2 : Int32), st)) else (some ((0 : Int32), st))) else (if (st.1 c 0) = (2 : Int32) then (some (((2 : Int32) + (v1 / (10 : Int32))), st)) else (if (st.1 c 0) = (3 : Int32) then (some ((-1 : Int32), st)) else (if (st.1 c 0) = (4 : Int32) then (if (st.1 c 2) < (60 : Int32) then (some ((1 : Int32), st)) else (some ((0 : Int32), st))) else (if (st.1 c 0) = (5 : Int32) then (if (6 : Int32) ≤ (st.1 c 3) then (some (((2 : Int32) + (v1 / (10 : Int32))), st)) else (some ((0 : Int32), st))) else (some ((2 : Int32), st))))))
set_option maxRecDepth 100000 in
theorem tX0_settling {Z : kZ} (C : kC Z cX0_settling RX0 2 rmX0_settling) {c : Nat} {v1 : Int32} (hc : kd c = 0) {st : kM} {res : Int32 × kM} (hf : fX0_settling c v1 st = some res) (K : kEnd Z (some .int) (some (.int res.1)) res.2) : kV Z 2 0 [(0, kr Z c), (1, .int v1)] [] st := by
  unfold fX0_settling at hf
  refine k_aload_n C 0 dX0_settling_0 rfl rfl rfl ?_
  refine g_X0_kind C hc kw_1_36 dX0_settling_1 rfl ?_
  by_cases b1 : (st.1 c 0) = (1 : Int32)
  · replace hf := kf_t hf b1
    refine k_tabIn C 40 dX0_settling_4 (by rw [b1]; decide) (by rw [b1]; decide) (by rw [b1]; rfl) rfl ?_
    refine k_aload_n C 0 dX0_settling_40 rfl rfl rfl ?_
    refine g_X0_open C hc kw_1_41 dX0_settling_41 rfl ?_
    refine k_bipush C (60 : Int32) dX0_settling_44 (by decide) rfl ?_
    refine k_icmp_lt C 53 dX0_settling_46 rfl rfl (fun b2 => ?_) (fun b2 => ?_)
    · replace hf := kf_t hf b2
      refine k_iconst C (2 : Int32) dX0_settling_53 (by decide) rfl ?_
      exact k_iret C K hf dX0_settling_54
    · replace hf := kf_f hf b2
      refine k_iconst C (0 : Int32) dX0_settling_49 (by decide) rfl ?_
      refine k_goto C 54 dX0_settling_50 rfl ?_
      exact k_iret C K hf dX0_settling_54
  · replace hf := kf_f hf b1
    by_cases b3 : (st.1 c 0) = (2 : Int32)
    · replace hf := kf_t hf b3
      refine k_tabIn C 55 dX0_settling_4 (by rw [b3]; decide) (by rw [b3]; decide) (by rw [b3]; rfl) rfl ?_
      refine k_iconst C (2 : Int32) dX0_settling_55 (by decide) rfl ?_
      refine k_iload_n C 1 dX0_settling_56 rfl rfl rfl ?_
      refine k_bipush C (10 : Int32) dX0_settling_57 (by decide) rfl ?_
      refine k_idiv C (by decide) dX0_settling_59 rfl ?_
      refine k_iadd C dX0_settling_60 rfl ?_
      exact k_iret C K hf dX0_settling_61
    · replace hf := kf_f hf b3
      by_cases b4 : (st.1 c 0) = (3 : Int32)
      · replace hf := kf_t hf b4
        refine k_tabIn C 62 dX0_settling_4 (by rw [b4]; decide) (by rw [b4]; decide) (by rw [b4]; rfl) rfl ?_
        refine k_iconst C (-1 : Int32) dX0_settling_62 (by decide) rfl ?_
        exact k_iret C K hf dX0_settling_63
      · replace hf := kf_f hf b4
        by_cases b5 : (st.1 c 0) = (4 : Int32)
        · replace hf := kf_t hf b5
          refine k_tabIn C 64 dX0_settling_4 (by rw [b5]; decide) (by rw [b5]; decide) (by rw [b5]; rfl) rfl ?_
          refine k_aload_n C 0 dX0_settling_64 rfl rfl rfl ?_
          refine g_X0_open C hc kw_1_41 dX0_settling_65 rfl ?_
          refine k_bipush C (60 : Int32) dX0_settling_68 (by decide) rfl ?_
          refine k_icmp_lt C 77 dX0_settling_70 rfl rfl (fun b6 => ?_) (fun b6 => ?_)
          · replace hf := kf_t hf b6
            refine k_iconst C (1 : Int32) dX0_settling_77 (by decide) rfl ?_
            exact k_iret C K hf dX0_settling_78
          · replace hf := kf_f hf b6
            refine k_iconst C (0 : Int32) dX0_settling_73 (by decide) rfl ?_
            refine k_goto C 78 dX0_settling_74 rfl ?_
            exact k_iret C K hf dX0_settling_78
        · replace hf := kf_f hf b5
          by_cases b7 : (st.1 c 0) = (5 : Int32)
          · replace hf := kf_t hf b7
            refine k_tabIn C 79 dX0_settling_4 (by rw [b7]; decide) (by rw [b7]; decide) (by rw [b7]; rfl) rfl ?_
            refine k_aload_n C 0 dX0_settling_79 rfl rfl rfl ?_
            refine g_X0_age C hc kw_1_45 dX0_settling_80 rfl ?_
            refine k_bipush C (6 : Int32) dX0_settling_83 (by decide) rfl ?_
            refine k_icmp_ge C 92 dX0_settling_85 rfl rfl (fun b8 => ?_) (fun b8 => ?_)
            · replace hf := kf_t hf b8
              refine k_iconst C (2 : Int32) dX0_settling_92 (by decide) rfl ?_
              refine k_iload_n C 1 dX0_settling_93 rfl rfl rfl ?_
              refine k_bipush C (10 : Int32) dX0_settling_94 (by decide) rfl ?_
              refine k_idiv C (by decide) dX0_settling_96 rfl ?_
              refine k_iadd C dX0_settling_97 rfl ?_
              exact k_iret C K hf dX0_settling_98
            · replace hf := kf_f hf b8
              refine k_iconst C (0 : Int32) dX0_settling_88 (by decide) rfl ?_
              refine k_goto C 98 dX0_settling_89 rfl ?_
              exact k_iret C K hf dX0_settling_98
          · replace hf := kf_f hf b7
            have zb1 := ti_ne (1 : Int32) b1 (z := 1) rfl
            have zb3 := ti_ne (2 : Int32) b3 (z := 2) rfl
            have zb4 := ti_ne (3 : Int32) b4 (z := 3) rfl
            have zb5 := ti_ne (4 : Int32) b5 (z := 4) rfl
            have zb7 := ti_ne (5 : Int32) b7 (z := 5) rfl
            refine k_tabOut C 99 dX0_settling_4 (by omega) rfl ?_
            refine k_iconst C (2 : Int32) dX0_settling_99 (by decide) rfl ?_
            exact k_iret C K hf dX0_settling_100
theorem mX0_settling {G : kG} {c : Nat} {v1 : Int32} (hc : kd c = 0) {st : kM} {res : Int32 × kM} (hf : fX0_settling c v1 st = some res) : kCt G yX0_settling cX0_settling 2 (some .int) rmX0_settling [.ref (G.2.1 c), .int v1] st (some (.int res.1)) res.2 := kMet (by decide) (Nat.le_of_ble_eq_true rfl) ⟨rfl, rfl⟩ (fun X A Q C K => tX0_settling C hc hf K)
theorem qX0_settling : yX0_settling.cls = RX0 ∧ yX0_settling.cls ≠ "java/lang/invoke/MethodHandle" ∧ yX0_settling.cls ≠ "java/lang/invoke/VarHandle" ∧ (parseMethodDescriptor yX0_settling.desc).map (fun d => d.parameters.length) = some 1 := ⟨rfl, by decide, by decide, by decide +kernel⟩
-- TalkKnots$Knot.teasing()I
def rmX0_teasing : Room := { frames := 0, cells := 0, slots := 0, locals := 0 }
def fX0_teasing (c : Nat) (st : kM) : Option (Int32 × kM) :=
  if (st.1 c 0) = (1 : Int32) then (some ((30 : Int32), st)) else (if (st.1 c 0) = (2 : Int32) then (some ((10 : Int32), st)) else (if (st.1 c 0) = (3 : Int32) then (some ((-20 : Int32), st)) else (if (st.1 c 0) = (4 : Int32) then (some ((30 : Int32), st)) else (if (st.1 c 0) = (5 : Int32) then (if (st.1 c 2) < (90 : Int32) then (some ((10 : Int32), st)) else (some ((0 : Int32), st))) else (some ((15 : Int32), st))))))
set_option maxRecDepth 100000 in
theorem tX0_teasing {Z : kZ} (C : kC Z cX0_teasing RX0 1 rmX0_teasing) {c : Nat} (hc : kd c = 0) {st : kM} {res : Int32 × kM} (hf : fX0_teasing c st = some res) (K : kEnd Z (some .int) (some (.int res.1)) res.2) : kV Z 1 0 [(0, kr Z c)] [] st := by
  unfold fX0_teasing at hf
  refine k_aload_n C 0 dX0_teasing_0 rfl rfl rfl ?_
  refine g_X0_kind C hc kw_1_36 dX0_teasing_1 rfl ?_
  by_cases b1 : (st.1 c 0) = (1 : Int32)
  · replace hf := kf_t hf b1
    refine k_tabIn C 40 dX0_teasing_4 (by rw [b1]; decide) (by rw [b1]; decide) (by rw [b1]; rfl) rfl ?_
    refine k_bipush C (30 : Int32) dX0_teasing_40 (by decide) rfl ?_
    exact k_iret C K hf dX0_teasing_42
  · replace hf := kf_f hf b1
    by_cases b2 : (st.1 c 0) = (2 : Int32)
    · replace hf := kf_t hf b2
      refine k_tabIn C 43 dX0_teasing_4 (by rw [b2]; decide) (by rw [b2]; decide) (by rw [b2]; rfl) rfl ?_
      refine k_bipush C (10 : Int32) dX0_teasing_43 (by decide) rfl ?_
      exact k_iret C K hf dX0_teasing_45
    · replace hf := kf_f hf b2
      by_cases b3 : (st.1 c 0) = (3 : Int32)
      · replace hf := kf_t hf b3
        refine k_tabIn C 46 dX0_teasing_4 (by rw [b3]; decide) (by rw [b3]; decide) (by rw [b3]; rfl) rfl ?_
        refine k_bipush C (-20 : Int32) dX0_teasing_46 (by decide) rfl ?_
        exact k_iret C K hf dX0_teasing_48
      · replace hf := kf_f hf b3
        by_cases b4 : (st.1 c 0) = (4 : Int32)
        · replace hf := kf_t hf b4
          refine k_tabIn C 40 dX0_teasing_4 (by rw [b4]; decide) (by rw [b4]; decide) (by rw [b4]; rfl) rfl ?_
          refine k_bipush C (30 : Int32) dX0_teasing_40 (by decide) rfl ?_
          exact k_iret C K hf dX0_teasing_42
        · replace hf := kf_f hf b4
          by_cases b5 : (st.1 c 0) = (5 : Int32)
          · replace hf := kf_t hf b5
            refine k_tabIn C 49 dX0_teasing_4 (by rw [b5]; decide) (by rw [b5]; decide) (by rw [b5]; rfl) rfl ?_
            refine k_aload_n C 0 dX0_teasing_49 rfl rfl rfl ?_
            refine g_X0_open C hc kw_1_41 dX0_teasing_50 rfl ?_
            refine k_bipush C (90 : Int32) dX0_teasing_53 (by decide) rfl ?_
            refine k_icmp_lt C 62 dX0_teasing_55 rfl rfl (fun b6 => ?_) (fun b6 => ?_)
            · replace hf := kf_t hf b6
              refine k_bipush C (10 : Int32) dX0_teasing_62 (by decide) rfl ?_
              exact k_iret C K hf dX0_teasing_64
            · replace hf := kf_f hf b6
              refine k_iconst C (0 : Int32) dX0_teasing_58 (by decide) rfl ?_
              refine k_goto C 64 dX0_teasing_59 rfl ?_
              exact k_iret C K hf dX0_teasing_64
          · replace hf := kf_f hf b5
            have zb1 := ti_ne (1 : Int32) b1 (z := 1) rfl
            have zb2 := ti_ne (2 : Int32) b2 (z := 2) rfl
            have zb3 := ti_ne (3 : Int32) b3 (z := 3) rfl
            have zb4 := ti_ne (4 : Int32) b4 (z := 4) rfl
            have zb5 := ti_ne (5 : Int32) b5 (z := 5) rfl
            refine k_tabOut C 65 dX0_teasing_4 (by omega) rfl ?_
            refine k_bipush C (15 : Int32) dX0_teasing_65 (by decide) rfl ?_
            exact k_iret C K hf dX0_teasing_67
theorem mX0_teasing {G : kG} {c : Nat} (hc : kd c = 0) {st : kM} {res : Int32 × kM} (hf : fX0_teasing c st = some res) : kCt G yX0_teasing cX0_teasing 1 (some .int) rmX0_teasing [.ref (G.2.1 c)] st (some (.int res.1)) res.2 := kMet (by decide) (Nat.le_of_ble_eq_true rfl) ⟨rfl, rfl⟩ (fun X A Q C K => tX0_teasing C hc hf K)
theorem qX0_teasing : yX0_teasing.cls = RX0 ∧ yX0_teasing.cls ≠ "java/lang/invoke/MethodHandle" ∧ yX0_teasing.cls ≠ "java/lang/invoke/VarHandle" ∧ (parseMethodDescriptor yX0_teasing.desc).map (fun d => d.parameters.length) = some 0 := ⟨rfl, by decide, by decide, by decide +kernel⟩
-- TalkKnots$Knot.givesWay(II)Z
def rmX0_givesWay : Room := { frames := 0, cells := 0, slots := 0, locals := 0 }
def fX0_givesWay_10 (c : Nat) (y0 : Int32) (st : kM) : Option (Int32 × kM) :=
  if (st.1 c 0) = (1 : Int32) then (if y0 = 0 then (some ((0 : Int32), st)) else (if (90 : Int32) ≤ (st.1 c 2) then (some ((0 : Int32), st)) else (some ((1 : Int32), st)))) else (if (st.1 c 0) = (2 : Int32) then (if y0 = 0 ∨ y0 = 1 then some (y0, st) else none) else (if (st.1 c 0) = (3 : Int32) then (if y0 = 0 then (if (st.1 c 2) = (99 : Int32) then (some ((1 : Int32), st)) else (some ((0 : Int32), st))) else (some ((1 : Int32), st))) else (if (st.1 c 0) = (4 : Int32) then (if y0 = 0 then (some ((0 : Int32), st)) else (if (90 : Int32) ≤ (st.1 c 2) then (some ((0 : Int32), st)) else (some ((1 : Int32), st)))) else (if (st.1 c 0) = (5 : Int32) then (if y0 = 0 then (some ((0 : Int32), st)) else (if (st.1 c 3) < (3 : Int32) then (some ((0 : Int32), st)) else (some ((1 : Int32), st)))) else (if y0 = 0 ∨ y0 = 1 then some (y0, st) else none)))))
def fX0_givesWay (c : Nat) (v1 : Int32) (v2 : Int32) (st : kM) : Option (Int32 × kM) :=
  if v1 ≤ v2 then (fX0_givesWay_10 c (0 : Int32) st) else (fX0_givesWay_10 c (1 : Int32) st)
set_option maxRecDepth 100000 in
theorem tX0_givesWay_10 {Z : kZ} (C : kC Z cX0_givesWay RX0 4 rmX0_givesWay) {c : Nat} (hc : kd c = 0) {res : Int32 × kM} (K : kEnd Z (some .boolean) (some (.int res.1)) res.2) : ∀ (y0 : Int32) (st : kM), fX0_givesWay_10 c y0 st = some res → kV Z 4 10 [(0, kr Z c)] [.int y0] st := by
  intro y0 st hf
  unfold fX0_givesWay_10 at hf
  refine k_istore_n (lv' := [(3, .int y0), (0, kr Z c)]) C dX0_givesWay_10 rfl (by decide) rfl rfl ?_
  refine k_aload_n C 1 dX0_givesWay_11 rfl rfl rfl ?_
  refine g_X0_kind C hc kw_1_36 dX0_givesWay_12 rfl ?_
  by_cases b1 : (st.1 c 0) = (1 : Int32)
  · replace hf := kf_t hf b1
    refine k_tabIn C 48 dX0_givesWay_15 (by rw [b1]; decide) (by rw [b1]; decide) (by rw [b1]; rfl) rfl ?_
    refine k_iload_n C 0 dX0_givesWay_48 rfl rfl rfl ?_
    refine k_if_eq C 65 dX0_givesWay_49 rfl rfl (fun b2 => ?_) (fun b2 => ?_)
    · replace hf := kf_t hf b2
      refine k_iconst C (0 : Int32) dX0_givesWay_65 (by decide) rfl ?_
      exact k_zret C K hf rfl dX0_givesWay_66
    · replace hf := kf_f hf b2
      refine k_aload_n C 1 dX0_givesWay_52 rfl rfl rfl ?_
      refine g_X0_open C hc kw_1_41 dX0_givesWay_53 rfl ?_
      refine k_bipush C (90 : Int32) dX0_givesWay_56 (by decide) rfl ?_
      refine k_icmp_ge C 65 dX0_givesWay_58 rfl rfl (fun b3 => ?_) (fun b3 => ?_)
      · replace hf := kf_t hf b3
        refine k_iconst C (0 : Int32) dX0_givesWay_65 (by decide) rfl ?_
        exact k_zret C K hf rfl dX0_givesWay_66
      · replace hf := kf_f hf b3
        refine k_iconst C (1 : Int32) dX0_givesWay_61 (by decide) rfl ?_
        refine k_goto C 66 dX0_givesWay_62 rfl ?_
        exact k_zret C K hf rfl dX0_givesWay_66
  · replace hf := kf_f hf b1
    by_cases b4 : (st.1 c 0) = (2 : Int32)
    · replace hf := kf_t hf b4
      refine k_tabIn C 104 dX0_givesWay_15 (by rw [b4]; decide) (by rw [b4]; decide) (by rw [b4]; rfl) rfl ?_
      refine k_iload_n C 0 dX0_givesWay_104 rfl rfl rfl ?_
      obtain ⟨g0, hf⟩ := kf_y hf
      exact k_zret C K hf (kb_n g0) dX0_givesWay_105
    · replace hf := kf_f hf b4
      by_cases b5 : (st.1 c 0) = (3 : Int32)
      · replace hf := kf_t hf b5
        refine k_tabIn C 67 dX0_givesWay_15 (by rw [b5]; decide) (by rw [b5]; decide) (by rw [b5]; rfl) rfl ?_
        refine k_iload_n C 0 dX0_givesWay_67 rfl rfl rfl ?_
        refine k_if_ne C 80 dX0_givesWay_68 rfl rfl (fun b6 => ?_) (fun b6 => ?_)
        · replace hf := kf_f hf b6
          refine k_iconst C (1 : Int32) dX0_givesWay_80 (by decide) rfl ?_
          refine k_goto C 85 dX0_givesWay_81 rfl ?_
          exact k_zret C K hf rfl dX0_givesWay_85
        · replace hf := kf_t hf b6
          refine k_aload_n C 1 dX0_givesWay_71 rfl rfl rfl ?_
          refine g_X0_open C hc kw_1_41 dX0_givesWay_72 rfl ?_
          refine k_bipush C (99 : Int32) dX0_givesWay_75 (by decide) rfl ?_
          refine k_icmp_ne C 84 dX0_givesWay_77 rfl rfl (fun b7 => ?_) (fun b7 => ?_)
          · replace hf := kf_f hf b7
            refine k_iconst C (0 : Int32) dX0_givesWay_84 (by decide) rfl ?_
            exact k_zret C K hf rfl dX0_givesWay_85
          · replace hf := kf_t hf b7
            refine k_iconst C (1 : Int32) dX0_givesWay_80 (by decide) rfl ?_
            refine k_goto C 85 dX0_givesWay_81 rfl ?_
            exact k_zret C K hf rfl dX0_givesWay_85
      · replace hf := kf_f hf b5
        by_cases b8 : (st.1 c 0) = (4 : Int32)
        · replace hf := kf_t hf b8
          refine k_tabIn C 48 dX0_givesWay_15 (by rw [b8]; decide) (by rw [b8]; decide) (by rw [b8]; rfl) rfl ?_
          refine k_iload_n C 0 dX0_givesWay_48 rfl rfl rfl ?_
          refine k_if_eq C 65 dX0_givesWay_49 rfl rfl (fun b9 => ?_) (fun b9 => ?_)
          · replace hf := kf_t hf b9
            refine k_iconst C (0 : Int32) dX0_givesWay_65 (by decide) rfl ?_
            exact k_zret C K hf rfl dX0_givesWay_66
          · replace hf := kf_f hf b9
            refine k_aload_n C 1 dX0_givesWay_52 rfl rfl rfl ?_
            refine g_X0_open C hc kw_1_41 dX0_givesWay_53 rfl ?_
            refine k_bipush C (90 : Int32) dX0_givesWay_56 (by decide) rfl ?_
            refine k_icmp_ge C 65 dX0_givesWay_58 rfl rfl (fun b10 => ?_) (fun b10 => ?_)
            · replace hf := kf_t hf b10
              refine k_iconst C (0 : Int32) dX0_givesWay_65 (by decide) rfl ?_
              exact k_zret C K hf rfl dX0_givesWay_66
            · replace hf := kf_f hf b10
              refine k_iconst C (1 : Int32) dX0_givesWay_61 (by decide) rfl ?_
              refine k_goto C 66 dX0_givesWay_62 rfl ?_
              exact k_zret C K hf rfl dX0_givesWay_66
        · replace hf := kf_f hf b8
          by_cases b11 : (st.1 c 0) = (5 : Int32)
          · replace hf := kf_t hf b11
            refine k_tabIn C 86 dX0_givesWay_15 (by rw [b11]; decide) (by rw [b11]; decide) (by rw [b11]; rfl) rfl ?_
            refine k_iload_n C 0 dX0_givesWay_86 rfl rfl rfl ?_
            refine k_if_eq C 102 dX0_givesWay_87 rfl rfl (fun b12 => ?_) (fun b12 => ?_)
            · replace hf := kf_t hf b12
              refine k_iconst C (0 : Int32) dX0_givesWay_102 (by decide) rfl ?_
              exact k_zret C K hf rfl dX0_givesWay_103
            · replace hf := kf_f hf b12
              refine k_aload_n C 1 dX0_givesWay_90 rfl rfl rfl ?_
              refine g_X0_age C hc kw_1_45 dX0_givesWay_91 rfl ?_
              refine k_iconst C (3 : Int32) dX0_givesWay_94 (by decide) rfl ?_
              refine k_icmp_lt C 102 dX0_givesWay_95 rfl rfl (fun b13 => ?_) (fun b13 => ?_)
              · replace hf := kf_t hf b13
                refine k_iconst C (0 : Int32) dX0_givesWay_102 (by decide) rfl ?_
                exact k_zret C K hf rfl dX0_givesWay_103
              · replace hf := kf_f hf b13
                refine k_iconst C (1 : Int32) dX0_givesWay_98 (by decide) rfl ?_
                refine k_goto C 103 dX0_givesWay_99 rfl ?_
                exact k_zret C K hf rfl dX0_givesWay_103
          · replace hf := kf_f hf b11
            have zb1 := ti_ne (1 : Int32) b1 (z := 1) rfl
            have zb4 := ti_ne (2 : Int32) b4 (z := 2) rfl
            have zb5 := ti_ne (3 : Int32) b5 (z := 3) rfl
            have zb8 := ti_ne (4 : Int32) b8 (z := 4) rfl
            have zb11 := ti_ne (5 : Int32) b11 (z := 5) rfl
            refine k_tabOut C 104 dX0_givesWay_15 (by omega) rfl ?_
            refine k_iload_n C 0 dX0_givesWay_104 rfl rfl rfl ?_
            obtain ⟨g0, hf⟩ := kf_y hf
            exact k_zret C K hf (kb_n g0) dX0_givesWay_105
set_option maxRecDepth 100000 in
theorem tX0_givesWay {Z : kZ} (C : kC Z cX0_givesWay RX0 4 rmX0_givesWay) {c : Nat} {v1 : Int32} {v2 : Int32} (hc : kd c = 0) {st : kM} {res : Int32 × kM} (hf : fX0_givesWay c v1 v2 st = some res) (K : kEnd Z (some .boolean) (some (.int res.1)) res.2) : kV Z 4 0 [(0, kr Z c), (1, .int v1), (2, .int v2)] [] st := by
  unfold fX0_givesWay at hf
  refine k_iload_n C 1 dX0_givesWay_0 rfl rfl rfl ?_
  refine k_iload_n C 2 dX0_givesWay_1 rfl rfl rfl ?_
  refine k_icmp_le C 9 dX0_givesWay_2 rfl rfl (fun b1 => ?_) (fun b1 => ?_)
  · replace hf := kf_t hf b1
    refine k_iconst C (0 : Int32) dX0_givesWay_9 (by decide) rfl ?_
    refine k_lv (lv' := [(0, kr Z c)]) [0] rfl ?_
    exact tX0_givesWay_10 C hc K (0 : Int32) st hf
  · replace hf := kf_f hf b1
    refine k_iconst C (1 : Int32) dX0_givesWay_5 (by decide) rfl ?_
    refine k_goto C 10 dX0_givesWay_6 rfl ?_
    refine k_lv (lv' := [(0, kr Z c)]) [0] rfl ?_
    exact tX0_givesWay_10 C hc K (1 : Int32) st hf
theorem mX0_givesWay {G : kG} {c : Nat} {v1 : Int32} {v2 : Int32} (hc : kd c = 0) {st : kM} {res : Int32 × kM} (hf : fX0_givesWay c v1 v2 st = some res) : kCt G yX0_givesWay cX0_givesWay 4 (some .boolean) rmX0_givesWay [.ref (G.2.1 c), .int v1, .int v2] st (some (.int res.1)) res.2 := kMet (by decide) (Nat.le_of_ble_eq_true rfl) ⟨rfl, rfl⟩ (fun X A Q C K => tX0_givesWay C hc hf K)
theorem qX0_givesWay : yX0_givesWay.cls = RX0 ∧ yX0_givesWay.cls ≠ "java/lang/invoke/MethodHandle" ∧ yX0_givesWay.cls ≠ "java/lang/invoke/VarHandle" ∧ (parseMethodDescriptor yX0_givesWay.desc).map (fun d => d.parameters.length) = some 2 := ⟨rfl, by decide, by decide, by decide +kernel⟩
-- TalkKnots$Knot.openBy(I)V
def rmX0_openBy : Room := { frames := 1, cells := 0, slots := 0, locals := 21 }
def fX0_openBy (c : Nat) (v1 : Int32) (st : kM) : Option (kM) :=
  (some (kwr st c 2 (if (0 : Int32) < (if ((st.1 c 2) + v1) < (99 : Int32) then ((st.1 c 2) + v1) else (99 : Int32)) then (if ((st.1 c 2) + v1) < (99 : Int32) then ((st.1 c 2) + v1) else (99 : Int32)) else (0 : Int32)))).bind fun s1 => (some s1)
set_option maxRecDepth 100000 in
theorem tX0_openBy {Z : kZ} (C : kC Z cX0_openBy RX0 2 rmX0_openBy) {c : Nat} {v1 : Int32} (hc : kd c = 0) {st : kM} {res : kM} (hf : fX0_openBy c v1 st = some res) (K : kEnd Z none none res) : kV Z 2 0 [(0, kr Z c), (1, .int v1)] [] st := by
  unfold fX0_openBy at hf
  refine k_aload_n C 0 dX0_openBy_0 rfl rfl rfl ?_
  refine k_iconst C (0 : Int32) dX0_openBy_1 (by decide) rfl ?_
  refine k_bipush C (99 : Int32) dX0_openBy_2 (by decide) rfl ?_
  refine k_aload_n C 0 dX0_openBy_4 rfl rfl rfl ?_
  refine g_X0_open C hc kw_1_41 dX0_openBy_5 rfl ?_
  refine k_iload_n C 1 dX0_openBy_8 rfl rfl rfl ?_
  refine k_iadd C dX0_openBy_9 rfl ?_
  refine k_mmin C kw_2_116 kw_2_117 kw_1_8 kw_2_118 ⟨by decide, by decide⟩ (Nat.le_of_ble_eq_true rfl) dX0_openBy_10 rfl ?_
  refine k_mmax C kw_2_28 kw_2_29 kw_1_8 kw_2_30 ⟨by decide, by decide⟩ (Nat.le_of_ble_eq_true rfl) dX0_openBy_13 rfl ?_
  refine p_X0_open C hc kw_1_41 dX0_openBy_16 rfl ?_
  obtain ⟨s1, e2, hf⟩ := kf_b hf
  refine k_st e2 ?_
  exact k_vret C K hf dX0_openBy_19
theorem mX0_openBy {G : kG} {c : Nat} {v1 : Int32} (hc : kd c = 0) {st : kM} {res : kM} (hf : fX0_openBy c v1 st = some res) : kCt G yX0_openBy cX0_openBy 2 none rmX0_openBy [.ref (G.2.1 c), .int v1] st none res := kMet (by decide) (Nat.le_of_ble_eq_true rfl) ⟨rfl, rfl⟩ (fun X A Q C K => tX0_openBy C hc hf K)
theorem qX0_openBy : yX0_openBy.cls = RX0 ∧ yX0_openBy.cls ≠ "java/lang/invoke/MethodHandle" ∧ yX0_openBy.cls ≠ "java/lang/invoke/VarHandle" ∧ (parseMethodDescriptor yX0_openBy.desc).map (fun d => d.parameters.length) = some 1 := ⟨rfl, by decide, by decide, by decide +kernel⟩
-- TalkKnots$Knot.beTeased()V
def rmX0_beTeased : Room := { frames := 2, cells := 0, slots := 0, locals := 42 }
def fX0_beTeased (c : Nat) (st : kM) : Option (kM) :=
  (fX0_teasing c st).bind fun q1 => ((fX0_openBy c q1.1 q1.2).bind fun s3 => (some s3))
set_option maxRecDepth 100000 in
theorem tX0_beTeased {Z : kZ} (C : kC Z cX0_beTeased RX0 1 rmX0_beTeased) {c : Nat} (hc : kd c = 0) {st : kM} {res : kM} (hf : fX0_beTeased c st = some res) (K : kEnd Z none none res) : kV Z 1 0 [(0, kr Z c)] [] st := by
  unfold fX0_beTeased at hf
  refine k_aload_n C 0 dX0_beTeased_0 rfl rfl rfl ?_
  refine k_aload_n C 0 dX0_beTeased_1 rfl rfl rfl ?_
  obtain ⟨q1, e2, hf⟩ := kf_b hf
  refine k_callV C [] (mX0_teasing hc e2) hc (by decide) rfl kw_2_111 kw_2_75 kw_2_76 kw_1_3 kw_2_77 qX0_teasing rfl ⟨by decide, by decide⟩ ⟨rfl, rfl⟩ (Nat.le_of_ble_eq_true rfl) dX0_beTeased_2 rfl ?_ rfl
  refine (show kV Z 1 5 [(0, kr Z c)] [.int q1.1, kr Z c] q1.2 from ?_)
  obtain ⟨s3, e4, hf⟩ := kf_b hf
  refine k_callV C [.int q1.1] (mX0_openBy hc e4) hc (by decide) rfl kw_2_112 kw_2_114 kw_0_6 kw_1_3 kw_2_115 qX0_openBy rfl ⟨by decide, by decide⟩ ⟨rfl, rfl⟩ (Nat.le_of_ble_eq_true rfl) dX0_beTeased_5 rfl ?_ rfl
  refine (show kV Z 1 8 [(0, kr Z c)] [] s3 from ?_)
  exact k_vret C K hf dX0_beTeased_8
theorem mX0_beTeased {G : kG} {c : Nat} (hc : kd c = 0) {st : kM} {res : kM} (hf : fX0_beTeased c st = some res) : kCt G yX0_beTeased cX0_beTeased 1 none rmX0_beTeased [.ref (G.2.1 c)] st none res := kMet (by decide) (Nat.le_of_ble_eq_true rfl) ⟨rfl, rfl⟩ (fun X A Q C K => tX0_beTeased C hc hf K)
theorem qX0_beTeased : yX0_beTeased.cls = RX0 ∧ yX0_beTeased.cls ≠ "java/lang/invoke/MethodHandle" ∧ yX0_beTeased.cls ≠ "java/lang/invoke/VarHandle" ∧ (parseMethodDescriptor yX0_beTeased.desc).map (fun d => d.parameters.length) = some 0 := ⟨rfl, by decide, by decide, by decide +kernel⟩
-- TalkKnots$Knot.settle(I)V
def rmX0_settle : Room := { frames := 2, cells := 0, slots := 0, locals := 42 }
def fX0_settle (c : Nat) (v1 : Int32) (st : kM) : Option (kM) :=
  (fX0_settling c v1 st).bind fun q1 => ((fX0_openBy c (-q1.1) q1.2).bind fun s3 => ((some (kwr s3 c 3 (if ((s3.1 c 3) + (1 : Int32)) < (9999 : Int32) then ((s3.1 c 3) + (1 : Int32)) else (9999 : Int32)))).bind fun s5 => (some s5)))
set_option maxRecDepth 100000 in
theorem tX0_settle {Z : kZ} (C : kC Z cX0_settle RX0 2 rmX0_settle) {c : Nat} {v1 : Int32} (hc : kd c = 0) {st : kM} {res : kM} (hf : fX0_settle c v1 st = some res) (K : kEnd Z none none res) : kV Z 2 0 [(0, kr Z c), (1, .int v1)] [] st := by
  unfold fX0_settle at hf
  refine k_aload_n C 0 dX0_settle_0 rfl rfl rfl ?_
  refine k_aload_n C 0 dX0_settle_1 rfl rfl rfl ?_
  refine k_iload_n C 1 dX0_settle_2 rfl rfl rfl ?_
  obtain ⟨q1, e2, hf⟩ := kf_b hf
  refine k_callV C [.int v1] (mX0_settling hc e2) hc (by decide) rfl kw_2_159 kw_2_71 kw_2_72 kw_1_3 kw_2_73 qX0_settling rfl ⟨by decide, by decide⟩ ⟨rfl, rfl⟩ (Nat.le_of_ble_eq_true rfl) dX0_settle_3 rfl ?_ rfl
  refine (show kV Z 2 6 [(0, kr Z c), (1, .int v1)] [.int q1.1, kr Z c] q1.2 from ?_)
  refine k_ineg C dX0_settle_6 rfl ?_
  obtain ⟨s3, e4, hf⟩ := kf_b hf
  refine k_callV C [.int (-q1.1)] (mX0_openBy hc e4) hc (by decide) rfl kw_2_112 kw_2_114 kw_0_6 kw_1_3 kw_2_115 qX0_openBy rfl ⟨by decide, by decide⟩ ⟨rfl, rfl⟩ (Nat.le_of_ble_eq_true rfl) dX0_settle_7 rfl ?_ rfl
  refine (show kV Z 2 10 [(0, kr Z c), (1, .int v1)] [] s3 from ?_)
  refine k_aload_n C 0 dX0_settle_10 rfl rfl rfl ?_
  refine k_sipush C (9999 : Int32) dX0_settle_11 (by decide) rfl ?_
  refine k_aload_n C 0 dX0_settle_14 rfl rfl rfl ?_
  refine g_X0_age C hc kw_1_45 dX0_settle_15 rfl ?_
  refine k_iconst C (1 : Int32) dX0_settle_18 (by decide) rfl ?_
  refine k_iadd C dX0_settle_19 rfl ?_
  refine k_mmin C kw_2_116 kw_2_117 kw_1_8 kw_2_118 ⟨by decide, by decide⟩ (Nat.le_of_ble_eq_true rfl) dX0_settle_20 rfl ?_
  refine p_X0_age C hc kw_1_45 dX0_settle_23 rfl ?_
  obtain ⟨s5, e6, hf⟩ := kf_b hf
  refine k_st e6 ?_
  exact k_vret C K hf dX0_settle_26
theorem mX0_settle {G : kG} {c : Nat} {v1 : Int32} (hc : kd c = 0) {st : kM} {res : kM} (hf : fX0_settle c v1 st = some res) : kCt G yX0_settle cX0_settle 2 none rmX0_settle [.ref (G.2.1 c), .int v1] st none res := kMet (by decide) (Nat.le_of_ble_eq_true rfl) ⟨rfl, rfl⟩ (fun X A Q C K => tX0_settle C hc hf K)
theorem qX0_settle : yX0_settle.cls = RX0 ∧ yX0_settle.cls ≠ "java/lang/invoke/MethodHandle" ∧ yX0_settle.cls ≠ "java/lang/invoke/VarHandle" ∧ (parseMethodDescriptor yX0_settle.desc).map (fun d => d.parameters.length) = some 1 := ⟨rfl, by decide, by decide, by decide +kernel⟩
-- TalkKnots$Yard.putUp(IZ)V
def rmX4_putUp : Room := { frames := 0, cells := 0, slots := 0, locals := 0 }
def fX4_putUp (c : Nat) (v1 : Int32) (v2 : Int32) (st : kM) : Option (kM) :=
  (some ((1 : Int32) <<< (v1 &&& 31))).bind fun z1 => (if v2 = 0 then ((some (kwr st c 2 ((st.1 c 2) &&& (z1 ^^^ (-1 : Int32))))).bind fun s4 => (some s4)) else ((some (kwr st c 2 ((st.1 c 2) ||| z1))).bind fun s6 => (some s6)))
set_option maxRecDepth 100000 in
theorem tX4_putUp {Z : kZ} (C : kC Z cX4_putUp RX4 4 rmX4_putUp) {c : Nat} {v1 : Int32} {v2 : Int32} (hc : yd c) {st : kM} {res : kM} (hf : fX4_putUp c v1 v2 st = some res) (K : kEnd Z none none res) : kV Z 4 0 [(0, kr Z c), (1, .int v1), (2, .int v2)] [] st := by
  unfold fX4_putUp at hf
  refine k_iconst C (1 : Int32) dX4_putUp_0 (by decide) rfl ?_
  refine k_iload_n C 1 dX4_putUp_1 rfl rfl rfl ?_
  refine k_ishl C dX4_putUp_2 rfl ?_
  obtain ⟨z1, e2, hf⟩ := kf_b hf
  refine k_topi e2 ?_
  refine k_istore_n (lv' := [(3, .int z1), (0, kr Z c), (1, .int v1), (2, .int v2)]) C dX4_putUp_3 rfl (by decide) rfl rfl ?_
  refine k_aload_n C 1 dX4_putUp_4 rfl rfl rfl ?_
  refine k_iload_n C 3 dX4_putUp_5 rfl rfl rfl ?_
  refine k_if_eq C 18 dX4_putUp_6 rfl rfl (fun b3 => ?_) (fun b3 => ?_)
  · replace hf := kf_t hf b3
    refine k_aload_n C 1 dX4_putUp_18 rfl rfl rfl ?_
    refine g_X4_up C (yd_4 hc) kw_1_69 dX4_putUp_19 rfl ?_
    refine k_iload_n C 0 dX4_putUp_22 rfl rfl rfl ?_
    refine k_iconst C (-1 : Int32) dX4_putUp_23 (by decide) rfl ?_
    refine k_ixor C dX4_putUp_24 rfl ?_
    refine k_iand C dX4_putUp_25 rfl ?_
    refine p_X4_up C (yd_4 hc) kw_1_69 dX4_putUp_26 rfl ?_
    obtain ⟨s4, e5, hf⟩ := kf_b hf
    refine k_st e5 ?_
    exact k_vret C K hf dX4_putUp_29
  · replace hf := kf_f hf b3
    refine k_aload_n C 1 dX4_putUp_9 rfl rfl rfl ?_
    refine g_X4_up C (yd_4 hc) kw_1_69 dX4_putUp_10 rfl ?_
    refine k_iload_n C 0 dX4_putUp_13 rfl rfl rfl ?_
    refine k_ior C dX4_putUp_14 rfl ?_
    refine k_goto C 26 dX4_putUp_15 rfl ?_
    refine p_X4_up C (yd_4 hc) kw_1_69 dX4_putUp_26 rfl ?_
    obtain ⟨s6, e7, hf⟩ := kf_b hf
    refine k_st e7 ?_
    exact k_vret C K hf dX4_putUp_29
theorem mX4_putUp {G : kG} {c : Nat} {v1 : Int32} {v2 : Int32} (hc : yd c) {st : kM} {res : kM} (hf : fX4_putUp c v1 v2 st = some res) : kCt G yX4_putUp cX4_putUp 4 none rmX4_putUp [.ref (G.2.1 c), .int v1, .int v2] st none res := kMet (by decide) (Nat.le_of_ble_eq_true rfl) ⟨rfl, rfl⟩ (fun X A Q C K => tX4_putUp C hc hf K)
theorem qX4_putUp : yX4_putUp.cls = RX4 ∧ yX4_putUp.cls ≠ "java/lang/invoke/MethodHandle" ∧ yX4_putUp.cls ≠ "java/lang/invoke/VarHandle" ∧ (parseMethodDescriptor yX4_putUp.desc).map (fun d => d.parameters.length) = some 2 := ⟨rfl, by decide, by decide, by decide +kernel⟩
-- TalkKnots$Yard.become(LTalkKnots$Yard;)V
def rmX4_become : Room := { frames := 1, cells := 0, slots := 0, locals := 40 }
def fX4_become_55 (c : Nat) : Nat → Nat → Int32 → kM → Option (kM)
  | 0, _, _, _ => none
  | n + 1, x1, x2, st =>
    if (st.1 c 1) ≤ x2 then (some st) else (if x2 < 0 ∨ 10 ≤ x2.toNatClampNeg then none else ((fX0_beLike (c + 5 + x2.toNatClampNeg) (x1 + 5 + x2.toNatClampNeg) st).bind fun s3 => (fX4_become_55 c n x1 (x2 + (1 : Int32)) s3)))
def fX4_become (c : Nat) (c1 : Nat) (st : kM) : Option (kM) :=
  (some (kwr st c 0 (st.1 c1 0))).bind fun s1 => ((some (kwr s1 c 1 (s1.1 c1 1))).bind fun s3 => ((some (kwr s3 c 2 (s3.1 c1 2))).bind fun s5 => ((some (kset s5 (c + 1) (va_cpy (s5.1 (c1 + 1)) (s5.1 (c + 1)) (0 : Int32).toNatClampNeg (0 : Int32).toNatClampNeg (12 : Int32).toNatClampNeg))).bind fun s7 => ((some (kset s7 (c + 2) (va_cpy (s7.1 (c1 + 2)) (s7.1 (c + 2)) (0 : Int32).toNatClampNeg (0 : Int32).toNatClampNeg (4 : Int32).toNatClampNeg))).bind fun s9 => (fX4_become_55 c kfu c1 (0 : Int32) s9)))))
set_option maxRecDepth 100000 in
theorem tX4_become_55 {Z : kZ} (C : kC Z cX4_become RX4 3 rmX4_become) {c : Nat} (hc : yd c) {res : kM} (K : kEnd Z none none res) : ∀ (n : Nat) (x1 : Nat) (x2 : Int32) (st : kM), (hx1 : yd x1) → fX4_become_55 c n x1 x2 st = some res → kV Z 3 55 [(0, kr Z c), (1, kr Z x1), (2, .int x2)] [] st := by
  intro n
  induction n with
  | zero => intro x1 x2 st hx1 hf; cases hf
  | succ n ih =>
    intro x1 x2 st hx1 hf
    unfold fX4_become_55 at hf
    refine k_iload_n C 2 dX4_become_55 rfl rfl rfl ?_
    refine k_aload_n C 0 dX4_become_56 rfl rfl rfl ?_
    refine g_X4_count C (yd_4 hc) kw_1_66 dX4_become_57 rfl ?_
    refine k_icmp_ge C 84 dX4_become_60 rfl rfl (fun b1 => ?_) (fun b1 => ?_)
    · replace hf := kf_t hf b1
      exact k_vret C K hf dX4_become_84
    · replace hf := kf_f hf b1
      refine k_aload_n C 0 dX4_become_63 rfl rfl rfl ?_
      refine g_X4_knots C (yd_4 hc) kw_1_77 dX4_become_64 rfl ?_
      refine k_iload_n C 2 dX4_become_67 rfl rfl rfl ?_
      obtain ⟨g2, hf⟩ := kf_g hf
      refine k_aldK C hc g2 dX4_become_68 rfl ?_
      refine k_aload_n C 1 dX4_become_69 rfl rfl rfl ?_
      refine g_X4_knots C (yd_4 hx1) kw_1_77 dX4_become_70 rfl ?_
      refine k_iload_n C 2 dX4_become_73 rfl rfl rfl ?_
      refine k_aldK C hx1 g2 dX4_become_74 rfl ?_
      obtain ⟨s3, e4, hf⟩ := kf_b hf
      refine k_callV C [kr Z (x1 + 5 + x2.toNatClampNeg)] (mX0_beLike (yd_n hc (vi_lt g2)) (yd_n hx1 (vi_lt g2)) e4) (yd_n hc (vi_lt g2)) (by decide) rfl kw_2_171 kw_2_172 kw_2_173 kw_1_3 kw_2_174 qX0_beLike rfl ⟨by decide, by decide⟩ ⟨rfl, rfl⟩ (Nat.le_of_ble_eq_true rfl) dX4_become_75 rfl ?_ rfl
      refine (show kV Z 3 78 [(0, kr Z c), (1, kr Z x1), (2, .int x2)] [] s3 from ?_)
      refine k_iinc (lv' := [(2, .int (x2 + (1 : Int32))), (0, kr Z c), (1, kr Z x1)]) C (x2 + (1 : Int32)) 2 dX4_become_78 rfl rfl (by decide) rfl rfl ?_
      refine k_goto C 55 dX4_become_81 rfl ?_
      refine k_lv (lv' := [(0, kr Z c), (1, kr Z x1), (2, .int (x2 + (1 : Int32)))]) [1, 2, 0] rfl ?_
      exact ih x1 (x2 + (1 : Int32)) s3 hx1 hf
set_option maxRecDepth 100000 in
theorem tX4_become {Z : kZ} (C : kC Z cX4_become RX4 3 rmX4_become) {c : Nat} {c1 : Nat} (hc : yd c) (hc1 : yd c1) {st : kM} {res : kM} (hf : fX4_become c c1 st = some res) (K : kEnd Z none none res) : kV Z 3 0 [(0, kr Z c), (1, kr Z c1)] [] st := by
  unfold fX4_become at hf
  refine k_aload_n C 0 dX4_become_0 rfl rfl rfl ?_
  refine k_aload_n C 1 dX4_become_1 rfl rfl rfl ?_
  refine g_X4_hour C (yd_4 hc1) kw_1_64 dX4_become_2 rfl ?_
  refine p_X4_hour C (yd_4 hc) kw_1_64 dX4_become_5 rfl ?_
  obtain ⟨s1, e2, hf⟩ := kf_b hf
  refine k_st e2 ?_
  refine k_aload_n C 0 dX4_become_8 rfl rfl rfl ?_
  refine k_aload_n C 1 dX4_become_9 rfl rfl rfl ?_
  refine g_X4_count C (yd_4 hc1) kw_1_66 dX4_become_10 rfl ?_
  refine p_X4_count C (yd_4 hc) kw_1_66 dX4_become_13 rfl ?_
  obtain ⟨s3, e4, hf⟩ := kf_b hf
  refine k_st e4 ?_
  refine k_aload_n C 0 dX4_become_16 rfl rfl rfl ?_
  refine k_aload_n C 1 dX4_become_17 rfl rfl rfl ?_
  refine g_X4_up C (yd_4 hc1) kw_1_69 dX4_become_18 rfl ?_
  refine p_X4_up C (yd_4 hc) kw_1_69 dX4_become_21 rfl ?_
  obtain ⟨s5, e6, hf⟩ := kf_b hf
  refine k_st e6 ?_
  refine k_aload_n C 1 dX4_become_24 rfl rfl rfl ?_
  refine g_X4_winds C (yd_4 hc1) kw_1_71 dX4_become_25 rfl ?_
  refine k_iconst C (0 : Int32) dX4_become_28 (by decide) rfl ?_
  refine k_aload_n C 0 dX4_become_29 rfl rfl rfl ?_
  refine g_X4_winds C (yd_4 hc) kw_1_71 dX4_become_30 rfl ?_
  refine k_iconst C (0 : Int32) dX4_become_33 (by decide) rfl ?_
  refine k_bipush C (12 : Int32) dX4_become_34 (by decide) rfl ?_
  refine k_copyi C kw_2_168 kw_2_170 kw_2_169 kw_1_9 (yd_w hc1) (yd_w hc) (by decide) (by decide) (by decide) (by decide) (by decide) ⟨by decide, by decide⟩ (Nat.le_of_ble_eq_true rfl) dX4_become_36 rfl ?_
  obtain ⟨s7, e8, hf⟩ := kf_b hf
  refine k_st e8 ?_
  refine k_aload_n C 1 dX4_become_39 rfl rfl rfl ?_
  refine g_X4_weights C (yd_4 hc1) kw_1_74 dX4_become_40 rfl ?_
  refine k_iconst C (0 : Int32) dX4_become_43 (by decide) rfl ?_
  refine k_aload_n C 0 dX4_become_44 rfl rfl rfl ?_
  refine g_X4_weights C (yd_4 hc) kw_1_74 dX4_become_45 rfl ?_
  refine k_iconst C (0 : Int32) dX4_become_48 (by decide) rfl ?_
  refine k_iconst C (4 : Int32) dX4_become_49 (by decide) rfl ?_
  refine k_copyi C kw_2_168 kw_2_170 kw_2_169 kw_1_9 (yd_g hc1) (yd_g hc) (by decide) (by decide) (by decide) (by decide) (by decide) ⟨by decide, by decide⟩ (Nat.le_of_ble_eq_true rfl) dX4_become_50 rfl ?_
  obtain ⟨s9, e10, hf⟩ := kf_b hf
  refine k_st e10 ?_
  refine k_iconst C (0 : Int32) dX4_become_53 (by decide) rfl ?_
  refine k_istore_n (lv' := [(2, .int (0 : Int32)), (0, kr Z c), (1, kr Z c1)]) C dX4_become_54 rfl (by decide) rfl rfl ?_
  refine k_lv (lv' := [(0, kr Z c), (1, kr Z c1), (2, .int (0 : Int32))]) [1, 2, 0] rfl ?_
  exact tX4_become_55 C hc K _ c1 (0 : Int32) s9 hc1 hf
theorem mX4_become {G : kG} {c : Nat} {c1 : Nat} (hc : yd c) (hc1 : yd c1) {st : kM} {res : kM} (hf : fX4_become c c1 st = some res) : kCt G yX4_become cX4_become 3 none rmX4_become [.ref (G.2.1 c), .ref (G.2.1 c1)] st none res := kMet (by decide) (Nat.le_of_ble_eq_true rfl) ⟨rfl, rfl⟩ (fun X A Q C K => tX4_become C hc hc1 hf K)
theorem qX4_become : yX4_become.cls = RX4 ∧ yX4_become.cls ≠ "java/lang/invoke/MethodHandle" ∧ yX4_become.cls ≠ "java/lang/invoke/VarHandle" ∧ (parseMethodDescriptor yX4_become.desc).map (fun d => d.parameters.length) = some 1 := ⟨rfl, by decide, by decide, by decide +kernel⟩
-- TalkKnots$Yard.place()I
def rmX4_place : Room := { frames := 0, cells := 0, slots := 0, locals := 0 }
def fX4_place (c : Nat) (st : kM) : Option (Int32 × kM) :=
  some (((st.1 c 0) - (st.1 c 0) / (12 : Int32) * (12 : Int32)), st)
set_option maxRecDepth 100000 in
theorem tX4_place {Z : kZ} (C : kC Z cX4_place RX4 1 rmX4_place) {c : Nat} (hc : yd c) {st : kM} {res : Int32 × kM} (hf : fX4_place c st = some res) (K : kEnd Z (some .int) (some (.int res.1)) res.2) : kV Z 1 0 [(0, kr Z c)] [] st := by
  unfold fX4_place at hf
  refine k_aload_n C 0 dX4_place_0 rfl rfl rfl ?_
  refine g_X4_hour C (yd_4 hc) kw_1_64 dX4_place_1 rfl ?_
  refine k_bipush C (12 : Int32) dX4_place_4 (by decide) rfl ?_
  refine k_irem C (by decide) dX4_place_6 rfl ?_
  exact k_iret C K hf dX4_place_7
theorem mX4_place {G : kG} {c : Nat} (hc : yd c) {st : kM} {res : Int32 × kM} (hf : fX4_place c st = some res) : kCt G yX4_place cX4_place 1 (some .int) rmX4_place [.ref (G.2.1 c)] st (some (.int res.1)) res.2 := kMet (by decide) (Nat.le_of_ble_eq_true rfl) ⟨rfl, rfl⟩ (fun X A Q C K => tX4_place C hc hf K)
theorem qX4_place : yX4_place.cls = RX4 ∧ yX4_place.cls ≠ "java/lang/invoke/MethodHandle" ∧ yX4_place.cls ≠ "java/lang/invoke/VarHandle" ∧ (parseMethodDescriptor yX4_place.desc).map (fun d => d.parameters.length) = some 0 := ⟨rfl, by decide, by decide, by decide +kernel⟩
-- TalkKnots$Yard.windNow()I
def rmX4_windNow : Room := { frames := 1, cells := 0, slots := 0, locals := 20 }
def fX4_windNow (c : Nat) (st : kM) : Option (Int32 × kM) :=
  (fX4_place c st).bind fun q1 => (if q1.1 < 0 ∨ 12 ≤ q1.1.toNatClampNeg then none else (some ((q1.2.1 (c + 1) q1.1.toNatClampNeg), q1.2)))
set_option maxRecDepth 100000 in
theorem tX4_windNow {Z : kZ} (C : kC Z cX4_windNow RX4 1 rmX4_windNow) {c : Nat} (hc : yd c) {st : kM} {res : Int32 × kM} (hf : fX4_windNow c st = some res) (K : kEnd Z (some .int) (some (.int res.1)) res.2) : kV Z 1 0 [(0, kr Z c)] [] st := by
  unfold fX4_windNow at hf
  refine k_aload_n C 0 dX4_windNow_0 rfl rfl rfl ?_
  refine g_X4_winds C (yd_4 hc) kw_1_71 dX4_windNow_1 rfl ?_
  refine k_aload_n C 0 dX4_windNow_4 rfl rfl rfl ?_
  obtain ⟨q1, e2, hf⟩ := kf_b hf
  refine k_callV C [] (mX4_place hc e2) (yd_4 hc) (by decide) rfl kw_2_0 kw_2_1 kw_2_2 kw_1_2 kw_2_3 qX4_place rfl ⟨by decide, by decide⟩ ⟨rfl, rfl⟩ (Nat.le_of_ble_eq_true rfl) dX4_windNow_5 rfl ?_ rfl
  refine (show kV Z 1 8 [(0, kr Z c)] [.int q1.1, kr Z (c + 1)] q1.2 from ?_)
  obtain ⟨g3, hf⟩ := kf_g hf
  refine k_iald (j := q1.1.toNatClampNeg) C (yd_w hc) g3 rfl dX4_windNow_8 rfl ?_
  exact k_iret C K hf dX4_windNow_9
theorem mX4_windNow {G : kG} {c : Nat} (hc : yd c) {st : kM} {res : Int32 × kM} (hf : fX4_windNow c st = some res) : kCt G yX4_windNow cX4_windNow 1 (some .int) rmX4_windNow [.ref (G.2.1 c)] st (some (.int res.1)) res.2 := kMet (by decide) (Nat.le_of_ble_eq_true rfl) ⟨rfl, rfl⟩ (fun X A Q C K => tX4_windNow C hc hf K)
theorem qX4_windNow : yX4_windNow.cls = RX4 ∧ yX4_windNow.cls ≠ "java/lang/invoke/MethodHandle" ∧ yX4_windNow.cls ≠ "java/lang/invoke/VarHandle" ∧ (parseMethodDescriptor yX4_windNow.desc).map (fun d => d.parameters.length) = some 0 := ⟨rfl, by decide, by decide, by decide +kernel⟩
-- TalkKnots$Yard.isUp(I)Z
def rmX4_isUp : Room := { frames := 0, cells := 0, slots := 0, locals := 0 }
def fX4_isUp (c : Nat) (v1 : Int32) (st : kM) : Option (Int32 × kM) :=
  if (((st.1 c 2) >>> (v1 &&& 31)) &&& (1 : Int32)) = (1 : Int32) then (some ((1 : Int32), st)) else (some ((0 : Int32), st))
set_option maxRecDepth 100000 in
theorem tX4_isUp {Z : kZ} (C : kC Z cX4_isUp RX4 2 rmX4_isUp) {c : Nat} {v1 : Int32} (hc : yd c) {st : kM} {res : Int32 × kM} (hf : fX4_isUp c v1 st = some res) (K : kEnd Z (some .boolean) (some (.int res.1)) res.2) : kV Z 2 0 [(0, kr Z c), (1, .int v1)] [] st := by
  unfold fX4_isUp at hf
  refine k_aload_n C 0 dX4_isUp_0 rfl rfl rfl ?_
  refine g_X4_up C (yd_4 hc) kw_1_69 dX4_isUp_1 rfl ?_
  refine k_iload_n C 1 dX4_isUp_4 rfl rfl rfl ?_
  refine k_ishr C dX4_isUp_5 rfl ?_
  refine k_iconst C (1 : Int32) dX4_isUp_6 (by decide) rfl ?_
  refine k_iand C dX4_isUp_7 rfl ?_
  refine k_iconst C (1 : Int32) dX4_isUp_8 (by decide) rfl ?_
  refine k_icmp_ne C 16 dX4_isUp_9 rfl rfl (fun b1 => ?_) (fun b1 => ?_)
  · replace hf := kf_f hf b1
    refine k_iconst C (0 : Int32) dX4_isUp_16 (by decide) rfl ?_
    exact k_zret C K hf rfl dX4_isUp_17
  · replace hf := kf_t hf b1
    refine k_iconst C (1 : Int32) dX4_isUp_12 (by decide) rfl ?_
    refine k_goto C 17 dX4_isUp_13 rfl ?_
    exact k_zret C K hf rfl dX4_isUp_17
theorem mX4_isUp {G : kG} {c : Nat} {v1 : Int32} (hc : yd c) {st : kM} {res : Int32 × kM} (hf : fX4_isUp c v1 st = some res) : kCt G yX4_isUp cX4_isUp 2 (some .boolean) rmX4_isUp [.ref (G.2.1 c), .int v1] st (some (.int res.1)) res.2 := kMet (by decide) (Nat.le_of_ble_eq_true rfl) ⟨rfl, rfl⟩ (fun X A Q C K => tX4_isUp C hc hf K)
theorem qX4_isUp : yX4_isUp.cls = RX4 ∧ yX4_isUp.cls ≠ "java/lang/invoke/MethodHandle" ∧ yX4_isUp.cls ≠ "java/lang/invoke/VarHandle" ∧ (parseMethodDescriptor yX4_isUp.desc).map (fun d => d.parameters.length) = some 1 := ⟨rfl, by decide, by decide, by decide +kernel⟩
-- TalkKnots$Yard.countFast()V
def rmX4_countFast : Room := { frames := 0, cells := 0, slots := 0, locals := 0 }
def fX4_countFast_22 (c : Nat) : Nat → Int32 → kM → Option (kM)
  | 0, _, _ => none
  | n + 1, x1, st =>
    if (st.1 c 1) ≤ x1 then (some st) else (if x1 < 0 ∨ 10 ≤ x1.toNatClampNeg then none else (if (st.1 (c + 5 + x1.toNatClampNeg) 4) = 0 then (fX4_countFast_22 c n (x1 + (1 : Int32)) st) else (if (st.1 (c + 5 + x1.toNatClampNeg) 1) < 0 ∨ 4 ≤ (st.1 (c + 5 + x1.toNatClampNeg) 1).toNatClampNeg then none else ((some (kwr st (c + 4) ((st.1 (c + 5 + x1.toNatClampNeg) 1).toNatClampNeg) ((st.1 (c + 4) ((st.1 (c + 5 + x1.toNatClampNeg) 1).toNatClampNeg)) + (1 : Int32)))).bind fun s5 => (fX4_countFast_22 c n (x1 + (1 : Int32)) s5)))))
def fX4_countFast_2 (c : Nat) : Nat → Int32 → kM → Option (kM)
  | 0, _, _ => none
  | n + 1, x1, st =>
    if (4 : Int32) ≤ x1 then (fX4_countFast_22 c kfu (0 : Int32) st) else (if x1 < 0 ∨ 4 ≤ x1.toNatClampNeg then none else ((some (kwr st (c + 4) x1.toNatClampNeg (0 : Int32))).bind fun s3 => (fX4_countFast_2 c n (x1 + (1 : Int32)) s3)))
def fX4_countFast (c : Nat) (st : kM) : Option (kM) :=
  fX4_countFast_2 c kfu (0 : Int32) st
set_option maxRecDepth 100000 in
theorem tX4_countFast_22 {Z : kZ} (C : kC Z cX4_countFast RX4 2 rmX4_countFast) {c : Nat} (hc : yd c) {res : kM} (K : kEnd Z none none res) : ∀ (n : Nat) (x1 : Int32) (st : kM), fX4_countFast_22 c n x1 st = some res → kV Z 2 22 [(0, kr Z c), (1, .int x1)] [] st := by
  intro n
  induction n with
  | zero => intro x1 st hf; cases hf
  | succ n ih =>
    intro x1 st hf
    unfold fX4_countFast_22 at hf
    refine k_iload_n C 1 dX4_countFast_22 rfl rfl rfl ?_
    refine k_aload_n C 0 dX4_countFast_23 rfl rfl rfl ?_
    refine g_X4_count C (yd_4 hc) kw_1_66 dX4_countFast_24 rfl ?_
    refine k_icmp_ge C 66 dX4_countFast_27 rfl rfl (fun b1 => ?_) (fun b1 => ?_)
    · replace hf := kf_t hf b1
      exact k_vret C K hf dX4_countFast_66
    · replace hf := kf_f hf b1
      refine k_aload_n C 0 dX4_countFast_30 rfl rfl rfl ?_
      refine g_X4_knots C (yd_4 hc) kw_1_77 dX4_countFast_31 rfl ?_
      refine k_iload_n C 1 dX4_countFast_34 rfl rfl rfl ?_
      obtain ⟨g2, hf⟩ := kf_g hf
      refine k_aldK C hc g2 dX4_countFast_35 rfl ?_
      refine g_X0_fast C (yd_n hc (vi_lt g2)) kw_1_51 dX4_countFast_36 rfl ?_
      refine k_if_eq C 60 dX4_countFast_39 rfl rfl (fun b3 => ?_) (fun b3 => ?_)
      · replace hf := kf_t hf b3
        refine k_iinc (lv' := [(1, .int (x1 + (1 : Int32))), (0, kr Z c)]) C (x1 + (1 : Int32)) 1 dX4_countFast_60 rfl rfl (by decide) rfl rfl ?_
        refine k_goto C 22 dX4_countFast_63 rfl ?_
        refine k_lv (lv' := [(0, kr Z c), (1, .int (x1 + (1 : Int32)))]) [1, 0] rfl ?_
        exact ih (x1 + (1 : Int32)) st  hf
      · replace hf := kf_f hf b3
        refine k_aload_n C 0 dX4_countFast_42 rfl rfl rfl ?_
        refine g_X4_fastOn C (yd_4 hc) kw_1_80 dX4_countFast_43 rfl ?_
        refine k_aload_n C 0 dX4_countFast_46 rfl rfl rfl ?_
        refine g_X4_knots C (yd_4 hc) kw_1_77 dX4_countFast_47 rfl ?_
        refine k_iload_n C 1 dX4_countFast_50 rfl rfl rfl ?_
        refine k_aldK C hc g2 dX4_countFast_51 rfl ?_
        refine g_X0_mast C (yd_n hc (vi_lt g2)) kw_1_40 dX4_countFast_52 rfl ?_
        refine k_dup2 C rfl rfl dX4_countFast_55 rfl ?_
        obtain ⟨g4, hf⟩ := kf_g hf
        refine k_iald (j := (st.1 (c + 5 + x1.toNatClampNeg) 1).toNatClampNeg) C (yd_f hc) g4 rfl dX4_countFast_56 rfl ?_
        refine k_iconst C (1 : Int32) dX4_countFast_57 (by decide) rfl ?_
        refine k_iadd C dX4_countFast_58 rfl ?_
        refine k_iast (j := (st.1 (c + 5 + x1.toNatClampNeg) 1).toNatClampNeg) C (yd_f hc) g4 rfl dX4_countFast_59 rfl ?_
        obtain ⟨s5, e6, hf⟩ := kf_b hf
        refine k_st e6 ?_
        refine k_iinc (lv' := [(1, .int (x1 + (1 : Int32))), (0, kr Z c)]) C (x1 + (1 : Int32)) 1 dX4_countFast_60 rfl rfl (by decide) rfl rfl ?_
        refine k_goto C 22 dX4_countFast_63 rfl ?_
        refine k_lv (lv' := [(0, kr Z c), (1, .int (x1 + (1 : Int32)))]) [1, 0] rfl ?_
        exact ih (x1 + (1 : Int32)) s5  hf
set_option maxRecDepth 100000 in
theorem tX4_countFast_2 {Z : kZ} (C : kC Z cX4_countFast RX4 2 rmX4_countFast) {c : Nat} (hc : yd c) {res : kM} (K : kEnd Z none none res) : ∀ (n : Nat) (x1 : Int32) (st : kM), fX4_countFast_2 c n x1 st = some res → kV Z 2 2 [(0, kr Z c), (1, .int x1)] [] st := by
  intro n
  induction n with
  | zero => intro x1 st hf; cases hf
  | succ n ih =>
    intro x1 st hf
    unfold fX4_countFast_2 at hf
    refine k_iload_n C 1 dX4_countFast_2 rfl rfl rfl ?_
    refine k_iconst C (4 : Int32) dX4_countFast_3 (by decide) rfl ?_
    refine k_icmp_ge C 20 dX4_countFast_4 rfl rfl (fun b1 => ?_) (fun b1 => ?_)
    · replace hf := kf_t hf b1
      refine k_iconst C (0 : Int32) dX4_countFast_20 (by decide) rfl ?_
      refine k_istore_n (lv' := [(1, .int (0 : Int32)), (0, kr Z c)]) C dX4_countFast_21 rfl (by decide) rfl rfl ?_
      refine k_lv (lv' := [(0, kr Z c), (1, .int (0 : Int32))]) [1, 0] rfl ?_
      exact tX4_countFast_22 C hc K _ (0 : Int32) st hf
    · replace hf := kf_f hf b1
      refine k_aload_n C 0 dX4_countFast_7 rfl rfl rfl ?_
      refine g_X4_fastOn C (yd_4 hc) kw_1_80 dX4_countFast_8 rfl ?_
      refine k_iload_n C 1 dX4_countFast_11 rfl rfl rfl ?_
      refine k_iconst C (0 : Int32) dX4_countFast_12 (by decide) rfl ?_
      obtain ⟨g2, hf⟩ := kf_g hf
      refine k_iast (j := x1.toNatClampNeg) C (yd_f hc) g2 rfl dX4_countFast_13 rfl ?_
      obtain ⟨s3, e4, hf⟩ := kf_b hf
      refine k_st e4 ?_
      refine k_iinc (lv' := [(1, .int (x1 + (1 : Int32))), (0, kr Z c)]) C (x1 + (1 : Int32)) 1 dX4_countFast_14 rfl rfl (by decide) rfl rfl ?_
      refine k_goto C 2 dX4_countFast_17 rfl ?_
      refine k_lv (lv' := [(0, kr Z c), (1, .int (x1 + (1 : Int32)))]) [1, 0] rfl ?_
      exact ih (x1 + (1 : Int32)) s3  hf
set_option maxRecDepth 100000 in
theorem tX4_countFast {Z : kZ} (C : kC Z cX4_countFast RX4 2 rmX4_countFast) {c : Nat} (hc : yd c) {st : kM} {res : kM} (hf : fX4_countFast c st = some res) (K : kEnd Z none none res) : kV Z 2 0 [(0, kr Z c)] [] st := by
  unfold fX4_countFast at hf
  refine k_iconst C (0 : Int32) dX4_countFast_0 (by decide) rfl ?_
  refine k_istore_n (lv' := [(1, .int (0 : Int32)), (0, kr Z c)]) C dX4_countFast_1 rfl (by decide) rfl rfl ?_
  refine k_lv (lv' := [(0, kr Z c), (1, .int (0 : Int32))]) [1, 0] rfl ?_
  exact tX4_countFast_2 C hc K _ (0 : Int32) st hf
theorem mX4_countFast {G : kG} {c : Nat} (hc : yd c) {st : kM} {res : kM} (hf : fX4_countFast c st = some res) : kCt G yX4_countFast cX4_countFast 2 none rmX4_countFast [.ref (G.2.1 c)] st none res := kMet (by decide) (Nat.le_of_ble_eq_true rfl) ⟨rfl, rfl⟩ (fun X A Q C K => tX4_countFast C hc hf K)
theorem qX4_countFast : yX4_countFast.cls = RX4 ∧ yX4_countFast.cls ≠ "java/lang/invoke/MethodHandle" ∧ yX4_countFast.cls ≠ "java/lang/invoke/VarHandle" ∧ (parseMethodDescriptor yX4_countFast.desc).map (fun d => d.parameters.length) = some 0 := ⟨rfl, by decide, by decide, by decide +kernel⟩
-- TalkKnots$Yard.strain(II)I
def rmX4_strain : Room := { frames := 0, cells := 0, slots := 0, locals := 0 }
def fX4_strain (c : Nat) (v1 : Int32) (v2 : Int32) (st : kM) : Option (Int32 × kM) :=
  if v1 < 0 ∨ 4 ≤ v1.toNatClampNeg then none else ((some (st.1 (c + 4) v1.toNatClampNeg)).bind fun z2 => (if z2 = 0 then (some ((0 : Int32), st)) else (if z2 = 0 then none else (some ((((st.1 (c + 2) v1.toNatClampNeg) + ((3 : Int32) * v2)) / z2), st)))))
set_option maxRecDepth 100000 in
theorem tX4_strain {Z : kZ} (C : kC Z cX4_strain RX4 4 rmX4_strain) {c : Nat} {v1 : Int32} {v2 : Int32} (hc : yd c) {st : kM} {res : Int32 × kM} (hf : fX4_strain c v1 v2 st = some res) (K : kEnd Z (some .int) (some (.int res.1)) res.2) : kV Z 4 0 [(0, kr Z c), (1, .int v1), (2, .int v2)] [] st := by
  unfold fX4_strain at hf
  refine k_aload_n C 0 dX4_strain_0 rfl rfl rfl ?_
  refine g_X4_fastOn C (yd_4 hc) kw_1_80 dX4_strain_1 rfl ?_
  refine k_iload_n C 1 dX4_strain_4 rfl rfl rfl ?_
  obtain ⟨g1, hf⟩ := kf_g hf
  refine k_iald (j := v1.toNatClampNeg) C (yd_f hc) g1 rfl dX4_strain_5 rfl ?_
  obtain ⟨z2, e3, hf⟩ := kf_b hf
  refine k_topi e3 ?_
  refine k_istore_n (lv' := [(3, .int z2), (0, kr Z c), (1, .int v1), (2, .int v2)]) C dX4_strain_6 rfl (by decide) rfl rfl ?_
  refine k_iload_n C 0 dX4_strain_7 rfl rfl rfl ?_
  refine k_if_ne C 15 dX4_strain_8 rfl rfl (fun b4 => ?_) (fun b4 => ?_)
  · replace hf := kf_f hf b4
    refine k_aload_n C 1 dX4_strain_15 rfl rfl rfl ?_
    refine g_X4_weights C (yd_4 hc) kw_1_74 dX4_strain_16 rfl ?_
    refine k_iload_n C 2 dX4_strain_19 rfl rfl rfl ?_
    refine k_iald (j := v1.toNatClampNeg) C (yd_g hc) g1 rfl dX4_strain_20 rfl ?_
    refine k_iconst C (3 : Int32) dX4_strain_21 (by decide) rfl ?_
    refine k_iload_n C 3 dX4_strain_22 rfl rfl rfl ?_
    refine k_imul C dX4_strain_23 rfl ?_
    refine k_iadd C dX4_strain_24 rfl ?_
    refine k_iload_n C 0 dX4_strain_25 rfl rfl rfl ?_
    obtain ⟨g5, hf⟩ := kf_g hf
    refine k_idiv C g5 dX4_strain_26 rfl ?_
    exact k_iret C K hf dX4_strain_27
  · replace hf := kf_t hf b4
    refine k_iconst C (0 : Int32) dX4_strain_11 (by decide) rfl ?_
    refine k_goto C 27 dX4_strain_12 rfl ?_
    exact k_iret C K hf dX4_strain_27
theorem mX4_strain {G : kG} {c : Nat} {v1 : Int32} {v2 : Int32} (hc : yd c) {st : kM} {res : Int32 × kM} (hf : fX4_strain c v1 v2 st = some res) : kCt G yX4_strain cX4_strain 4 (some .int) rmX4_strain [.ref (G.2.1 c), .int v1, .int v2] st (some (.int res.1)) res.2 := kMet (by decide) (Nat.le_of_ble_eq_true rfl) ⟨rfl, rfl⟩ (fun X A Q C K => tX4_strain C hc hf K)
theorem qX4_strain : yX4_strain.cls = RX4 ∧ yX4_strain.cls ≠ "java/lang/invoke/MethodHandle" ∧ yX4_strain.cls ≠ "java/lang/invoke/VarHandle" ∧ (parseMethodDescriptor yX4_strain.desc).map (fun d => d.parameters.length) = some 2 := ⟨rfl, by decide, by decide, by decide +kernel⟩
-- TalkKnots$Yard.heldBy(LTalkKnots$Knot;I)I
def rmX4_heldBy : Room := { frames := 2, cells := 0, slots := 0, locals := 43 }
def fX4_heldBy (c : Nat) (c1 : Nat) (v2 : Int32) (st : kM) : Option (Int32 × kM) :=
  if (st.1 c1 1) < 0 ∨ 4 ≤ (st.1 c1 1).toNatClampNeg then none else ((fX0_holding c1 v2 ((st.1 (c + 4) ((st.1 c1 1).toNatClampNeg)) - (1 : Int32)) st).bind fun q2 => (some (q2.1, q2.2)))
set_option maxRecDepth 100000 in
theorem tX4_heldBy {Z : kZ} (C : kC Z cX4_heldBy RX4 3 rmX4_heldBy) {c : Nat} {c1 : Nat} {v2 : Int32} (hc : yd c) (hc1 : kd c1 = 0) {st : kM} {res : Int32 × kM} (hf : fX4_heldBy c c1 v2 st = some res) (K : kEnd Z (some .int) (some (.int res.1)) res.2) : kV Z 3 0 [(0, kr Z c), (1, kr Z c1), (2, .int v2)] [] st := by
  unfold fX4_heldBy at hf
  refine k_aload_n C 1 dX4_heldBy_0 rfl rfl rfl ?_
  refine k_iload_n C 2 dX4_heldBy_1 rfl rfl rfl ?_
  refine k_aload_n C 0 dX4_heldBy_2 rfl rfl rfl ?_
  refine g_X4_fastOn C (yd_4 hc) kw_1_80 dX4_heldBy_3 rfl ?_
  refine k_aload_n C 1 dX4_heldBy_6 rfl rfl rfl ?_
  refine g_X0_mast C hc1 kw_1_40 dX4_heldBy_7 rfl ?_
  obtain ⟨g1, hf⟩ := kf_g hf
  refine k_iald (j := (st.1 c1 1).toNatClampNeg) C (yd_f hc) g1 rfl dX4_heldBy_10 rfl ?_
  refine k_iconst C (1 : Int32) dX4_heldBy_11 (by decide) rfl ?_
  refine k_isub C dX4_heldBy_12 rfl ?_
  obtain ⟨q2, e3, hf⟩ := kf_b hf
  refine k_callV C [.int v2, .int ((st.1 (c + 4) ((st.1 c1 1).toNatClampNeg)) - (1 : Int32))] (mX0_holding hc1 e3) hc1 (by decide) rfl kw_2_20 kw_2_21 kw_2_22 kw_1_3 kw_2_23 qX0_holding rfl ⟨by decide, by decide⟩ ⟨rfl, rfl⟩ (Nat.le_of_ble_eq_true rfl) dX4_heldBy_13 rfl ?_ rfl
  refine (show kV Z 3 16 [(0, kr Z c), (1, kr Z c1), (2, .int v2)] [.int q2.1] q2.2 from ?_)
  exact k_iret C K hf dX4_heldBy_16
theorem mX4_heldBy {G : kG} {c : Nat} {c1 : Nat} {v2 : Int32} (hc : yd c) (hc1 : kd c1 = 0) {st : kM} {res : Int32 × kM} (hf : fX4_heldBy c c1 v2 st = some res) : kCt G yX4_heldBy cX4_heldBy 3 (some .int) rmX4_heldBy [.ref (G.2.1 c), .ref (G.2.1 c1), .int v2] st (some (.int res.1)) res.2 := kMet (by decide) (Nat.le_of_ble_eq_true rfl) ⟨rfl, rfl⟩ (fun X A Q C K => tX4_heldBy C hc hc1 hf K)
theorem qX4_heldBy : yX4_heldBy.cls = RX4 ∧ yX4_heldBy.cls ≠ "java/lang/invoke/MethodHandle" ∧ yX4_heldBy.cls ≠ "java/lang/invoke/VarHandle" ∧ (parseMethodDescriptor yX4_heldBy.desc).map (fun d => d.parameters.length) = some 2 := ⟨rfl, by decide, by decide, by decide +kernel⟩
-- TalkKnots$Yard.dropMasts()V
def rmX4_dropMasts : Room := { frames := 1, cells := 0, slots := 0, locals := 23 }
def fX4_dropMasts_2 (c : Nat) : Nat → Int32 → kM → Option (kM)
  | 0, _, _ => none
  | n + 1, x1, st =>
    if (4 : Int32) ≤ x1 then (some st) else (if x1 < 0 ∨ 4 ≤ x1.toNatClampNeg then none else (if (st.1 (c + 4) x1.toNatClampNeg) = 0 then ((fX4_putUp c x1 (0 : Int32) st).bind fun s4 => (fX4_dropMasts_2 c n (x1 + (1 : Int32)) s4)) else (fX4_dropMasts_2 c n (x1 + (1 : Int32)) st)))
def fX4_dropMasts (c : Nat) (st : kM) : Option (kM) :=
  fX4_dropMasts_2 c kfu (0 : Int32) st
set_option maxRecDepth 100000 in
theorem tX4_dropMasts_2 {Z : kZ} (C : kC Z cX4_dropMasts RX4 2 rmX4_dropMasts) {c : Nat} (hc : yd c) {res : kM} (K : kEnd Z none none res) : ∀ (n : Nat) (x1 : Int32) (st : kM), fX4_dropMasts_2 c n x1 st = some res → kV Z 2 2 [(0, kr Z c), (1, .int x1)] [] st := by
  intro n
  induction n with
  | zero => intro x1 st hf; cases hf
  | succ n ih =>
    intro x1 st hf
    unfold fX4_dropMasts_2 at hf
    refine k_iload_n C 1 dX4_dropMasts_2 rfl rfl rfl ?_
    refine k_iconst C (4 : Int32) dX4_dropMasts_3 (by decide) rfl ?_
    refine k_icmp_ge C 28 dX4_dropMasts_4 rfl rfl (fun b1 => ?_) (fun b1 => ?_)
    · replace hf := kf_t hf b1
      exact k_vret C K hf dX4_dropMasts_28
    · replace hf := kf_f hf b1
      refine k_aload_n C 0 dX4_dropMasts_7 rfl rfl rfl ?_
      refine g_X4_fastOn C (yd_4 hc) kw_1_80 dX4_dropMasts_8 rfl ?_
      refine k_iload_n C 1 dX4_dropMasts_11 rfl rfl rfl ?_
      obtain ⟨g2, hf⟩ := kf_g hf
      refine k_iald (j := x1.toNatClampNeg) C (yd_f hc) g2 rfl dX4_dropMasts_12 rfl ?_
      refine k_if_ne C 22 dX4_dropMasts_13 rfl rfl (fun b3 => ?_) (fun b3 => ?_)
      · replace hf := kf_f hf b3
        refine k_iinc (lv' := [(1, .int (x1 + (1 : Int32))), (0, kr Z c)]) C (x1 + (1 : Int32)) 1 dX4_dropMasts_22 rfl rfl (by decide) rfl rfl ?_
        refine k_goto C 2 dX4_dropMasts_25 rfl ?_
        refine k_lv (lv' := [(0, kr Z c), (1, .int (x1 + (1 : Int32)))]) [1, 0] rfl ?_
        exact ih (x1 + (1 : Int32)) st  hf
      · replace hf := kf_t hf b3
        refine k_aload_n C 0 dX4_dropMasts_16 rfl rfl rfl ?_
        refine k_iload_n C 1 dX4_dropMasts_17 rfl rfl rfl ?_
        refine k_iconst C (0 : Int32) dX4_dropMasts_18 (by decide) rfl ?_
        obtain ⟨s4, e5, hf⟩ := kf_b hf
        refine k_callV C [.int x1, .int (0 : Int32)] (mX4_putUp hc e5) (yd_4 hc) (by decide) rfl kw_2_150 kw_1_213 kw_1_214 kw_1_2 kw_1_215 qX4_putUp rfl ⟨by decide, by decide⟩ ⟨rfl, rfl⟩ (Nat.le_of_ble_eq_true rfl) dX4_dropMasts_19 rfl ?_ rfl
        refine (show kV Z 2 22 [(0, kr Z c), (1, .int x1)] [] s4 from ?_)
        refine k_iinc (lv' := [(1, .int (x1 + (1 : Int32))), (0, kr Z c)]) C (x1 + (1 : Int32)) 1 dX4_dropMasts_22 rfl rfl (by decide) rfl rfl ?_
        refine k_goto C 2 dX4_dropMasts_25 rfl ?_
        refine k_lv (lv' := [(0, kr Z c), (1, .int (x1 + (1 : Int32)))]) [1, 0] rfl ?_
        exact ih (x1 + (1 : Int32)) s4  hf
set_option maxRecDepth 100000 in
theorem tX4_dropMasts {Z : kZ} (C : kC Z cX4_dropMasts RX4 2 rmX4_dropMasts) {c : Nat} (hc : yd c) {st : kM} {res : kM} (hf : fX4_dropMasts c st = some res) (K : kEnd Z none none res) : kV Z 2 0 [(0, kr Z c)] [] st := by
  unfold fX4_dropMasts at hf
  refine k_iconst C (0 : Int32) dX4_dropMasts_0 (by decide) rfl ?_
  refine k_istore_n (lv' := [(1, .int (0 : Int32)), (0, kr Z c)]) C dX4_dropMasts_1 rfl (by decide) rfl rfl ?_
  refine k_lv (lv' := [(0, kr Z c), (1, .int (0 : Int32))]) [1, 0] rfl ?_
  exact tX4_dropMasts_2 C hc K _ (0 : Int32) st hf
theorem mX4_dropMasts {G : kG} {c : Nat} (hc : yd c) {st : kM} {res : kM} (hf : fX4_dropMasts c st = some res) : kCt G yX4_dropMasts cX4_dropMasts 2 none rmX4_dropMasts [.ref (G.2.1 c)] st none res := kMet (by decide) (Nat.le_of_ble_eq_true rfl) ⟨rfl, rfl⟩ (fun X A Q C K => tX4_dropMasts C hc hf K)
theorem qX4_dropMasts : yX4_dropMasts.cls = RX4 ∧ yX4_dropMasts.cls ≠ "java/lang/invoke/MethodHandle" ∧ yX4_dropMasts.cls ≠ "java/lang/invoke/VarHandle" ∧ (parseMethodDescriptor yX4_dropMasts.desc).map (fun d => d.parameters.length) = some 0 := ⟨rfl, by decide, by decide, by decide +kernel⟩
-- TalkKnots$Yard.letGo(I)V
def rmX4_letGo : Room := { frames := 3, cells := 0, slots := 0, locals := 65 }
def fX4_letGo_2 (c : Nat) : Nat → Int32 → Int32 → kM → Option (kM)
  | 0, _, _, _ => none
  | n + 1, x1, x2, st =>
    if (st.1 c 1) ≤ x2 then (some st) else (if x2 < 0 ∨ 10 ≤ x2.toNatClampNeg then none else (if (st.1 (c + 5 + x2.toNatClampNeg) 4) = 0 then (fX4_letGo_2 c n x1 (x2 + (1 : Int32)) st) else ((fX4_isUp c (st.1 (c + 5 + x2.toNatClampNeg) 1) st).bind fun q4 => (if q4.1 = 0 then (fX4_letGo_2 c n x1 (x2 + (1 : Int32)) q4.2) else ((fX4_strain c (q4.2.1 (c + 5 + x2.toNatClampNeg) 1) x1 q4.2).bind fun q7 => ((fX4_heldBy c (c + 5 + x2.toNatClampNeg) x1 q7.2).bind fun q9 => ((fX0_givesWay (c + 5 + x2.toNatClampNeg) q7.1 q9.1 q9.2).bind fun q11 => (if q11.1 = 0 then (fX4_letGo_2 c n x1 (x2 + (1 : Int32)) q11.2) else ((some (kwr q11.2 (c + 5 + x2.toNatClampNeg) 4 (0 : Int32))).bind fun s14 => (fX4_letGo_2 c n x1 (x2 + (1 : Int32)) s14))))))))))
def fX4_letGo (c : Nat) (v1 : Int32) (st : kM) : Option (kM) :=
  fX4_letGo_2 c kfu v1 (0 : Int32) st
set_option maxRecDepth 100000 in
theorem tX4_letGo_2 {Z : kZ} (C : kC Z cX4_letGo RX4 4 rmX4_letGo) {c : Nat} (hc : yd c) {res : kM} (K : kEnd Z none none res) : ∀ (n : Nat) (x1 : Int32) (x2 : Int32) (st : kM), fX4_letGo_2 c n x1 x2 st = some res → kV Z 4 2 [(0, kr Z c), (1, .int x1), (2, .int x2)] [] st := by
  intro n
  induction n with
  | zero => intro x1 x2 st hf; cases hf
  | succ n ih =>
    intro x1 x2 st hf
    unfold fX4_letGo_2 at hf
    refine k_iload_n C 2 dX4_letGo_2 rfl rfl rfl ?_
    refine k_aload_n C 0 dX4_letGo_3 rfl rfl rfl ?_
    refine g_X4_count C (yd_4 hc) kw_1_66 dX4_letGo_4 rfl ?_
    refine k_icmp_ge C 68 dX4_letGo_7 rfl rfl (fun b1 => ?_) (fun b1 => ?_)
    · replace hf := kf_t hf b1
      exact k_vret C K hf dX4_letGo_68
    · replace hf := kf_f hf b1
      refine k_aload_n C 0 dX4_letGo_10 rfl rfl rfl ?_
      refine g_X4_knots C (yd_4 hc) kw_1_77 dX4_letGo_11 rfl ?_
      refine k_iload_n C 2 dX4_letGo_14 rfl rfl rfl ?_
      obtain ⟨g2, hf⟩ := kf_g hf
      refine k_aldK C hc g2 dX4_letGo_15 rfl ?_
      refine k_astore_n (lv' := [(3, kr Z (c + 5 + x2.toNatClampNeg)), (0, kr Z c), (1, .int x1), (2, .int x2)]) C dX4_letGo_16 rfl (by decide) rfl rfl ?_
      refine k_aload_n C 0 dX4_letGo_17 rfl rfl rfl ?_
      refine g_X0_fast C (yd_n hc (vi_lt g2)) kw_1_51 dX4_letGo_18 rfl ?_
      refine k_if_eq C 62 dX4_letGo_21 rfl rfl (fun b3 => ?_) (fun b3 => ?_)
      · replace hf := kf_t hf b3
        refine k_iinc (lv' := [(2, .int (x2 + (1 : Int32))), (3, kr Z (c + 5 + x2.toNatClampNeg)), (0, kr Z c), (1, .int x1)]) C (x2 + (1 : Int32)) 3 dX4_letGo_62 rfl rfl (by decide) rfl rfl ?_
        refine k_goto C 2 dX4_letGo_65 rfl ?_
        refine k_lv (lv' := [(0, kr Z c), (1, .int x1), (2, .int (x2 + (1 : Int32)))]) [2, 3, 0] rfl ?_
        exact ih x1 (x2 + (1 : Int32)) st  hf
      · replace hf := kf_f hf b3
        refine k_aload_n C 1 dX4_letGo_24 rfl rfl rfl ?_
        refine k_aload_n C 0 dX4_letGo_25 rfl rfl rfl ?_
        refine g_X0_mast C (yd_n hc (vi_lt g2)) kw_1_40 dX4_letGo_26 rfl ?_
        obtain ⟨q4, e5, hf⟩ := kf_b hf
        refine k_callV C [.int (st.1 (c + 5 + x2.toNatClampNeg) 1)] (mX4_isUp hc e5) (yd_4 hc) (by decide) rfl kw_2_145 kw_1_209 kw_1_210 kw_1_2 kw_1_211 qX4_isUp rfl ⟨by decide, by decide⟩ ⟨rfl, rfl⟩ (Nat.le_of_ble_eq_true rfl) dX4_letGo_29 rfl ?_ rfl
        refine (show kV Z 4 32 [(3, kr Z (c + 5 + x2.toNatClampNeg)), (0, kr Z c), (1, .int x1), (2, .int x2)] [.int q4.1] q4.2 from ?_)
        refine k_if_eq C 62 dX4_letGo_32 rfl rfl (fun b6 => ?_) (fun b6 => ?_)
        · replace hf := kf_t hf b6
          refine k_iinc (lv' := [(2, .int (x2 + (1 : Int32))), (3, kr Z (c + 5 + x2.toNatClampNeg)), (0, kr Z c), (1, .int x1)]) C (x2 + (1 : Int32)) 3 dX4_letGo_62 rfl rfl (by decide) rfl rfl ?_
          refine k_goto C 2 dX4_letGo_65 rfl ?_
          refine k_lv (lv' := [(0, kr Z c), (1, .int x1), (2, .int (x2 + (1 : Int32)))]) [2, 3, 0] rfl ?_
          exact ih x1 (x2 + (1 : Int32)) q4.2  hf
        · replace hf := kf_f hf b6
          refine k_aload_n C 0 dX4_letGo_35 rfl rfl rfl ?_
          refine k_aload_n C 1 dX4_letGo_36 rfl rfl rfl ?_
          refine k_aload_n C 0 dX4_letGo_37 rfl rfl rfl ?_
          refine g_X0_mast C (yd_n hc (vi_lt g2)) kw_1_40 dX4_letGo_38 rfl ?_
          refine k_iload_n C 2 dX4_letGo_41 rfl rfl rfl ?_
          obtain ⟨q7, e8, hf⟩ := kf_b hf
          refine k_callV C [.int (q4.2.1 (c + 5 + x2.toNatClampNeg) 1), .int x1] (mX4_strain hc e8) (yd_4 hc) (by decide) rfl kw_2_4 kw_2_6 kw_0_2 kw_1_2 kw_2_7 qX4_strain rfl ⟨by decide, by decide⟩ ⟨rfl, rfl⟩ (Nat.le_of_ble_eq_true rfl) dX4_letGo_42 rfl ?_ rfl
          refine (show kV Z 4 45 [(3, kr Z (c + 5 + x2.toNatClampNeg)), (0, kr Z c), (1, .int x1), (2, .int x2)] [.int q7.1, kr Z (c + 5 + x2.toNatClampNeg)] q7.2 from ?_)
          refine k_aload_n C 1 dX4_letGo_45 rfl rfl rfl ?_
          refine k_aload_n C 0 dX4_letGo_46 rfl rfl rfl ?_
          refine k_iload_n C 2 dX4_letGo_47 rfl rfl rfl ?_
          obtain ⟨q9, e10, hf⟩ := kf_b hf
          refine k_callV C [kr Z (c + 5 + x2.toNatClampNeg), .int x1] (mX4_heldBy hc (yd_n hc (vi_lt g2)) e10) (yd_4 hc) (by decide) rfl kw_2_16 kw_2_18 kw_0_3 kw_1_2 kw_2_19 qX4_heldBy rfl ⟨by decide, by decide⟩ ⟨rfl, rfl⟩ (Nat.le_of_ble_eq_true rfl) dX4_letGo_48 rfl ?_ rfl
          refine (show kV Z 4 51 [(3, kr Z (c + 5 + x2.toNatClampNeg)), (0, kr Z c), (1, .int x1), (2, .int x2)] [.int q9.1, .int q7.1, kr Z (c + 5 + x2.toNatClampNeg)] q9.2 from ?_)
          obtain ⟨q11, e12, hf⟩ := kf_b hf
          refine k_callV C [.int q7.1, .int q9.1] (mX0_givesWay (yd_n hc (vi_lt g2)) e12) (yd_n hc (vi_lt g2)) (by decide) rfl kw_2_82 kw_2_83 kw_2_84 kw_1_3 kw_2_85 qX0_givesWay rfl ⟨by decide, by decide⟩ ⟨rfl, rfl⟩ (Nat.le_of_ble_eq_true rfl) dX4_letGo_51 rfl ?_ rfl
          refine (show kV Z 4 54 [(3, kr Z (c + 5 + x2.toNatClampNeg)), (0, kr Z c), (1, .int x1), (2, .int x2)] [.int q11.1] q11.2 from ?_)
          refine k_if_eq C 62 dX4_letGo_54 rfl rfl (fun b13 => ?_) (fun b13 => ?_)
          · replace hf := kf_t hf b13
            refine k_iinc (lv' := [(2, .int (x2 + (1 : Int32))), (3, kr Z (c + 5 + x2.toNatClampNeg)), (0, kr Z c), (1, .int x1)]) C (x2 + (1 : Int32)) 3 dX4_letGo_62 rfl rfl (by decide) rfl rfl ?_
            refine k_goto C 2 dX4_letGo_65 rfl ?_
            refine k_lv (lv' := [(0, kr Z c), (1, .int x1), (2, .int (x2 + (1 : Int32)))]) [2, 3, 0] rfl ?_
            exact ih x1 (x2 + (1 : Int32)) q11.2  hf
          · replace hf := kf_f hf b13
            refine k_aload_n C 0 dX4_letGo_57 rfl rfl rfl ?_
            refine k_iconst C (0 : Int32) dX4_letGo_58 (by decide) rfl ?_
            refine p_X0_fast C (by decide) (yd_n hc (vi_lt g2)) kw_1_51 dX4_letGo_59 rfl ?_
            obtain ⟨s14, e15, hf⟩ := kf_b hf
            refine k_st e15 ?_
            refine k_iinc (lv' := [(2, .int (x2 + (1 : Int32))), (3, kr Z (c + 5 + x2.toNatClampNeg)), (0, kr Z c), (1, .int x1)]) C (x2 + (1 : Int32)) 3 dX4_letGo_62 rfl rfl (by decide) rfl rfl ?_
            refine k_goto C 2 dX4_letGo_65 rfl ?_
            refine k_lv (lv' := [(0, kr Z c), (1, .int x1), (2, .int (x2 + (1 : Int32)))]) [2, 3, 0] rfl ?_
            exact ih x1 (x2 + (1 : Int32)) s14  hf
set_option maxRecDepth 100000 in
theorem tX4_letGo {Z : kZ} (C : kC Z cX4_letGo RX4 4 rmX4_letGo) {c : Nat} {v1 : Int32} (hc : yd c) {st : kM} {res : kM} (hf : fX4_letGo c v1 st = some res) (K : kEnd Z none none res) : kV Z 4 0 [(0, kr Z c), (1, .int v1)] [] st := by
  unfold fX4_letGo at hf
  refine k_iconst C (0 : Int32) dX4_letGo_0 (by decide) rfl ?_
  refine k_istore_n (lv' := [(2, .int (0 : Int32)), (0, kr Z c), (1, .int v1)]) C dX4_letGo_1 rfl (by decide) rfl rfl ?_
  refine k_lv (lv' := [(0, kr Z c), (1, .int v1), (2, .int (0 : Int32))]) [1, 2, 0] rfl ?_
  exact tX4_letGo_2 C hc K _ v1 (0 : Int32) st hf
theorem mX4_letGo {G : kG} {c : Nat} {v1 : Int32} (hc : yd c) {st : kM} {res : kM} (hf : fX4_letGo c v1 st = some res) : kCt G yX4_letGo cX4_letGo 4 none rmX4_letGo [.ref (G.2.1 c), .int v1] st none res := kMet (by decide) (Nat.le_of_ble_eq_true rfl) ⟨rfl, rfl⟩ (fun X A Q C K => tX4_letGo C hc hf K)
theorem qX4_letGo : yX4_letGo.cls = RX4 ∧ yX4_letGo.cls ≠ "java/lang/invoke/MethodHandle" ∧ yX4_letGo.cls ≠ "java/lang/invoke/VarHandle" ∧ (parseMethodDescriptor yX4_letGo.desc).map (fun d => d.parameters.length) = some 1 := ⟨rfl, by decide, by decide, by decide +kernel⟩
-- TalkKnots$Yard.settleKnots(I)V
def rmX4_settleKnots : Room := { frames := 3, cells := 0, slots := 0, locals := 63 }
def fX4_settleKnots_2 (c : Nat) : Nat → Int32 → Int32 → kM → Option (kM)
  | 0, _, _, _ => none
  | n + 1, x1, x2, st =>
    if (st.1 c 1) ≤ x2 then (some st) else (if x2 < 0 ∨ 10 ≤ x2.toNatClampNeg then none else (if (st.1 (c + 5 + x2.toNatClampNeg) 4) = 0 then (fX4_settleKnots_2 c n x1 (x2 + (1 : Int32)) st) else ((fX0_settle (c + 5 + x2.toNatClampNeg) x1 st).bind fun s4 => (fX4_settleKnots_2 c n x1 (x2 + (1 : Int32)) s4))))
def fX4_settleKnots (c : Nat) (v1 : Int32) (st : kM) : Option (kM) :=
  fX4_settleKnots_2 c kfu v1 (0 : Int32) st
set_option maxRecDepth 100000 in
theorem tX4_settleKnots_2 {Z : kZ} (C : kC Z cX4_settleKnots RX4 3 rmX4_settleKnots) {c : Nat} (hc : yd c) {res : kM} (K : kEnd Z none none res) : ∀ (n : Nat) (x1 : Int32) (x2 : Int32) (st : kM), fX4_settleKnots_2 c n x1 x2 st = some res → kV Z 3 2 [(0, kr Z c), (1, .int x1), (2, .int x2)] [] st := by
  intro n
  induction n with
  | zero => intro x1 x2 st hf; cases hf
  | succ n ih =>
    intro x1 x2 st hf
    unfold fX4_settleKnots_2 at hf
    refine k_iload_n C 2 dX4_settleKnots_2 rfl rfl rfl ?_
    refine k_aload_n C 0 dX4_settleKnots_3 rfl rfl rfl ?_
    refine g_X4_count C (yd_4 hc) kw_1_66 dX4_settleKnots_4 rfl ?_
    refine k_icmp_ge C 38 dX4_settleKnots_7 rfl rfl (fun b1 => ?_) (fun b1 => ?_)
    · replace hf := kf_t hf b1
      exact k_vret C K hf dX4_settleKnots_38
    · replace hf := kf_f hf b1
      refine k_aload_n C 0 dX4_settleKnots_10 rfl rfl rfl ?_
      refine g_X4_knots C (yd_4 hc) kw_1_77 dX4_settleKnots_11 rfl ?_
      refine k_iload_n C 2 dX4_settleKnots_14 rfl rfl rfl ?_
      obtain ⟨g2, hf⟩ := kf_g hf
      refine k_aldK C hc g2 dX4_settleKnots_15 rfl ?_
      refine g_X0_fast C (yd_n hc (vi_lt g2)) kw_1_51 dX4_settleKnots_16 rfl ?_
      refine k_if_eq C 32 dX4_settleKnots_19 rfl rfl (fun b3 => ?_) (fun b3 => ?_)
      · replace hf := kf_t hf b3
        refine k_iinc (lv' := [(2, .int (x2 + (1 : Int32))), (0, kr Z c), (1, .int x1)]) C (x2 + (1 : Int32)) 2 dX4_settleKnots_32 rfl rfl (by decide) rfl rfl ?_
        refine k_goto C 2 dX4_settleKnots_35 rfl ?_
        refine k_lv (lv' := [(0, kr Z c), (1, .int x1), (2, .int (x2 + (1 : Int32)))]) [1, 2, 0] rfl ?_
        exact ih x1 (x2 + (1 : Int32)) st  hf
      · replace hf := kf_f hf b3
        refine k_aload_n C 0 dX4_settleKnots_22 rfl rfl rfl ?_
        refine g_X4_knots C (yd_4 hc) kw_1_77 dX4_settleKnots_23 rfl ?_
        refine k_iload_n C 2 dX4_settleKnots_26 rfl rfl rfl ?_
        refine k_aldK C hc g2 dX4_settleKnots_27 rfl ?_
        refine k_iload_n C 1 dX4_settleKnots_28 rfl rfl rfl ?_
        obtain ⟨s4, e5, hf⟩ := kf_b hf
        refine k_callV C [.int x1] (mX0_settle (yd_n hc (vi_lt g2)) e5) (yd_n hc (vi_lt g2)) (by decide) rfl kw_2_155 kw_2_156 kw_2_157 kw_1_3 kw_2_158 qX0_settle rfl ⟨by decide, by decide⟩ ⟨rfl, rfl⟩ (Nat.le_of_ble_eq_true rfl) dX4_settleKnots_29 rfl ?_ rfl
        refine (show kV Z 3 32 [(0, kr Z c), (1, .int x1), (2, .int x2)] [] s4 from ?_)
        refine k_iinc (lv' := [(2, .int (x2 + (1 : Int32))), (0, kr Z c), (1, .int x1)]) C (x2 + (1 : Int32)) 2 dX4_settleKnots_32 rfl rfl (by decide) rfl rfl ?_
        refine k_goto C 2 dX4_settleKnots_35 rfl ?_
        refine k_lv (lv' := [(0, kr Z c), (1, .int x1), (2, .int (x2 + (1 : Int32)))]) [1, 2, 0] rfl ?_
        exact ih x1 (x2 + (1 : Int32)) s4  hf
set_option maxRecDepth 100000 in
theorem tX4_settleKnots {Z : kZ} (C : kC Z cX4_settleKnots RX4 3 rmX4_settleKnots) {c : Nat} {v1 : Int32} (hc : yd c) {st : kM} {res : kM} (hf : fX4_settleKnots c v1 st = some res) (K : kEnd Z none none res) : kV Z 3 0 [(0, kr Z c), (1, .int v1)] [] st := by
  unfold fX4_settleKnots at hf
  refine k_iconst C (0 : Int32) dX4_settleKnots_0 (by decide) rfl ?_
  refine k_istore_n (lv' := [(2, .int (0 : Int32)), (0, kr Z c), (1, .int v1)]) C dX4_settleKnots_1 rfl (by decide) rfl rfl ?_
  refine k_lv (lv' := [(0, kr Z c), (1, .int v1), (2, .int (0 : Int32))]) [1, 2, 0] rfl ?_
  exact tX4_settleKnots_2 C hc K _ v1 (0 : Int32) st hf
theorem mX4_settleKnots {G : kG} {c : Nat} {v1 : Int32} (hc : yd c) {st : kM} {res : kM} (hf : fX4_settleKnots c v1 st = some res) : kCt G yX4_settleKnots cX4_settleKnots 3 none rmX4_settleKnots [.ref (G.2.1 c), .int v1] st none res := kMet (by decide) (Nat.le_of_ble_eq_true rfl) ⟨rfl, rfl⟩ (fun X A Q C K => tX4_settleKnots C hc hf K)
theorem qX4_settleKnots : yX4_settleKnots.cls = RX4 ∧ yX4_settleKnots.cls ≠ "java/lang/invoke/MethodHandle" ∧ yX4_settleKnots.cls ≠ "java/lang/invoke/VarHandle" ∧ (parseMethodDescriptor yX4_settleKnots.desc).map (fun d => d.parameters.length) = some 1 := ⟨rfl, by decide, by decide, by decide +kernel⟩
-- TalkKnots$Yard.passHour()V
def rmX4_passHour : Room := { frames := 4, cells := 0, slots := 0, locals := 88 }
def fX4_passHour (c : Nat) (st : kM) : Option (kM) :=
  (fX4_windNow c st).bind fun q1 => ((fX4_countFast c q1.2).bind fun s3 => ((fX4_letGo c q1.1 s3).bind fun s5 => ((fX4_countFast c s5).bind fun s7 => ((fX4_dropMasts c s7).bind fun s9 => ((fX4_settleKnots c q1.1 s9).bind fun s11 => ((some (kwr s11 c 0 ((s11.1 c 0) + (1 : Int32)))).bind fun s13 => (some s13)))))))
set_option maxRecDepth 100000 in
theorem tX4_passHour {Z : kZ} (C : kC Z cX4_passHour RX4 2 rmX4_passHour) {c : Nat} (hc : yd c) {st : kM} {res : kM} (hf : fX4_passHour c st = some res) (K : kEnd Z none none res) : kV Z 2 0 [(0, kr Z c)] [] st := by
  unfold fX4_passHour at hf
  refine k_aload_n C 0 dX4_passHour_0 rfl rfl rfl ?_
  obtain ⟨q1, e2, hf⟩ := kf_b hf
  refine k_callV C [] (mX4_windNow hc e2) (yd_4 hc) (by decide) rfl kw_1_236 kw_1_237 kw_1_238 kw_1_2 kw_1_239 qX4_windNow rfl ⟨by decide, by decide⟩ ⟨rfl, rfl⟩ (Nat.le_of_ble_eq_true rfl) dX4_passHour_1 rfl ?_ rfl
  refine (show kV Z 2 4 [(0, kr Z c)] [.int q1.1] q1.2 from ?_)
  refine k_istore_n (lv' := [(1, .int q1.1), (0, kr Z c)]) C dX4_passHour_4 rfl (by decide) rfl rfl ?_
  refine k_aload_n C 1 dX4_passHour_5 rfl rfl rfl ?_
  obtain ⟨s3, e4, hf⟩ := kf_b hf
  refine k_callV C [] (mX4_countFast hc e4) (yd_4 hc) (by decide) rfl kw_1_232 kw_1_234 kw_0_1 kw_1_2 kw_1_235 qX4_countFast rfl ⟨by decide, by decide⟩ ⟨rfl, rfl⟩ (Nat.le_of_ble_eq_true rfl) dX4_passHour_6 rfl ?_ rfl
  refine (show kV Z 2 9 [(1, .int q1.1), (0, kr Z c)] [] s3 from ?_)
  refine k_aload_n C 1 dX4_passHour_9 rfl rfl rfl ?_
  refine k_iload_n C 0 dX4_passHour_10 rfl rfl rfl ?_
  obtain ⟨s5, e6, hf⟩ := kf_b hf
  refine k_callV C [.int q1.1] (mX4_letGo hc e6) (yd_4 hc) (by decide) rfl kw_2_141 kw_2_143 kw_0_7 kw_1_2 kw_2_144 qX4_letGo rfl ⟨by decide, by decide⟩ ⟨rfl, rfl⟩ (Nat.le_of_ble_eq_true rfl) dX4_passHour_11 rfl ?_ rfl
  refine (show kV Z 2 14 [(1, .int q1.1), (0, kr Z c)] [] s5 from ?_)
  refine k_aload_n C 1 dX4_passHour_14 rfl rfl rfl ?_
  obtain ⟨s7, e8, hf⟩ := kf_b hf
  refine k_callV C [] (mX4_countFast hc e8) (yd_4 hc) (by decide) rfl kw_1_232 kw_1_234 kw_0_1 kw_1_2 kw_1_235 qX4_countFast rfl ⟨by decide, by decide⟩ ⟨rfl, rfl⟩ (Nat.le_of_ble_eq_true rfl) dX4_passHour_15 rfl ?_ rfl
  refine (show kV Z 2 18 [(1, .int q1.1), (0, kr Z c)] [] s7 from ?_)
  refine k_aload_n C 1 dX4_passHour_18 rfl rfl rfl ?_
  obtain ⟨s9, e10, hf⟩ := kf_b hf
  refine k_callV C [] (mX4_dropMasts hc e10) (yd_4 hc) (by decide) rfl kw_2_146 kw_2_148 kw_0_8 kw_1_2 kw_2_149 qX4_dropMasts rfl ⟨by decide, by decide⟩ ⟨rfl, rfl⟩ (Nat.le_of_ble_eq_true rfl) dX4_passHour_19 rfl ?_ rfl
  refine (show kV Z 2 22 [(1, .int q1.1), (0, kr Z c)] [] s9 from ?_)
  refine k_aload_n C 1 dX4_passHour_22 rfl rfl rfl ?_
  refine k_iload_n C 0 dX4_passHour_23 rfl rfl rfl ?_
  obtain ⟨s11, e12, hf⟩ := kf_b hf
  refine k_callV C [.int q1.1] (mX4_settleKnots hc e12) (yd_4 hc) (by decide) rfl kw_2_151 kw_2_153 kw_0_9 kw_1_2 kw_2_154 qX4_settleKnots rfl ⟨by decide, by decide⟩ ⟨rfl, rfl⟩ (Nat.le_of_ble_eq_true rfl) dX4_passHour_24 rfl ?_ rfl
  refine (show kV Z 2 27 [(1, .int q1.1), (0, kr Z c)] [] s11 from ?_)
  refine k_aload_n C 1 dX4_passHour_27 rfl rfl rfl ?_
  refine k_dup C rfl dX4_passHour_28 rfl ?_
  refine g_X4_hour C (yd_4 hc) kw_1_64 dX4_passHour_29 rfl ?_
  refine k_iconst C (1 : Int32) dX4_passHour_32 (by decide) rfl ?_
  refine k_iadd C dX4_passHour_33 rfl ?_
  refine p_X4_hour C (yd_4 hc) kw_1_64 dX4_passHour_34 rfl ?_
  obtain ⟨s13, e14, hf⟩ := kf_b hf
  refine k_st e14 ?_
  exact k_vret C K hf dX4_passHour_37
theorem mX4_passHour {G : kG} {c : Nat} (hc : yd c) {st : kM} {res : kM} (hf : fX4_passHour c st = some res) : kCt G yX4_passHour cX4_passHour 2 none rmX4_passHour [.ref (G.2.1 c)] st none res := kMet (by decide) (Nat.le_of_ble_eq_true rfl) ⟨rfl, rfl⟩ (fun X A Q C K => tX4_passHour C hc hf K)
theorem qX4_passHour : yX4_passHour.cls = RX4 ∧ yX4_passHour.cls ≠ "java/lang/invoke/MethodHandle" ∧ yX4_passHour.cls ≠ "java/lang/invoke/VarHandle" ∧ (parseMethodDescriptor yX4_passHour.desc).map (fun d => d.parameters.length) = some 0 := ⟨rfl, by decide, by decide, by decide +kernel⟩
-- TalkKnots$Yard.passHours(I)V
def rmX4_passHours : Room := { frames := 5, cells := 0, slots := 0, locals := 109 }
def fX4_passHours_2 (c : Nat) : Nat → Int32 → Int32 → kM → Option (kM)
  | 0, _, _, _ => none
  | n + 1, x1, x2, st =>
    if x1 ≤ x2 then (some st) else ((fX4_passHour c st).bind fun s2 => (fX4_passHours_2 c n x1 (x2 + (1 : Int32)) s2))
def fX4_passHours (c : Nat) (v1 : Int32) (st : kM) : Option (kM) :=
  fX4_passHours_2 c kfu v1 (0 : Int32) st
set_option maxRecDepth 100000 in
theorem tX4_passHours_2 {Z : kZ} (C : kC Z cX4_passHours RX4 3 rmX4_passHours) {c : Nat} (hc : yd c) {res : kM} (K : kEnd Z none none res) : ∀ (n : Nat) (x1 : Int32) (x2 : Int32) (st : kM), fX4_passHours_2 c n x1 x2 st = some res → kV Z 3 2 [(0, kr Z c), (1, .int x1), (2, .int x2)] [] st := by
  intro n
  induction n with
  | zero => intro x1 x2 st hf; cases hf
  | succ n ih =>
    intro x1 x2 st hf
    unfold fX4_passHours_2 at hf
    refine k_iload_n C 2 dX4_passHours_2 rfl rfl rfl ?_
    refine k_iload_n C 1 dX4_passHours_3 rfl rfl rfl ?_
    refine k_icmp_ge C 17 dX4_passHours_4 rfl rfl (fun b1 => ?_) (fun b1 => ?_)
    · replace hf := kf_t hf b1
      exact k_vret C K hf dX4_passHours_17
    · replace hf := kf_f hf b1
      refine k_aload_n C 0 dX4_passHours_7 rfl rfl rfl ?_
      obtain ⟨s2, e3, hf⟩ := kf_b hf
      refine k_callV C [] (mX4_passHour hc e3) (yd_4 hc) (by decide) rfl kw_2_137 kw_2_138 kw_2_139 kw_1_2 kw_2_140 qX4_passHour rfl ⟨by decide, by decide⟩ ⟨rfl, rfl⟩ (Nat.le_of_ble_eq_true rfl) dX4_passHours_8 rfl ?_ rfl
      refine (show kV Z 3 11 [(0, kr Z c), (1, .int x1), (2, .int x2)] [] s2 from ?_)
      refine k_iinc (lv' := [(2, .int (x2 + (1 : Int32))), (0, kr Z c), (1, .int x1)]) C (x2 + (1 : Int32)) 2 dX4_passHours_11 rfl rfl (by decide) rfl rfl ?_
      refine k_goto C 2 dX4_passHours_14 rfl ?_
      refine k_lv (lv' := [(0, kr Z c), (1, .int x1), (2, .int (x2 + (1 : Int32)))]) [1, 2, 0] rfl ?_
      exact ih x1 (x2 + (1 : Int32)) s2  hf
set_option maxRecDepth 100000 in
theorem tX4_passHours {Z : kZ} (C : kC Z cX4_passHours RX4 3 rmX4_passHours) {c : Nat} {v1 : Int32} (hc : yd c) {st : kM} {res : kM} (hf : fX4_passHours c v1 st = some res) (K : kEnd Z none none res) : kV Z 3 0 [(0, kr Z c), (1, .int v1)] [] st := by
  unfold fX4_passHours at hf
  refine k_iconst C (0 : Int32) dX4_passHours_0 (by decide) rfl ?_
  refine k_istore_n (lv' := [(2, .int (0 : Int32)), (0, kr Z c), (1, .int v1)]) C dX4_passHours_1 rfl (by decide) rfl rfl ?_
  refine k_lv (lv' := [(0, kr Z c), (1, .int v1), (2, .int (0 : Int32))]) [1, 2, 0] rfl ?_
  exact tX4_passHours_2 C hc K _ v1 (0 : Int32) st hf
theorem mX4_passHours {G : kG} {c : Nat} {v1 : Int32} (hc : yd c) {st : kM} {res : kM} (hf : fX4_passHours c v1 st = some res) : kCt G yX4_passHours cX4_passHours 3 none rmX4_passHours [.ref (G.2.1 c), .int v1] st none res := kMet (by decide) (Nat.le_of_ble_eq_true rfl) ⟨rfl, rfl⟩ (fun X A Q C K => tX4_passHours C hc hf K)
theorem qX4_passHours : yX4_passHours.cls = RX4 ∧ yX4_passHours.cls ≠ "java/lang/invoke/MethodHandle" ∧ yX4_passHours.cls ≠ "java/lang/invoke/VarHandle" ∧ (parseMethodDescriptor yX4_passHours.desc).map (fun d => d.parameters.length) = some 1 := ⟨rfl, by decide, by decide, by decide +kernel⟩
