-- TalkKnots$Knot.begin(II)V
def rmX0_begin : Room := { frames := 0, cells := 0, slots := 0, locals := 0 }
def fX0_begin (c : Nat) (v1 : Int32) (v2 : Int32) (st : kM) : Option (kM) :=
  (some (kwr st c 0 v1)).bind fun s1 => ((some (kwr s1 c 1 v2)).bind fun s3 => ((some (kwr s3 c 2 (50 : Int32))).bind fun s5 => ((some (kwr s5 c 3 (0 : Int32))).bind fun s7 => ((some (kwr s7 c 4 (1 : Int32))).bind fun s9 => (some s9)))))
set_option maxRecDepth 100000 in
theorem tX0_begin {Z : kZ} (C : kC Z cX0_begin RX0 3 rmX0_begin) {c : Nat} {v1 : Int32} {v2 : Int32} (hc : kd c = 0) {st : kM} {res : kM} (hf : fX0_begin c v1 v2 st = some res) (K : kEnd Z none none res) : kV Z 3 0 [(0, kr Z c), (1, .int v1), (2, .int v2)] [] st := by
  unfold fX0_begin at hf
  refine k_aload_n C 0 dX0_begin_0 rfl rfl rfl ?_
  refine k_iload_n C 1 dX0_begin_1 rfl rfl rfl ?_
  refine p_X0_kind C hc kw_1_36 dX0_begin_2 rfl ?_
  obtain ⟨s1, e2, hf⟩ := kf_b hf
  refine k_st e2 ?_
  refine k_aload_n C 0 dX0_begin_5 rfl rfl rfl ?_
  refine k_iload_n C 2 dX0_begin_6 rfl rfl rfl ?_
  refine p_X0_mast C hc kw_1_38 dX0_begin_7 rfl ?_
  obtain ⟨s3, e4, hf⟩ := kf_b hf
  refine k_st e4 ?_
  refine k_aload_n C 0 dX0_begin_10 rfl rfl rfl ?_
  refine k_bipush C (50 : Int32) dX0_begin_11 (by decide) rfl ?_
  refine p_X0_open C hc kw_1_41 dX0_begin_13 rfl ?_
  obtain ⟨s5, e6, hf⟩ := kf_b hf
  refine k_st e6 ?_
  refine k_aload_n C 0 dX0_begin_16 rfl rfl rfl ?_
  refine k_iconst C (0 : Int32) dX0_begin_17 (by decide) rfl ?_
  refine p_X0_age C hc kw_1_45 dX0_begin_18 rfl ?_
  obtain ⟨s7, e8, hf⟩ := kf_b hf
  refine k_st e8 ?_
  refine k_aload_n C 0 dX0_begin_21 rfl rfl rfl ?_
  refine k_iconst C (1 : Int32) dX0_begin_22 (by decide) rfl ?_
  refine p_X0_fast C (by decide) hc kw_1_48 dX0_begin_23 rfl ?_
  obtain ⟨s9, e10, hf⟩ := kf_b hf
  refine k_st e10 ?_
  exact k_vret C K hf dX0_begin_26
theorem mX0_begin {G : kG} {c : Nat} {v1 : Int32} {v2 : Int32} (hc : kd c = 0) {st : kM} {res : kM} (hf : fX0_begin c v1 v2 st = some res) : kCt G yX0_begin cX0_begin 3 none rmX0_begin [.ref (G.2.1 c), .int v1, .int v2] st none res := kMet (by decide) (Nat.le_of_ble_eq_true rfl) ⟨rfl, rfl⟩ (fun X A Q C K => tX0_begin C hc hf K)
theorem qX0_begin : yX0_begin.cls = RX0 ∧ yX0_begin.cls ≠ "java/lang/invoke/MethodHandle" ∧ yX0_begin.cls ≠ "java/lang/invoke/VarHandle" ∧ (parseMethodDescriptor yX0_begin.desc).map (fun d => d.parameters.length) = some 2 := ⟨rfl, by decide, by decide, by decide +kernel⟩
-- TalkKnots$Knot.beLike(LTalkKnots$Knot;)V
def rmX0_beLike : Room := { frames := 0, cells := 0, slots := 0, locals := 0 }
def fX0_beLike (c : Nat) (c1 : Nat) (st : kM) : Option (kM) :=
  (some (kwr st c 0 (st.1 c1 0))).bind fun s1 => ((some (kwr s1 c 1 (s1.1 c1 1))).bind fun s3 => ((some (kwr s3 c 2 (s3.1 c1 2))).bind fun s5 => ((some (kwr s5 c 3 (s5.1 c1 3))).bind fun s7 => (if (s7.1 c1 4) = 0 ∨ (s7.1 c1 4) = 1 then ((some (kwr s7 c 4 (s7.1 c1 4))).bind fun s10 => (some s10)) else none))))
set_option maxRecDepth 100000 in
theorem tX0_beLike {Z : kZ} (C : kC Z cX0_beLike RX0 2 rmX0_beLike) {c : Nat} {c1 : Nat} (hc : kd c = 0) (hc1 : kd c1 = 0) {st : kM} {res : kM} (hf : fX0_beLike c c1 st = some res) (K : kEnd Z none none res) : kV Z 2 0 [(0, kr Z c), (1, kr Z c1)] [] st := by
  unfold fX0_beLike at hf
  refine k_aload_n C 0 dX0_beLike_0 rfl rfl rfl ?_
  refine k_aload_n C 1 dX0_beLike_1 rfl rfl rfl ?_
  refine g_X0_kind C hc1 kw_1_36 dX0_beLike_2 rfl ?_
  refine p_X0_kind C hc kw_1_36 dX0_beLike_5 rfl ?_
  obtain ⟨s1, e2, hf⟩ := kf_b hf
  refine k_st e2 ?_
  refine k_aload_n C 0 dX0_beLike_8 rfl rfl rfl ?_
  refine k_aload_n C 1 dX0_beLike_9 rfl rfl rfl ?_
  refine g_X0_mast C hc1 kw_1_38 dX0_beLike_10 rfl ?_
  refine p_X0_mast C hc kw_1_38 dX0_beLike_13 rfl ?_
  obtain ⟨s3, e4, hf⟩ := kf_b hf
  refine k_st e4 ?_
  refine k_aload_n C 0 dX0_beLike_16 rfl rfl rfl ?_
  refine k_aload_n C 1 dX0_beLike_17 rfl rfl rfl ?_
  refine g_X0_open C hc1 kw_1_41 dX0_beLike_18 rfl ?_
  refine p_X0_open C hc kw_1_41 dX0_beLike_21 rfl ?_
  obtain ⟨s5, e6, hf⟩ := kf_b hf
  refine k_st e6 ?_
  refine k_aload_n C 0 dX0_beLike_24 rfl rfl rfl ?_
  refine k_aload_n C 1 dX0_beLike_25 rfl rfl rfl ?_
  refine g_X0_age C hc1 kw_1_45 dX0_beLike_26 rfl ?_
  refine p_X0_age C hc kw_1_45 dX0_beLike_29 rfl ?_
  obtain ⟨s7, e8, hf⟩ := kf_b hf
  refine k_st e8 ?_
  refine k_aload_n C 0 dX0_beLike_32 rfl rfl rfl ?_
  refine k_aload_n C 1 dX0_beLike_33 rfl rfl rfl ?_
  refine g_X0_fast C hc1 kw_1_48 dX0_beLike_34 rfl ?_
  obtain ⟨g9, hf⟩ := kf_y hf
  refine p_X0_fast C g9 hc kw_1_48 dX0_beLike_37 rfl ?_
  obtain ⟨s10, e11, hf⟩ := kf_b hf
  refine k_st e11 ?_
  exact k_vret C K hf dX0_beLike_40
theorem mX0_beLike {G : kG} {c : Nat} {c1 : Nat} (hc : kd c = 0) (hc1 : kd c1 = 0) {st : kM} {res : kM} (hf : fX0_beLike c c1 st = some res) : kCt G yX0_beLike cX0_beLike 2 none rmX0_beLike [.ref (G.2.1 c), .ref (G.2.1 c1)] st none res := kMet (by decide) (Nat.le_of_ble_eq_true rfl) ⟨rfl, rfl⟩ (fun X A Q C K => tX0_beLike C hc hc1 hf K)
theorem qX0_beLike : yX0_beLike.cls = RX0 ∧ yX0_beLike.cls ≠ "java/lang/invoke/MethodHandle" ∧ yX0_beLike.cls ≠ "java/lang/invoke/VarHandle" ∧ (parseMethodDescriptor yX0_beLike.desc).map (fun d => d.parameters.length) = some 1 := ⟨rfl, by decide, by decide, by decide +kernel⟩
-- TalkKnots$Knot.isOf(I)Z
def rmX0_isOf : Room := { frames := 0, cells := 0, slots := 0, locals := 0 }
def fX0_isOf_25 (c : Nat) (x1 : Int32) (st : kM) : Option (Int32 × kM) :=
  if x1 = (2 : Int32) then (if (st.1 c 0) = (5 : Int32) then (some ((1 : Int32), st)) else (some ((0 : Int32), st))) else (some ((0 : Int32), st))
def fX0_isOf (c : Nat) (v1 : Int32) (st : kM) : Option (Int32 × kM) :=
  if v1 = (st.1 c 0) then (some ((1 : Int32), st)) else (if v1 = 0 then (some ((1 : Int32), st)) else (if v1 = (1 : Int32) then (if (st.1 c 0) = (4 : Int32) then (some ((1 : Int32), st)) else (fX0_isOf_25 c v1 st)) else (fX0_isOf_25 c v1 st)))
set_option maxRecDepth 100000 in
theorem tX0_isOf_25 {Z : kZ} (C : kC Z cX0_isOf RX0 2 rmX0_isOf) {c : Nat} (hc : kd c = 0) {res : Int32 × kM} (K : kEnd Z (some .boolean) (some (.int res.1)) res.2) : ∀ (x1 : Int32) (st : kM), fX0_isOf_25 c x1 st = some res → kV Z 2 25 [(0, kr Z c), (1, .int x1)] [] st := by
  intro x1 st hf
  unfold fX0_isOf_25 at hf
  refine k_iload_n C 1 dX0_isOf_25 rfl rfl rfl ?_
  refine k_iconst C (2 : Int32) dX0_isOf_26 (by decide) rfl ?_
  refine k_icmp_ne C 42 dX0_isOf_27 rfl rfl (fun b1 => ?_) (fun b1 => ?_)
  · replace hf := kf_f hf b1
    refine k_iconst C (0 : Int32) dX0_isOf_42 (by decide) rfl ?_
    exact k_zret C K hf rfl dX0_isOf_43
  · replace hf := kf_t hf b1
    refine k_aload_n C 0 dX0_isOf_30 rfl rfl rfl ?_
    refine g_X0_kind C hc kw_1_36 dX0_isOf_31 rfl ?_
    refine k_iconst C (5 : Int32) dX0_isOf_34 (by decide) rfl ?_
    refine k_icmp_ne C 42 dX0_isOf_35 rfl rfl (fun b2 => ?_) (fun b2 => ?_)
    · replace hf := kf_f hf b2
      refine k_iconst C (0 : Int32) dX0_isOf_42 (by decide) rfl ?_
      exact k_zret C K hf rfl dX0_isOf_43
    · replace hf := kf_t hf b2
      refine k_iconst C (1 : Int32) dX0_isOf_38 (by decide) rfl ?_
      refine k_goto C 43 dX0_isOf_39 rfl ?_
      exact k_zret C K hf rfl dX0_isOf_43
set_option maxRecDepth 100000 in
theorem tX0_isOf {Z : kZ} (C : kC Z cX0_isOf RX0 2 rmX0_isOf) {c : Nat} {v1 : Int32} (hc : kd c = 0) {st : kM} {res : Int32 × kM} (hf : fX0_isOf c v1 st = some res) (K : kEnd Z (some .boolean) (some (.int res.1)) res.2) : kV Z 2 0 [(0, kr Z c), (1, .int v1)] [] st := by
  unfold fX0_isOf at hf
  refine k_iload_n C 1 dX0_isOf_0 rfl rfl rfl ?_
  refine k_aload_n C 0 dX0_isOf_1 rfl rfl rfl ?_
  refine g_X0_kind C hc kw_1_36 dX0_isOf_2 rfl ?_
  refine k_icmp_eq C 38 dX0_isOf_5 rfl rfl (fun b1 => ?_) (fun b1 => ?_)
  · replace hf := kf_t hf b1
    refine k_iconst C (1 : Int32) dX0_isOf_38 (by decide) rfl ?_
    refine k_goto C 43 dX0_isOf_39 rfl ?_
    exact k_zret C K hf rfl dX0_isOf_43
  · replace hf := kf_f hf b1
    refine k_iload_n C 1 dX0_isOf_8 rfl rfl rfl ?_
    refine k_if_eq C 38 dX0_isOf_9 rfl rfl (fun b2 => ?_) (fun b2 => ?_)
    · replace hf := kf_t hf b2
      refine k_iconst C (1 : Int32) dX0_isOf_38 (by decide) rfl ?_
      refine k_goto C 43 dX0_isOf_39 rfl ?_
      exact k_zret C K hf rfl dX0_isOf_43
    · replace hf := kf_f hf b2
      refine k_iload_n C 1 dX0_isOf_12 rfl rfl rfl ?_
      refine k_iconst C (1 : Int32) dX0_isOf_13 (by decide) rfl ?_
      refine k_icmp_ne C 25 dX0_isOf_14 rfl rfl (fun b3 => ?_) (fun b3 => ?_)
      · replace hf := kf_f hf b3
        exact tX0_isOf_25 C hc K v1 st hf
      · replace hf := kf_t hf b3
        refine k_aload_n C 0 dX0_isOf_17 rfl rfl rfl ?_
        refine g_X0_kind C hc kw_1_36 dX0_isOf_18 rfl ?_
        refine k_iconst C (4 : Int32) dX0_isOf_21 (by decide) rfl ?_
        refine k_icmp_eq C 38 dX0_isOf_22 rfl rfl (fun b4 => ?_) (fun b4 => ?_)
        · replace hf := kf_t hf b4
          refine k_iconst C (1 : Int32) dX0_isOf_38 (by decide) rfl ?_
          refine k_goto C 43 dX0_isOf_39 rfl ?_
          exact k_zret C K hf rfl dX0_isOf_43
        · replace hf := kf_f hf b4
          exact tX0_isOf_25 C hc K v1 st hf
theorem mX0_isOf {G : kG} {c : Nat} {v1 : Int32} (hc : kd c = 0) {st : kM} {res : Int32 × kM} (hf : fX0_isOf c v1 st = some res) : kCt G yX0_isOf cX0_isOf 2 (some .boolean) rmX0_isOf [.ref (G.2.1 c), .int v1] st (some (.int res.1)) res.2 := kMet (by decide) (Nat.le_of_ble_eq_true rfl) ⟨rfl, rfl⟩ (fun X A Q C K => tX0_isOf C hc hf K)
theorem qX0_isOf : yX0_isOf.cls = RX0 ∧ yX0_isOf.cls ≠ "java/lang/invoke/MethodHandle" ∧ yX0_isOf.cls ≠ "java/lang/invoke/VarHandle" ∧ (parseMethodDescriptor yX0_isOf.desc).map (fun d => d.parameters.length) = some 1 := ⟨rfl, by decide, by decide, by decide +kernel⟩
-- TalkKnots$Knot.spliceHolding()I
def rmX0_spliceHolding : Room := { frames := 0, cells := 0, slots := 0, locals := 0 }
def fX0_spliceHolding (c : Nat) (st : kM) : Option (Int32 × kM) :=
  if (st.1 c 2) < (60 : Int32) then (some (((2 : Int32) * (st.1 c 2)), st)) else (some (((3 : Int32) * (st.1 c 2)), st))
set_option maxRecDepth 100000 in
theorem tX0_spliceHolding {Z : kZ} (C : kC Z cX0_spliceHolding RX0 1 rmX0_spliceHolding) {c : Nat} (hc : kd c = 0) {st : kM} {res : Int32 × kM} (hf : fX0_spliceHolding c st = some res) (K : kEnd Z (some .int) (some (.int res.1)) res.2) : kV Z 1 0 [(0, kr Z c)] [] st := by
  unfold fX0_spliceHolding at hf
  refine k_aload_n C 0 dX0_spliceHolding_0 rfl rfl rfl ?_
  refine g_X0_open C hc kw_1_41 dX0_spliceHolding_1 rfl ?_
  refine k_bipush C (60 : Int32) dX0_spliceHolding_4 (by decide) rfl ?_
  refine k_icmp_lt C 18 dX0_spliceHolding_6 rfl rfl (fun b1 => ?_) (fun b1 => ?_)
  · replace hf := kf_t hf b1
    refine k_iconst C (2 : Int32) dX0_spliceHolding_18 (by decide) rfl ?_
    refine k_aload_n C 0 dX0_spliceHolding_19 rfl rfl rfl ?_
    refine g_X0_open C hc kw_1_41 dX0_spliceHolding_20 rfl ?_
    refine k_imul C dX0_spliceHolding_23 rfl ?_
    exact k_iret C K hf dX0_spliceHolding_24
  · replace hf := kf_f hf b1
    refine k_iconst C (3 : Int32) dX0_spliceHolding_9 (by decide) rfl ?_
    refine k_aload_n C 0 dX0_spliceHolding_10 rfl rfl rfl ?_
    refine g_X0_open C hc kw_1_41 dX0_spliceHolding_11 rfl ?_
    refine k_imul C dX0_spliceHolding_14 rfl ?_
    refine k_goto C 24 dX0_spliceHolding_15 rfl ?_
    exact k_iret C K hf dX0_spliceHolding_24
theorem mX0_spliceHolding {G : kG} {c : Nat} (hc : kd c = 0) {st : kM} {res : Int32 × kM} (hf : fX0_spliceHolding c st = some res) : kCt G yX0_spliceHolding cX0_spliceHolding 1 (some .int) rmX0_spliceHolding [.ref (G.2.1 c)] st (some (.int res.1)) res.2 := kMet (by decide) (Nat.le_of_ble_eq_true rfl) ⟨rfl, rfl⟩ (fun X A Q C K => tX0_spliceHolding C hc hf K)
theorem qX0_spliceHolding : yX0_spliceHolding.cls = RX0 ∧ yX0_spliceHolding.cls ≠ "java/lang/invoke/MethodHandle" ∧ yX0_spliceHolding.cls ≠ "java/lang/invoke/VarHandle" ∧ (parseMethodDescriptor yX0_spliceHolding.desc).map (fun d => d.parameters.length) = some 0 := ⟨rfl, by decide, by decide, by decide +kernel⟩
-- TalkKnots$Knot.holding(II)I
def rmX0_holding : Room := { frames := 1, cells := 0, slots := 0, locals := 21 }
def fX0_holding (c : Nat) (v1 : Int32) (v2 : Int32) (st : kM) : Option (Int32 × kM) :=
  if (st.1 c 4) = 0 then (some ((0 : Int32), st)) else (if (st.1 c 0) = (1 : Int32) then ((fX0_spliceHolding c st).bind fun q3 => (some (q3.1, q3.2))) else (if (st.1 c 0) = (2 : Int32) then (some ((if (0 : Int32) < (((2 : Int32) * (st.1 c 2)) - v1) then (((2 : Int32) * (st.1 c 2)) - v1) else (0 : Int32)), st)) else (if (st.1 c 0) = (3 : Int32) then (some (((99 : Int32) - (st.1 c 2)), st)) else (if (st.1 c 0) = (4 : Int32) then ((fX0_spliceHolding c st).bind fun q8 => (some ((q8.1 + ((10 : Int32) * v2)), q8.2))) else (if (st.1 c 0) = (5 : Int32) then (some ((if (60 : Int32) < (((2 : Int32) * (st.1 c 2)) - v1) then (((2 : Int32) * (st.1 c 2)) - v1) else (60 : Int32)), st)) else (some (((2 : Int32) * (st.1 c 2)), st)))))))
set_option maxRecDepth 100000 in
theorem tX0_holding {Z : kZ} (C : kC Z cX0_holding RX0 3 rmX0_holding) {c : Nat} {v1 : Int32} {v2 : Int32} (hc : kd c = 0) {st : kM} {res : Int32 × kM} (hf : fX0_holding c v1 v2 st = some res) (K : kEnd Z (some .int) (some (.int res.1)) res.2) : kV Z 3 0 [(0, kr Z c), (1, .int v1), (2, .int v2)] [] st := by
  unfold fX0_holding at hf
  refine k_aload_n C 0 dX0_holding_0 rfl rfl rfl ?_
  refine g_X0_fast C hc kw_1_48 dX0_holding_1 rfl ?_
  refine k_if_ne C 9 dX0_holding_4 rfl rfl (fun b1 => ?_) (fun b1 => ?_)
  · replace hf := kf_f hf b1
    refine k_aload_n C 0 dX0_holding_9 rfl rfl rfl ?_
    refine g_X0_kind C hc kw_1_36 dX0_holding_10 rfl ?_
    by_cases b2 : (st.1 c 0) = (1 : Int32)
    · replace hf := kf_t hf b2
      refine k_tabIn C 48 dX0_holding_13 (by rw [b2]; decide) (by rw [b2]; decide) (by rw [b2]; rfl) rfl ?_
      refine k_aload_n C 0 dX0_holding_48 rfl rfl rfl ?_
      obtain ⟨q3, e4, hf⟩ := kf_b hf
      refine k_callV C [] (mX0_spliceHolding hc e4) hc (by decide) rfl kw_2_24 kw_2_26 kw_0_4 kw_1_3 kw_2_27 qX0_spliceHolding rfl ⟨by decide, by decide⟩ ⟨rfl, rfl⟩ (Nat.le_of_ble_eq_true rfl) dX0_holding_49 rfl ?_ rfl
      refine (show kV Z 3 52 [(0, kr Z c), (1, .int v1), (2, .int v2)] [.int q3.1] q3.2 from ?_)
      exact k_iret C K hf dX0_holding_52
    · replace hf := kf_f hf b2
      by_cases b5 : (st.1 c 0) = (2 : Int32)
      · replace hf := kf_t hf b5
        refine k_tabIn C 53 dX0_holding_13 (by rw [b5]; decide) (by rw [b5]; decide) (by rw [b5]; rfl) rfl ?_
        refine k_iconst C (0 : Int32) dX0_holding_53 (by decide) rfl ?_
        refine k_iconst C (2 : Int32) dX0_holding_54 (by decide) rfl ?_
        refine k_aload_n C 0 dX0_holding_55 rfl rfl rfl ?_
        refine g_X0_open C hc kw_1_41 dX0_holding_56 rfl ?_
        refine k_imul C dX0_holding_59 rfl ?_
        refine k_iload_n C 1 dX0_holding_60 rfl rfl rfl ?_
        refine k_isub C dX0_holding_61 rfl ?_
        refine k_mmax C kw_2_28 kw_2_29 kw_1_8 kw_2_30 ⟨by decide, by decide⟩ (Nat.le_of_ble_eq_true rfl) dX0_holding_62 rfl ?_
        exact k_iret C K hf dX0_holding_65
      · replace hf := kf_f hf b5
        by_cases b6 : (st.1 c 0) = (3 : Int32)
        · replace hf := kf_t hf b6
          refine k_tabIn C 66 dX0_holding_13 (by rw [b6]; decide) (by rw [b6]; decide) (by rw [b6]; rfl) rfl ?_
          refine k_bipush C (99 : Int32) dX0_holding_66 (by decide) rfl ?_
          refine k_aload_n C 0 dX0_holding_68 rfl rfl rfl ?_
          refine g_X0_open C hc kw_1_41 dX0_holding_69 rfl ?_
          refine k_isub C dX0_holding_72 rfl ?_
          exact k_iret C K hf dX0_holding_73
        · replace hf := kf_f hf b6
          by_cases b7 : (st.1 c 0) = (4 : Int32)
          · replace hf := kf_t hf b7
            refine k_tabIn C 74 dX0_holding_13 (by rw [b7]; decide) (by rw [b7]; decide) (by rw [b7]; rfl) rfl ?_
            refine k_aload_n C 0 dX0_holding_74 rfl rfl rfl ?_
            obtain ⟨q8, e9, hf⟩ := kf_b hf
            refine k_callV C [] (mX0_spliceHolding hc e9) hc (by decide) rfl kw_2_24 kw_2_26 kw_0_4 kw_1_3 kw_2_27 qX0_spliceHolding rfl ⟨by decide, by decide⟩ ⟨rfl, rfl⟩ (Nat.le_of_ble_eq_true rfl) dX0_holding_75 rfl ?_ rfl
            refine (show kV Z 3 78 [(0, kr Z c), (1, .int v1), (2, .int v2)] [.int q8.1] q8.2 from ?_)
            refine k_bipush C (10 : Int32) dX0_holding_78 (by decide) rfl ?_
            refine k_iload_n C 2 dX0_holding_80 rfl rfl rfl ?_
            refine k_imul C dX0_holding_81 rfl ?_
            refine k_iadd C dX0_holding_82 rfl ?_
            exact k_iret C K hf dX0_holding_83
          · replace hf := kf_f hf b7
            by_cases b10 : (st.1 c 0) = (5 : Int32)
            · replace hf := kf_t hf b10
              refine k_tabIn C 84 dX0_holding_13 (by rw [b10]; decide) (by rw [b10]; decide) (by rw [b10]; rfl) rfl ?_
              refine k_bipush C (60 : Int32) dX0_holding_84 (by decide) rfl ?_
              refine k_iconst C (2 : Int32) dX0_holding_86 (by decide) rfl ?_
              refine k_aload_n C 0 dX0_holding_87 rfl rfl rfl ?_
              refine g_X0_open C hc kw_1_41 dX0_holding_88 rfl ?_
              refine k_imul C dX0_holding_91 rfl ?_
              refine k_iload_n C 1 dX0_holding_92 rfl rfl rfl ?_
              refine k_isub C dX0_holding_93 rfl ?_
              refine k_mmax C kw_2_28 kw_2_29 kw_1_8 kw_2_30 ⟨by decide, by decide⟩ (Nat.le_of_ble_eq_true rfl) dX0_holding_94 rfl ?_
              exact k_iret C K hf dX0_holding_97
            · replace hf := kf_f hf b10
              have zb2 := ti_ne (1 : Int32) b2 (z := 1) rfl
              have zb5 := ti_ne (2 : Int32) b5 (z := 2) rfl
              have zb6 := ti_ne (3 : Int32) b6 (z := 3) rfl
              have zb7 := ti_ne (4 : Int32) b7 (z := 4) rfl
              have zb10 := ti_ne (5 : Int32) b10 (z := 5) rfl
              refine k_tabOut C 98 dX0_holding_13 (by omega) rfl ?_
              refine k_iconst C (2 : Int32) dX0_holding_98 (by decide) rfl ?_
              refine k_aload_n C 0 dX0_holding_99 rfl rfl rfl ?_
              refine g_X0_open C hc kw_1_41 dX0_holding_100 rfl ?_
              refine k_imul C dX0_holding_103 rfl ?_
              exact k_iret C K hf dX0_holding_104
  · replace hf := kf_t hf b1
    refine k_iconst C (0 : Int32) dX0_holding_7 (by decide) rfl ?_
    exact k_iret C K hf dX0_holding_8
theorem mX0_holding {G : kG} {c : Nat} {v1 : Int32} {v2 : Int32} (hc : kd c = 0) {st : kM} {res : Int32 × kM} (hf : fX0_holding c v1 v2 st = some res) : kCt G yX0_holding cX0_holding 3 (some .int) rmX0_holding [.ref (G.2.1 c), .int v1, .int v2] st (some (.int res.1)) res.2 := kMet (by decide) (Nat.le_of_ble_eq_true rfl) ⟨rfl, rfl⟩ (fun X A Q C K => tX0_holding C hc hf K)
theorem qX0_holding : yX0_holding.cls = RX0 ∧ yX0_holding.cls ≠ "java/lang/invoke/MethodHandle" ∧ yX0_holding.cls ≠ "java/lang/invoke/VarHandle" ∧ (parseMethodDescriptor yX0_holding.desc).map (fun d => d.parameters.length) = some 2 := ⟨rfl, by decide, by decide, by decide +kernel⟩
-- TalkKnots$Knot.settling(I)I
def rmX0_settling : Room := { frames := 0, cells := 0, slots := 0, locals := 0 }
def fX0_settling (c : Nat) (v1 : Int32) (st : kM) : Option (Int32 × kM) :=
  if (st.1 c 0) = (1 : Int32) then (if (st.1 c 2) < (60 : Int32) then (some ((2 : Int32), st)) else (some ((0 : Int32), st))) else (if (st.1 c 0) = (2 : Int32) then (some (((2 : Int32) + (v1 / (10 : Int32))), st)) else (if (st.1 c 0) = (3 : Int32) then (some ((-1 : Int32), st)) else (if (st.1 c 0) = (4 : Int32) then (if (st.1 c 2) < (60 : Int32) then (some ((1 : Int32), st)) else (some ((0 : Int32), st))) else (if (st.1 c 0) = (5 : Int32) then (if (6 : Int32) ≤ (st.1 c 3) then (some (((2 : Int32) + (v1 / (10 : Int32))), st)) else (some ((0 : Int32), st))) else (some ((2 : Int32), st))))))
set_option maxRecDepth 100000 in
theorem tX0_settling {Z : kZ} (C : kC Z cX0_settling RX0 2 rmX0_settling) {c : Nat} {v1 : Int32} (hc : kd c = 0) {st : kM} {res : Int32 × kM} (hf : fX0_settling c v1 st = some res) (K : kEnd Z (some .int) (some (.int res.1)) res.2) : kV Z 2 0 [(0, kr Z c), (1, .int v1)] [] st := by
  unfold fX0_settling at hf
  refine k_aload_n C 0 dX0_settling_0 rfl rfl rfl ?_
  refine g_X0_kind C hc kw_1_36 dX0_settling_1 rfl ?_
  by_cases b1 : (st.1 c 0) = (1 : Int32)
  · replace hf := kf_t hf b1
    refine k_tabIn C 40 dX0_settling_4 (by rw [b1]; decide) (by rw [b1]; decide) (by rw [b1]; rfl) rfl ?_
    refine k_aload_n C 0 dX0_settling_40 rfl rfl rfl ?_
    refine g_X0_open C hc kw_1_41 dX0_settling_41 rfl ?_
    refine k_bipush C (60 : Int32) dX0_settling_44 (by decide) rfl ?_
    refine k_icmp_lt C 53 dX0_settling_46 rfl rfl (fun b2 => ?_) (fun b2 => ?_)
    · replace hf := kf_t hf b2
      refine k_iconst C (2 : Int32) dX0_settling_53 (by decide) rfl ?_
      exact k_iret C K hf dX0_settling_54
    · replace hf := kf_f hf b2
      refine k_iconst C (0 : Int32) dX0_settling_49 (by decide) rfl ?_
      refine k_goto C 54 dX0_settling_50 rfl ?_
      exact k_iret C K hf dX0_settling_54
  · replace hf := kf_f hf b1
    by_cases b3 : (st.1 c 0) = (2 : Int32)
    · replace hf := kf_t hf b3
      refine k_tabIn C 55 dX0_settling_4 (by rw [b3]; decide) (by rw [b3]; decide) (by rw [b3]; rfl) rfl ?_
      refine k_iconst C (2 : Int32) dX0_settling_55 (by decide) rfl ?_
      refine k_iload_n C 1 dX0_settling_56 rfl rfl rfl ?_
      refine k_bipush C (10 : Int32) dX0_settling_57 (by decide) rfl ?_
      refine k_idiv C (by decide) dX0_settling_59 rfl ?_
      refine k_iadd C dX0_settling_60 rfl ?_
      exact k_iret C K hf dX0_settling_61
    · replace hf := kf_f hf b3
      by_cases b4 : (st.1 c 0) = (3 : Int32)
      · replace hf := kf_t hf b4
        refine k_tabIn C 62 dX0_settling_4 (by rw [b4]; decide) (by rw [b4]; decide) (by rw [b4]; rfl) rfl ?_
        refine k_iconst C (-1 : Int32) dX0_settling_62 (by decide) rfl ?_
        exact k_iret C K hf dX0_settling_63
      · replace hf := kf_f hf b4
        by_cases b5 : (st.1 c 0) = (4 : Int32)
        · replace hf := kf_t hf b5
          refine k_tabIn C 64 dX0_settling_4 (by rw [b5]; decide) (by rw [b5]; decide) (by rw [b5]; rfl) rfl ?_
          refine k_aload_n C 0 dX0_settling_64 rfl rfl rfl ?_
          refine g_X0_open C hc kw_1_41 dX0_settling_65 rfl ?_
          refine k_bipush C (60 : Int32) dX0_settling_68 (by decide) rfl ?_
          refine k_icmp_lt C 77 dX0_settling_70 rfl rfl (fun b6 => ?_) (fun b6 => ?_)
          · replace hf := kf_t hf b6
            refine k_iconst C (1 : Int32) dX0_settling_77 (by decide) rfl ?_
            exact k_iret C K hf dX0_settling_78
          · replace hf := kf_f hf b6
            refine k_iconst C (0 : Int32) dX0_settling_73 (by decide) rfl ?_
            refine k_goto C 78 dX0_settling_74 rfl ?_
            exact k_iret C K hf dX0_settling_78
        · replace hf := kf_f hf b5
          by_cases b7 : (st.1 c 0) = (5 : Int32)
          · replace hf := kf_t hf b7
            refine k_tabIn C 79 dX0_settling_4 (by rw [b7]; decide) (by rw [b7]; decide) (by rw [b7]; rfl) rfl ?_
            refine k_aload_n C 0 dX0_settling_79 rfl rfl rfl ?_
            refine g_X0_age C hc kw_1_45 dX0_settling_80 rfl ?_
            refine k_bipush C (6 : Int32) dX0_settling_83 (by decide) rfl ?_
            refine k_icmp_ge C 92 dX0_settling_85 rfl rfl (fun b8 => ?_) (fun b8 => ?_)
            · replace hf := kf_t hf b8
              refine k_iconst C (2 : Int32) dX0_settling_92 (by decide) rfl ?_
              refine k_iload_n C 1 dX0_settling_93 rfl rfl rfl ?_
              refine k_bipush C (10 : Int32) dX0_settling_94 (by decide) rfl ?_
              refine k_idiv C (by decide) dX0_settling_96 rfl ?_
              refine k_iadd C dX0_settling_97 rfl ?_
              exact k_iret C K hf dX0_settling_98
            · replace hf := kf_f hf b8
              refine k_iconst C (0 : Int32) dX0_settling_88 (by decide) rfl ?_
              refine k_goto C 98 dX0_settling_89 rfl ?_
              exact k_iret C K hf dX0_settling_98
          · replace hf := kf_f hf b7
            have zb1 := ti_ne (1 : Int32) b1 (z := 1) rfl
            have zb3 := ti_ne (2 : Int32) b3 (z := 2) rfl
            have zb4 := ti_ne (3 : Int32) b4 (z := 3) rfl
            have zb5 := ti_ne (4 : Int32) b5 (z := 4) rfl
            have zb7 := ti_ne (5 : Int32) b7 (z := 5) rfl
            refine k_tabOut C 99 dX0_settling_4 (by omega) rfl ?_
            refine k_iconst C (2 : Int32) dX0_settling_99 (by decide) rfl ?_
            exact k_iret C K hf dX0_settling_100
theorem mX0_settling {G : kG} {c : Nat} {v1 : Int32} (hc : kd c = 0) {st : kM} {res : Int32 × kM} (hf : fX0_settling c v1 st = some res) : kCt G yX0_settling cX0_settling 2 (some .int) rmX0_settling [.ref (G.2.1 c), .int v1] st (some (.int res.1)) res.2 := kMet (by decide) (Nat.le_of_ble_eq_true rfl) ⟨rfl, rfl⟩ (fun X A Q C K => tX0_settling C hc hf K)
theorem qX0_settling : yX0_settling.cls = RX0 ∧ yX0_settling.cls ≠ "java/lang/invoke/MethodHandle" ∧ yX0_settling.cls ≠ "java/lang/invoke/VarHandle" ∧ (parseMethodDescriptor yX0_settling.desc).map (fun d => d.parameters.length) = some 1 := ⟨rfl, by decide, by decide, by decide +kernel⟩
-- TalkKnots$Knot.teasing()I
def rmX0_teasing : Room := { frames := 0, cells := 0, slots := 0, locals := 0 }
def fX0_teasing (c : Nat) (st : kM) : Option (Int32 × kM) :=
  if (st.1 c 0) = (1 : Int32) then (some ((30 : Int32), st)) else (if (st.1 c 0) = (2 : Int32) then (some ((10 : Int32), st)) else (if (st.1 c 0) = (3 : Int32) then (some ((-20 : Int32), st)) else (if (st.1 c 0) = (4 : Int32) then (some ((30 : Int32), st)) else (if (st.1 c 0) = (5 : Int32) then (if (st.1 c 2) < (90 : Int32) then (some ((10 : Int32), st)) else (some ((0 : Int32), st))) else (some ((15 : Int32), st))))))
set_option maxRecDepth 100000 in
theorem tX0_teasing {Z : kZ} (C : kC Z cX0_teasing RX0 1 rmX0_teasing) {c : Nat} (hc : kd c = 0) {st : kM} {res : Int32 × kM} (hf : fX0_teasing c st = some res) (K : kEnd Z (some .int) (some (.int res.1)) res.2) : kV Z 1 0 [(0, kr Z c)] [] st := by
  unfold fX0_teasing at hf
  refine k_aload_n C 0 dX0_teasing_0 rfl rfl rfl ?_
  refine g_X0_kind C hc kw_1_36 dX0_teasing_1 rfl ?_
  by_cases b1 : (st.1 c 0) = (1 : Int32)
  · replace hf := kf_t hf b1
    refine k_tabIn C 40 dX0_teasing_4 (by rw [b1]; decide) (by rw [b1]; decide) (by rw [b1]; rfl) rfl ?_
    refine k_bipush C (30 : Int32) dX0_teasing_40 (by decide) rfl ?_
    exact k_iret C K hf dX0_teasing_42
  · replace hf := kf_f hf b1
    by_cases b2 : (st.1 c 0) = (2 : Int32)
    · replace hf := kf_t hf b2
      refine k_tabIn C 43 dX0_teasing_4 (by rw [b2]; decide) (by rw [b2]; decide) (by rw [b2]; rfl) rfl ?_
      refine k_bipush C (10 : Int32) dX0_teasing_43 (by decide) rfl ?_
      exact k_iret C K hf dX0_teasing_45
    · replace hf := kf_f hf b2
      by_cases b3 : (st.1 c 0) = (3 : Int32)
      · replace hf := kf_t hf b3
        refine k_tabIn C 46 dX0_teasing_4 (by rw [b3]; decide) (by rw [b3]; decide) (by rw [b3]; rfl) rfl ?_
        refine k_bipush C (-20 : Int32) dX0_teasing_46 (by decide) rfl ?_
        exact k_iret C K hf dX0_teasing_48
      · replace hf := kf_f hf b3
        by_cases b4 : (st.1 c 0) = (4 : Int32)
        · replace hf := kf_t hf b4
          refine k_tabIn C 40 dX0_teasing_4 (by rw [b4]; decide) (by rw [b4]; decide) (by rw [b4]; rfl) rfl ?_
          refine k_bipush C (30 : Int32) dX0_teasing_40 (by decide) rfl ?_
          exact k_iret C K hf dX0_teasing_42
        · replace hf := kf_f hf b4
          by_cases b5 : (st.1 c 0) = (5 : Int32)
          · replace hf := kf_t hf b5
            refine k_tabIn C 49 dX0_teasing_4 (by rw [b5]; decide) (by rw [b5]; decide) (by rw [b5]; rfl) rfl ?_
            refine k_aload_n C 0 dX0_teasing_49 rfl rfl rfl ?_
            refine g_X0_open C hc kw_1_41 dX0_teasing_50 rfl ?_
            refine k_bipush C (90 : Int32) dX0_teasing_53 (by decide) rfl ?_
            refine k_icmp_lt C 62 dX0_teasing_55 rfl rfl (fun b6 => ?_) (fun b6 => ?_)
            · replace hf := kf_t hf b6
              refine k_bipush C (10 : Int32) dX0_teasing_62 (by decide) rfl ?_
              exact k_iret C K hf dX0_teasing_64
            · replace hf := kf_f hf b6
              refine k_iconst C (0 : Int32) dX0_teasing_58 (by decide) rfl ?_
              refine k_goto C 64 dX0_teasing_59 rfl ?_
              exact k_iret C K hf dX0_teasing_64
          · replace hf := kf_f hf b5
            have zb1 := ti_ne (1 : Int32) b1 (z := 1) rfl
            have zb2 := ti_ne (2 : Int32) b2 (z := 2) rfl
            have zb3 := ti_ne (3 : Int32) b3 (z := 3) rfl
            have zb4 := ti_ne (4 : Int32) b4 (z := 4) rfl
            have zb5 := ti_ne (5 : Int32) b5 (z := 5) rfl
            refine k_tabOut C 65 dX0_teasing_4 (by omega) rfl ?_
            refine k_bipush C (15 : Int32) dX0_teasing_65 (by decide) rfl ?_
            exact k_iret C K hf dX0_teasing_67
theorem mX0_teasing {G : kG} {c : Nat} (hc : kd c = 0) {st : kM} {res : Int32 × kM} (hf : fX0_teasing c st = some res) : kCt G yX0_teasing cX0_teasing 1 (some .int) rmX0_teasing [.ref (G.2.1 c)] st (some (.int res.1)) res.2 := kMet (by decide) (Nat.le_of_ble_eq_true rfl) ⟨rfl, rfl⟩ (fun X A Q C K => tX0_teasing C hc hf K)
theorem qX0_teasing : yX0_teasing.cls = RX0 ∧ yX0_teasing.cls ≠ "java/lang/invoke/MethodHandle" ∧ yX0_teasing.cls ≠ "java/lang/invoke/VarHandle" ∧ (parseMethodDescriptor yX0_teasing.desc).map (fun d => d.parameters.length) = some 0 := ⟨rfl, by decide, by decide, by decide +kernel⟩
-- TalkKnots$Knot.givesWay(II)Z
def rmX0_givesWay : Room := { frames := 0, cells := 0, slots := 0, locals := 0 }
def fX0_givesWay_10 (c : Nat) (y0 : Int32) (st : kM) : Option (Int32 × kM) :=
  if (st.1 c 0) = (1 : Int32) then (if y0 = 0 then (some ((0 : Int32), st)) else (if (90 : Int32) ≤ (st.1 c 2) then (some ((0 : Int32), st)) else (some ((1 : Int32), st)))) else (if (st.1 c 0) = (2 : Int32) then (if y0 = 0 ∨ y0 = 1 then some (y0, st) else none) else (if (st.1 c 0) = (3 : Int32) then (if y0 = 0 then (if (st.1 c 2) = (99 : Int32) then (some ((1 : Int32), st)) else (some ((0 : Int32), st))) else (some ((1 : Int32), st))) else (if (st.1 c 0) = (4 : Int32) then (if y0 = 0 then (some ((0 : Int32), st)) else (if (90 : Int32) ≤ (st.1 c 2) then (some ((0 : Int32), st)) else (some ((1 : Int32), st)))) else (if (st.1 c 0) = (5 : Int32) then (if y0 = 0 then (some ((0 : Int32), st)) else (if (st.1 c 3) < (3 : Int32) then (some ((0 : Int32), st)) else (some ((1 : Int32), st)))) else (if y0 = 0 ∨ y0 = 1 then some (y0, st) else none)))))
def fX0_givesWay (c : Nat) (v1 : Int32) (v2 : Int32) (st : kM) : Option (Int32 × kM) :=
  if v1 ≤ v2 then (fX0_givesWay_10 c (0 : Int32) st) else (fX0_givesWay_10 c (1 : Int32) st)
set_option maxRecDepth 100000 in
theorem tX0_givesWay_10 {Z : kZ} (C : kC Z cX0_givesWay RX0 4 rmX0_givesWay) {c : Nat} (hc : kd c = 0) {res : Int32 × kM} (K : kEnd Z (some .boolean) (some (.int res.1)) res.2) : ∀ (y0 : Int32) (st : kM), fX0_givesWay_10 c y0 st = some res → kV Z 4 10 [(0, kr Z c)] [.int y0] st := by
  intro y0 st hf
  unfold fX0_givesWay_10 at hf
  refine k_istore_n (lv' := [(3, .int y0), (0, kr Z c)]) C dX0_givesWay_10 rfl (by decide) rfl rfl ?_
  refine k_aload_n C 1 dX0_givesWay_11 rfl rfl rfl ?_
  refine g_X0_kind C hc kw_1_36 dX0_givesWay_12 rfl ?_
  by_cases b1 : (st.1 c 0) = (1 : Int32)
  · replace hf := kf_t hf b1
    refine k_tabIn C 48 dX0_givesWay_15 (by rw [b1]; decide) (by rw [b1]; decide) (by rw [b1]; rfl) rfl ?_
    refine k_iload_n C 0 dX0_givesWay_48 rfl rfl rfl ?_
    refine k_if_eq C 65 dX0_givesWay_49 rfl rfl (fun b2 => ?_) (fun b2 => ?_)
    · replace hf := kf_t hf b2
      refine k_iconst C (0 : Int32) dX0_givesWay_65 (by decide) rfl ?_
      exact k_zret C K hf rfl dX0_givesWay_66
    · replace hf := kf_f hf b2
      refine k_aload_n C 1 dX0_givesWay_52 rfl rfl rfl ?_
      refine g_X0_open C hc kw_1_41 dX0_givesWay_53 rfl ?_
      refine k_bipush C (90 : Int32) dX0_givesWay_56 (by decide) rfl ?_
      refine k_icmp_ge C 65 dX0_givesWay_58 rfl rfl (fun b3 => ?_) (fun b3 => ?_)
      · replace hf := kf_t hf b3
        refine k_iconst C (0 : Int32) dX0_givesWay_65 (by decide) rfl ?_
        exact k_zret C K hf rfl dX0_givesWay_66
      · replace hf := kf_f hf b3
        refine k_iconst C (1 : Int32) dX0_givesWay_61 (by decide) rfl ?_
        refine k_goto C 66 dX0_givesWay_62 rfl ?_
        exact k_zret C K hf rfl dX0_givesWay_66
  · replace hf := kf_f hf b1
    by_cases b4 : (st.1 c 0) = (2 : Int32)
    · replace hf := kf_t hf b4
      refine k_tabIn C 104 dX0_givesWay_15 (by rw [b4]; decide) (by rw [b4]; decide) (by rw [b4]; rfl) rfl ?_
      refine k_iload_n C 0 dX0_givesWay_104 rfl rfl rfl ?_
      obtain ⟨g0, hf⟩ := kf_y hf
      exact k_zret C K hf (kb_n g0) dX0_givesWay_105
    · replace hf := kf_f hf b4
      by_cases b5 : (st.1 c 0) = (3 : Int32)
      · replace hf := kf_t hf b5
        refine k_tabIn C 67 dX0_givesWay_15 (by rw [b5]; decide) (by rw [b5]; decide) (by rw [b5]; rfl) rfl ?_
        refine k_iload_n C 0 dX0_givesWay_67 rfl rfl rfl ?_
        refine k_if_ne C 80 dX0_givesWay_68 rfl rfl (fun b6 => ?_) (fun b6 => ?_)
        · replace hf := kf_f hf b6
          refine k_iconst C (1 : Int32) dX0_givesWay_80 (by decide) rfl ?_
          refine k_goto C 85 dX0_givesWay_81 rfl ?_
          exact k_zret C K hf rfl dX0_givesWay_85
        · replace hf := kf_t hf b6
          refine k_aload_n C 1 dX0_givesWay_71 rfl rfl rfl ?_
          refine g_X0_open C hc kw_1_41 dX0_givesWay_72 rfl ?_
          refine k_bipush C (99 : Int32) dX0_givesWay_75 (by decide) rfl ?_
          refine k_icmp_ne C 84 dX0_givesWay_77 rfl rfl (fun b7 => ?_) (fun b7 => ?_)
          · replace hf := kf_f hf b7
            refine k_iconst C (0 : Int32) dX0_givesWay_84 (by decide) rfl ?_
            exact k_zret C K hf rfl dX0_givesWay_85
          · replace hf := kf_t hf b7
            refine k_iconst C (1 : Int32) dX0_givesWay_80 (by decide) rfl ?_
            refine k_goto C 85 dX0_givesWay_81 rfl ?_
            exact k_zret C K hf rfl dX0_givesWay_85
      · replace hf := kf_f hf b5
        by_cases b8 : (st.1 c 0) = (4 : Int32)
        · replace hf := kf_t hf b8
          refine k_tabIn C 48 dX0_givesWay_15 (by rw [b8]; decide) (by rw [b8]; decide) (by rw [b8]; rfl) rfl ?_
          refine k_iload_n C 0 dX0_givesWay_48 rfl rfl rfl ?_
          refine k_if_eq C 65 dX0_givesWay_49 rfl rfl (fun b9 => ?_) (fun b9 => ?_)
          · replace hf := kf_t hf b9
            refine k_iconst C (0 : Int32) dX0_givesWay_65 (by decide) rfl ?_
            exact k_zret C K hf rfl dX0_givesWay_66
          · replace hf := kf_f hf b9
            refine k_aload_n C 1 dX0_givesWay_52 rfl rfl rfl ?_
            refine g_X0_open C hc kw_1_41 dX0_givesWay_53 rfl ?_
            refine k_bipush C (90 : Int32) dX0_givesWay_56 (by decide) rfl ?_
            refine k_icmp_ge C 65 dX0_givesWay_58 rfl rfl (fun b10 => ?_) (fun b10 => ?_)
            · replace hf := kf_t hf b10
              refine k_iconst C (0 : Int32) dX0_givesWay_65 (by decide) rfl ?_
              exact k_zret C K hf rfl dX0_givesWay_66
            · replace hf := kf_f hf b10
              refine k_iconst C (1 : Int32) dX0_givesWay_61 (by decide) rfl ?_
              refine k_goto C 66 dX0_givesWay_62 rfl ?_
              exact k_zret C K hf rfl dX0_givesWay_66
        · replace hf := kf_f hf b8
          by_cases b11 : (st.1 c 0) = (5 : Int32)
          · replace hf := kf_t hf b11
            refine k_tabIn C 86 dX0_givesWay_15 (by rw [b11]; decide) (by rw [b11]; decide) (by rw [b11]; rfl) rfl ?_
            refine k_iload_n C 0 dX0_givesWay_86 rfl rfl rfl ?_
            refine k_if_eq C 102 dX0_givesWay_87 rfl rfl (fun b12 => ?_) (fun b12 => ?_)
            · replace hf := kf_t hf b12
              refine k_iconst C (0 : Int32) dX0_givesWay_102 (by decide) rfl ?_
              exact k_zret C K hf rfl dX0_givesWay_103
            · replace hf := kf_f hf b12
              refine k_aload_n C 1 dX0_givesWay_90 rfl rfl rfl ?_
              refine g_X0_age C hc kw_1_45 dX0_givesWay_91 rfl ?_
              refine k_iconst C (3 : Int32) dX0_givesWay_94 (by decide) rfl ?_
              refine k_icmp_lt C 102 dX0_givesWay_95 rfl rfl (fun b13 => ?_) (fun b13 => ?_)
              · replace hf := kf_t hf b13
                refine k_iconst C (0 : Int32) dX0_givesWay_102 (by decide) rfl ?_
                exact k_zret C K hf rfl dX0_givesWay_103
              · replace hf := kf_f hf b13
                refine k_iconst C (1 : Int32) dX0_givesWay_98 (by decide) rfl ?_
                refine k_goto C 103 dX0_givesWay_99 rfl ?_
                exact k_zret C K hf rfl dX0_givesWay_103
          · replace hf := kf_f hf b11
            have zb1 := ti_ne (1 : Int32) b1 (z := 1) rfl
            have zb4 := ti_ne (2 : Int32) b4 (z := 2) rfl
            have zb5 := ti_ne (3 : Int32) b5 (z := 3) rfl
            have zb8 := ti_ne (4 : Int32) b8 (z := 4) rfl
            have zb11 := ti_ne (5 : Int32) b11 (z := 5) rfl
            refine k_tabOut C 104 dX0_givesWay_15 (by omega) rfl ?_
            refine k_iload_n C 0 dX0_givesWay_104 rfl rfl rfl ?_
            obtain ⟨g0, hf⟩ := kf_y hf
            exact k_zret C K hf (kb_n g0) dX0_givesWay_105
set_option maxRecDepth 100000 in
theorem tX0_givesWay {Z : kZ} (C : kC Z cX0_givesWay RX0 4 rmX0_givesWay) {c : Nat} {v1 : Int32} {v2 : Int32} (hc : kd c = 0) {st : kM} {res : Int32 × kM} (hf : fX0_givesWay c v1 v2 st = some res) (K : kEnd Z (some .boolean) (some (.int res.1)) res.2) : kV Z 4 0 [(0, kr Z c), (1, .int v1), (2, .int v2)] [] st := by
  unfold fX0_givesWay at hf
  refine k_iload_n C 1 dX0_givesWay_0 rfl rfl rfl ?_
  refine k_iload_n C 2 dX0_givesWay_1 rfl rfl rfl ?_
  refine k_icmp_le C 9 dX0_givesWay_2 rfl rfl (fun b1 => ?_) (fun b1 => ?_)
  · replace hf := kf_t hf b1
    refine k_iconst C (0 : Int32) dX0_givesWay_9 (by decide) rfl ?_
    refine k_lv (lv' := [(0, kr Z c)]) [0] rfl ?_
    exact tX0_givesWay_10 C hc K (0 : Int32) st hf
  · replace hf := kf_f hf b1
    refine k_iconst C (1 : Int32) dX0_givesWay_5 (by decide) rfl ?_
    refine k_goto C 10 dX0_givesWay_6 rfl ?_
    refine k_lv (lv' := [(0, kr Z c)]) [0] rfl ?_
    exact tX0_givesWay_10 C hc K (1 : Int32) st hf
theorem mX0_givesWay {G : kG} {c : Nat} {v1 : Int32} {v2 : Int32} (hc : kd c = 0) {st : kM} {res : Int32 × kM} (hf : fX0_givesWay c v1 v2 st = some res) : kCt G yX0_givesWay cX0_givesWay 4 (some .boolean) rmX0_givesWay [.ref (G.2.1 c), .int v1, .int v2] st (some (.int res.1)) res.2 := kMet (by decide) (Nat.le_of_ble_eq_true rfl) ⟨rfl, rfl⟩ (fun X A Q C K => tX0_givesWay C hc hf K)
theorem qX0_givesWay : yX0_givesWay.cls = RX0 ∧ yX0_givesWay.cls ≠ "java/lang/invoke/MethodHandle" ∧ yX0_givesWay.cls ≠ "java/lang/invoke/VarHandle" ∧ (parseMethodDescriptor yX0_givesWay.desc).map (fun d => d.parameters.length) = some 2 := ⟨rfl, by decide, by decide, by decide +kernel⟩
-- TalkKnots$Knot.openBy(I)V
def rmX0_openBy : Room := { frames := 1, cells := 0, slots := 0, locals := 21 }
def fX0_openBy (c : Nat) (v1 : Int32) (st : kM) : Option (kM) :=
  (some (kwr st c 2 (if (0 : Int32) < (if ((st.1 c 2) + v1) < (99 : Int32) then ((st.1 c 2) + v1) else (99 : Int32)) then (if ((st.1 c 2) + v1) < (99 : Int32) then ((st.1 c 2) + v1) else (99 : Int32)) else (0 : Int32)))).bind fun s1 => (some s1)
set_option maxRecDepth 100000 in
theorem tX0_openBy {Z : kZ} (C : kC Z cX0_openBy RX0 2 rmX0_openBy) {c : Nat} {v1 : Int32} (hc : kd c = 0) {st : kM} {res : kM} (hf : fX0_openBy c v1 st = some res) (K : kEnd Z none none res) : kV Z 2 0 [(0, kr Z c), (1, .int v1)] [] st := by
  unfold fX0_openBy at hf
  refine k_aload_n C 0 dX0_openBy_0 rfl rfl rfl ?_
  refine k_iconst C (0 : Int32) dX0_openBy_1 (by decide) rfl ?_
  refine k_bipush C (99 : Int32) dX0_openBy_2 (by decide) rfl ?_
  refine k_aload_n C 0 dX0_openBy_4 rfl rfl rfl ?_
  refine g_X0_open C hc kw_1_41 dX0_openBy_5 rfl ?_
  refine k_iload_n C 1 dX0_openBy_8 rfl rfl rfl ?_
  refine k_iadd C dX0_openBy_9 rfl ?_
  refine k_mmin C kw_2_116 kw_2_117 kw_1_8 kw_2_118 ⟨by decide, by decide⟩ (Nat.le_of_ble_eq_true rfl) dX0_openBy_10 rfl ?_
  refine k_mmax C kw_2_28 kw_2_29 kw_1_8 kw_2_30 ⟨by decide, by decide⟩ (Nat.le_of_ble_eq_true rfl) dX0_openBy_13 rfl ?_
  refine p_X0_open C hc kw_1_41 dX0_openBy_16 rfl ?_
  obtain ⟨s1, e2, hf⟩ := kf_b hf
  refine k_st e2 ?_
  exact k_vret C K hf dX0_openBy_19
theorem mX0_openBy {G : kG} {c : Nat} {v1 : Int32} (hc : kd c = 0) {st : kM} {res : kM} (hf : fX0_openBy c v1 st = some res) : kCt G yX0_openBy cX0_openBy 2 none rmX0_openBy [.ref (G.2.1 c), .int v1] st none res := kMet (by decide) (Nat.le_of_ble_eq_true rfl) ⟨rfl, rfl⟩ (fun X A Q C K => tX0_openBy C hc hf K)
theorem qX0_openBy : yX0_openBy.cls = RX0 ∧ yX0_openBy.cls ≠ "java/lang/invoke/MethodHandle" ∧ yX0_openBy.cls ≠ "java/lang/invoke/VarHandle" ∧ (parseMethodDescriptor yX0_openBy.desc).map (fun d => d.parameters.length) = some 1 := ⟨rfl, by decide, by decide, by decide +kernel⟩
-- TalkKnots$Knot.beTeased()V
def rmX0_beTeased : Room := { frames := 2, cells := 0, slots := 0, locals := 42 }
def fX0_beTeased (c : Nat) (st : kM) : Option (kM) :=
  (fX0_teasing c st).bind fun q1 => ((fX0_openBy c q1.1 q1.2).bind fun s3 => (some s3))
set_option maxRecDepth 100000 in
theorem tX0_beTeased {Z : kZ} (C : kC Z cX0_beTeased RX0 1 rmX0_beTeased) {c : Nat} (hc : kd c = 0) {st : kM} {res : kM} (hf : fX0_beTeased c st = some res) (K : kEnd Z none none res) : kV Z 1 0 [(0, kr Z c)] [] st := by
  unfold fX0_beTeased at hf
  refine k_aload_n C 0 dX0_beTeased_0 rfl rfl rfl ?_
  refine k_aload_n C 0 dX0_beTeased_1 rfl rfl rfl ?_
  obtain ⟨q1, e2, hf⟩ := kf_b hf
  refine k_callV C [] (mX0_teasing hc e2) hc (by decide) rfl kw_2_111 kw_2_75 kw_2_76 kw_1_3 kw_2_77 qX0_teasing rfl ⟨by decide, by decide⟩ ⟨rfl, rfl⟩ (Nat.le_of_ble_eq_true rfl) dX0_beTeased_2 rfl ?_ rfl
  refine (show kV Z 1 5 [(0, kr Z c)] [.int q1.1, kr Z c] q1.2 from ?_)
  obtain ⟨s3, e4, hf⟩ := kf_b hf
  refine k_callV C [.int q1.1] (mX0_openBy hc e4) hc (by decide) rfl kw_2_112 kw_2_114 kw_0_6 kw_1_3 kw_2_115 qX0_openBy rfl ⟨by decide, by decide⟩ ⟨rfl, rfl⟩ (Nat.le_of_ble_eq_true rfl) dX0_beTeased_5 rfl ?_ rfl
  refine (show kV Z 1 8 [(0, kr Z c)] [] s3 from ?_)
  exact k_vret C K hf dX0_beTeased_8
theorem mX0_beTeased {G : kG} {c : Nat} (hc : kd c = 0) {st : kM} {res : kM} (hf : fX0_beTeased c st = some res) : kCt G yX0_beTeased cX0_beTeased 1 none rmX0_beTeased [.ref (G.2.1 c)] st none res := kMet (by decide) (Nat.le_of_ble_eq_true rfl) ⟨rfl, rfl⟩ (fun X A Q C K => tX0_beTeased C hc hf K)
theorem qX0_beTeased : yX0_beTeased.cls = RX0 ∧ yX0_beTeased.cls ≠ "java/lang/invoke/MethodHandle" ∧ yX0_beTeased.cls ≠ "java/lang/invoke/VarHandle" ∧ (parseMethodDescriptor yX0_beTeased.desc).map (fun d => d.parameters.length) = some 0 := ⟨rfl, by decide, by decide, by decide +kernel⟩
-- TalkKnots$Knot.settle(I)V
def rmX0_settle : Room := { frames := 2, cells := 0, slots := 0, locals := 42 }
def fX0_settle (c : Nat) (v1 : Int32) (st : kM) : Option (kM) :=
  (fX0_settling c v1 st).bind fun q1 => ((fX0_openBy c (-q1.1) q1.2).bind fun s3 => ((some (kwr s3 c 3 (if ((s3.1 c 3) + (1 : Int32)) < (9999 : Int32) then ((s3.1 c 3) + (1 : Int32)) else (9999 : Int32)))).bind fun s5 => (some s5)))
set_option maxRecDepth 100000 in
theorem tX0_settle {Z : kZ} (C : kC Z cX0_settle RX0 2 rmX0_settle) {c : Nat} {v1 : Int32} (hc : kd c = 0) {st : kM} {res : kM} (hf : fX0_settle c v1 st = some res) (K : kEnd Z none none res) : kV Z 2 0 [(0, kr Z c), (1, .int v1)] [] st := by
  unfold fX0_settle at hf
  refine k_aload_n C 0 dX0_settle_0 rfl rfl rfl ?_
  refine k_aload_n C 0 dX0_settle_1 rfl rfl rfl ?_
  refine k_iload_n C 1 dX0_settle_2 rfl rfl rfl ?_
  obtain ⟨q1, e2, hf⟩ := kf_b hf
  refine k_callV C [.int v1] (mX0_settling hc e2) hc (by decide) rfl kw_2_159 kw_2_71 kw_2_72 kw_1_3 kw_2_73 qX0_settling rfl ⟨by decide, by decide⟩ ⟨rfl, rfl⟩ (Nat.le_of_ble_eq_true rfl) dX0_settle_3 rfl ?_ rfl
  refine (show kV Z 2 6 [(0, kr Z c), (1, .int v1)] [.int q1.1, kr Z c] q1.2 from ?_)
  refine k_ineg C dX0_settle_6 rfl ?_
  obtain ⟨s3, e4, hf⟩ := kf_b hf
  refine k_callV C [.int (-q1.1)] (mX0_openBy hc e4) hc (by decide) rfl kw_2_112 kw_2_114 kw_0_6 kw_1_3 kw_2_115 qX0_openBy rfl ⟨by decide, by decide⟩ ⟨rfl, rfl⟩ (Nat.le_of_ble_eq_true rfl) dX0_settle_7 rfl ?_ rfl
  refine (show kV Z 2 10 [(0, kr Z c), (1, .int v1)] [] s3 from ?_)
  refine k_aload_n C 0 dX0_settle_10 rfl rfl rfl ?_
  refine k_sipush C (9999 : Int32) dX0_settle_11 (by decide) rfl ?_
  refine k_aload_n C 0 dX0_settle_14 rfl rfl rfl ?_
  refine g_X0_age C hc kw_1_45 dX0_settle_15 rfl ?_
  refine k_iconst C (1 : Int32) dX0_settle_18 (by decide) rfl ?_
  refine k_iadd C dX0_settle_19 rfl ?_
  refine k_mmin C kw_2_116 kw_2_117 kw_1_8 kw_2_118 ⟨by decide, by decide⟩ (Nat.le_of_ble_eq_true rfl) dX0_settle_20 rfl ?_
  refine p_X0_age C hc kw_1_45 dX0_settle_23 rfl ?_
  obtain ⟨s5, e6, hf⟩ := kf_b hf
  refine k_st e6 ?_
  exact k_vret C K hf dX0_settle_26
theorem mX0_settle {G : kG} {c : Nat} {v1 : Int32} (hc : kd c = 0) {st : kM} {res : kM} (hf : fX0_settle c v1 st = some res) : kCt G yX0_settle cX0_settle 2 none rmX0_settle [.ref (G.2.1 c), .int v1] st none res := kMet (by decide) (Nat.le_of_ble_eq_true rfl) ⟨rfl, rfl⟩ (fun X A Q C K => tX0_settle C hc hf K)
theorem qX0_settle : yX0_settle.cls = RX0 ∧ yX0_settle.cls ≠ "java/lang/invoke/MethodHandle" ∧ yX0_settle.cls ≠ "java/lang/invoke/VarHandle" ∧ (parseMethodDescriptor yX0_settle.desc).map (fun d => d.parameters.length) = some 1 := ⟨rfl, by decide, by decide, by decide +kernel⟩
-- TalkKnots$Sheet.begin(II)V
def rmX1_begin : Room := { frames := 0, cells := 0, slots := 0, locals := 0 }
def fX1_begin_12 (c : Nat) : Nat → Int32 → kM → Option (kM)
  | 0, _, _ => none
  | n + 1, x3, st =>
    if (40 : Int32) ≤ x3 then (some st) else (if x3 < 0 ∨ 40 ≤ x3.toNatClampNeg then none else ((some (kwl st (c + 1) x3.toNatClampNeg (0 : Int64))).bind fun s3 => (fX1_begin_12 c n (x3 + (1 : Int32)) s3)))
def fX1_begin (c : Nat) (v1 : Int32) (v2 : Int32) (st : kM) : Option (kM) :=
  (some (kwr st c 0 v1)).bind fun s1 => ((some (kwr s1 c 1 v2)).bind fun s3 => (fX1_begin_12 c kfu (0 : Int32) s3))
set_option maxRecDepth 100000 in
theorem tX1_begin_12 {Z : kZ} (C : kC Z cX1_begin RX1 4 rmX1_begin) {c : Nat} (hc : sd c) {res : kM} (K : kEnd Z none none res) : ∀ (n : Nat) (x3 : Int32) (st : kM), fX1_begin_12 c n x3 st = some res → kV Z 4 12 [(0, kr Z c), (3, .int x3)] [] st := by
  intro n
  induction n with
  | zero => intro x3 st hf; cases hf
  | succ n ih =>
    intro x3 st hf
    unfold fX1_begin_12 at hf
    refine k_iload_n C 1 dX1_begin_12 rfl rfl rfl ?_
    refine k_bipush C (40 : Int32) dX1_begin_13 (by decide) rfl ?_
    refine k_icmp_ge C 31 dX1_begin_15 rfl rfl (fun b1 => ?_) (fun b1 => ?_)
    · replace hf := kf_t hf b1
      exact k_vret C K hf dX1_begin_31
    · replace hf := kf_f hf b1
      refine k_aload_n C 0 dX1_begin_18 rfl rfl rfl ?_
      refine g_X1_numbers C (sd_1 hc) kw_1_150 dX1_begin_19 rfl ?_
      refine k_iload_n C 1 dX1_begin_22 rfl rfl rfl ?_
      refine k_lconst C (0 : Int64) dX1_begin_23 (by decide) rfl ?_
      obtain ⟨g2, hf⟩ := kf_g hf
      refine k_last (j := x3.toNatClampNeg) C (sd_n hc) g2 rfl dX1_begin_24 rfl ?_
      obtain ⟨s3, e4, hf⟩ := kf_b hf
      refine k_st e4 ?_
      refine k_iinc (lv' := [(3, .int (x3 + (1 : Int32))), (0, kr Z c)]) C (x3 + (1 : Int32)) 1 dX1_begin_25 rfl rfl (by decide) rfl rfl ?_
      refine k_goto C 12 dX1_begin_28 rfl ?_
      refine k_lv (lv' := [(0, kr Z c), (3, .int (x3 + (1 : Int32)))]) [1, 0] rfl ?_
      exact ih (x3 + (1 : Int32)) s3  hf
set_option maxRecDepth 100000 in
theorem tX1_begin {Z : kZ} (C : kC Z cX1_begin RX1 4 rmX1_begin) {c : Nat} {v1 : Int32} {v2 : Int32} (hc : sd c) {st : kM} {res : kM} (hf : fX1_begin c v1 v2 st = some res) (K : kEnd Z none none res) : kV Z 4 0 [(0, kr Z c), (1, .int v1), (2, .int v2)] [] st := by
  unfold fX1_begin at hf
  refine k_aload_n C 0 dX1_begin_0 rfl rfl rfl ?_
  refine k_iload_n C 1 dX1_begin_1 rfl rfl rfl ?_
  refine p_X1_bits C (sd_1 hc) kw_1_146 dX1_begin_2 rfl ?_
  obtain ⟨s1, e2, hf⟩ := kf_b hf
  refine k_st e2 ?_
  refine k_aload_n C 0 dX1_begin_5 rfl rfl rfl ?_
  refine k_iload_n C 2 dX1_begin_6 rfl rfl rfl ?_
  refine p_X1_size C (sd_1 hc) kw_1_148 dX1_begin_7 rfl ?_
  obtain ⟨s3, e4, hf⟩ := kf_b hf
  refine k_st e4 ?_
  refine k_iconst C (0 : Int32) dX1_begin_10 (by decide) rfl ?_
  refine k_istore_n (lv' := [(3, .int (0 : Int32)), (0, kr Z c), (1, .int v1), (2, .int v2)]) C dX1_begin_11 rfl (by decide) rfl rfl ?_
  refine k_lv (lv' := [(0, kr Z c), (3, .int (0 : Int32))]) [1, 0] rfl ?_
  exact tX1_begin_12 C hc K _ (0 : Int32) s3 hf
theorem mX1_begin {G : kG} {c : Nat} {v1 : Int32} {v2 : Int32} (hc : sd c) {st : kM} {res : kM} (hf : fX1_begin c v1 v2 st = some res) : kCt G yX1_begin cX1_begin 4 none rmX1_begin [.ref (G.2.1 c), .int v1, .int v2] st none res := kMet (by decide) (Nat.le_of_ble_eq_true rfl) ⟨rfl, rfl⟩ (fun X A Q C K => tX1_begin C hc hf K)
theorem qX1_begin : yX1_begin.cls = RX1 ∧ yX1_begin.cls ≠ "java/lang/invoke/MethodHandle" ∧ yX1_begin.cls ≠ "java/lang/invoke/VarHandle" ∧ (parseMethodDescriptor yX1_begin.desc).map (fun d => d.parameters.length) = some 2 := ⟨rfl, by decide, by decide, by decide +kernel⟩
-- TalkKnots$Sheet.isMissing()Z
def rmX1_isMissing : Room := { frames := 0, cells := 0, slots := 0, locals := 0 }
def fX1_isMissing (c : Nat) (st : kM) : Option (Int32 × kM) :=
  if (st.1 c 0) = 0 then (some ((1 : Int32), st)) else (some ((0 : Int32), st))
set_option maxRecDepth 100000 in
theorem tX1_isMissing {Z : kZ} (C : kC Z cX1_isMissing RX1 1 rmX1_isMissing) {c : Nat} (hc : sd c) {st : kM} {res : Int32 × kM} (hf : fX1_isMissing c st = some res) (K : kEnd Z (some .boolean) (some (.int res.1)) res.2) : kV Z 1 0 [(0, kr Z c)] [] st := by
  unfold fX1_isMissing at hf
  refine k_aload_n C 0 dX1_isMissing_0 rfl rfl rfl ?_
  refine g_X1_bits C (sd_1 hc) kw_1_146 dX1_isMissing_1 rfl ?_
  refine k_if_ne C 11 dX1_isMissing_4 rfl rfl (fun b1 => ?_) (fun b1 => ?_)
  · replace hf := kf_f hf b1
    refine k_iconst C (0 : Int32) dX1_isMissing_11 (by decide) rfl ?_
    exact k_zret C K hf rfl dX1_isMissing_12
  · replace hf := kf_t hf b1
    refine k_iconst C (1 : Int32) dX1_isMissing_7 (by decide) rfl ?_
    refine k_goto C 12 dX1_isMissing_8 rfl ?_
    exact k_zret C K hf rfl dX1_isMissing_12
theorem mX1_isMissing {G : kG} {c : Nat} (hc : sd c) {st : kM} {res : Int32 × kM} (hf : fX1_isMissing c st = some res) : kCt G yX1_isMissing cX1_isMissing 1 (some .boolean) rmX1_isMissing [.ref (G.2.1 c)] st (some (.int res.1)) res.2 := kMet (by decide) (Nat.le_of_ble_eq_true rfl) ⟨rfl, rfl⟩ (fun X A Q C K => tX1_isMissing C hc hf K)
theorem qX1_isMissing : yX1_isMissing.cls = RX1 ∧ yX1_isMissing.cls ≠ "java/lang/invoke/MethodHandle" ∧ yX1_isMissing.cls ≠ "java/lang/invoke/VarHandle" ∧ (parseMethodDescriptor yX1_isMissing.desc).map (fun d => d.parameters.length) = some 0 := ⟨rfl, by decide, by decide, by decide +kernel⟩
-- TalkKnots$Sheet.has(II)Z
def rmX1_has : Room := { frames := 0, cells := 0, slots := 0, locals := 0 }
def fX1_has (c : Nat) (v1 : Int32) (v2 : Int32) (st : kM) : Option (Int32 × kM) :=
  if v1 < 0 then (some ((0 : Int32), st)) else (if v2 < 0 then (some ((0 : Int32), st)) else (if (st.1 c 1) < v1 then (some ((0 : Int32), st)) else (if ((st.1 c 1) - v1) < v2 then (some ((0 : Int32), st)) else (some ((1 : Int32), st)))))
set_option maxRecDepth 100000 in
theorem tX1_has {Z : kZ} (C : kC Z cX1_has RX1 3 rmX1_has) {c : Nat} {v1 : Int32} {v2 : Int32} (hc : sd c) {st : kM} {res : Int32 × kM} (hf : fX1_has c v1 v2 st = some res) (K : kEnd Z (some .boolean) (some (.int res.1)) res.2) : kV Z 3 0 [(0, kr Z c), (1, .int v1), (2, .int v2)] [] st := by
  unfold fX1_has at hf
  refine k_iload_n C 1 dX1_has_0 rfl rfl rfl ?_
  refine k_if_lt C 30 dX1_has_1 rfl rfl (fun b1 => ?_) (fun b1 => ?_)
  · replace hf := kf_t hf b1
    refine k_iconst C (0 : Int32) dX1_has_30 (by decide) rfl ?_
    exact k_zret C K hf rfl dX1_has_31
  · replace hf := kf_f hf b1
    refine k_iload_n C 2 dX1_has_4 rfl rfl rfl ?_
    refine k_if_lt C 30 dX1_has_5 rfl rfl (fun b2 => ?_) (fun b2 => ?_)
    · replace hf := kf_t hf b2
      refine k_iconst C (0 : Int32) dX1_has_30 (by decide) rfl ?_
      exact k_zret C K hf rfl dX1_has_31
    · replace hf := kf_f hf b2
      refine k_iload_n C 1 dX1_has_8 rfl rfl rfl ?_
      refine k_aload_n C 0 dX1_has_9 rfl rfl rfl ?_
      refine g_X1_size C (sd_1 hc) kw_1_148 dX1_has_10 rfl ?_
      refine k_icmp_gt C 30 dX1_has_13 rfl rfl (fun b3 => ?_) (fun b3 => ?_)
      · replace hf := kf_t hf b3
        refine k_iconst C (0 : Int32) dX1_has_30 (by decide) rfl ?_
        exact k_zret C K hf rfl dX1_has_31
      · replace hf := kf_f hf b3
        refine k_iload_n C 2 dX1_has_16 rfl rfl rfl ?_
        refine k_aload_n C 0 dX1_has_17 rfl rfl rfl ?_
        refine g_X1_size C (sd_1 hc) kw_1_148 dX1_has_18 rfl ?_
        refine k_iload_n C 1 dX1_has_21 rfl rfl rfl ?_
        refine k_isub C dX1_has_22 rfl ?_
        refine k_icmp_gt C 30 dX1_has_23 rfl rfl (fun b4 => ?_) (fun b4 => ?_)
        · replace hf := kf_t hf b4
          refine k_iconst C (0 : Int32) dX1_has_30 (by decide) rfl ?_
          exact k_zret C K hf rfl dX1_has_31
        · replace hf := kf_f hf b4
          refine k_iconst C (1 : Int32) dX1_has_26 (by decide) rfl ?_
          refine k_goto C 31 dX1_has_27 rfl ?_
          exact k_zret C K hf rfl dX1_has_31
theorem mX1_has {G : kG} {c : Nat} {v1 : Int32} {v2 : Int32} (hc : sd c) {st : kM} {res : Int32 × kM} (hf : fX1_has c v1 v2 st = some res) : kCt G yX1_has cX1_has 3 (some .boolean) rmX1_has [.ref (G.2.1 c), .int v1, .int v2] st (some (.int res.1)) res.2 := kMet (by decide) (Nat.le_of_ble_eq_true rfl) ⟨rfl, rfl⟩ (fun X A Q C K => tX1_has C hc hf K)
theorem qX1_has : yX1_has.cls = RX1 ∧ yX1_has.cls ≠ "java/lang/invoke/MethodHandle" ∧ yX1_has.cls ≠ "java/lang/invoke/VarHandle" ∧ (parseMethodDescriptor yX1_has.desc).map (fun d => d.parameters.length) = some 2 := ⟨rfl, by decide, by decide, by decide +kernel⟩
-- TalkKnots$Sheet.mayBeginWith(I)Z
def rmX1_mayBeginWith : Room := { frames := 0, cells := 0, slots := 0, locals := 0 }
def fX1_mayBeginWith (c : Nat) (v1 : Int32) (st : kM) : Option (Int32 × kM) :=
  if (st.1 c 1) = 0 then (some ((1 : Int32), st)) else (if (lg_cmp (st.2 (c + 1) 0) (v1.toInt64)) = 0 then (some ((1 : Int32), st)) else (some ((0 : Int32), st)))
set_option maxRecDepth 100000 in
theorem tX1_mayBeginWith {Z : kZ} (C : kC Z cX1_mayBeginWith RX1 2 rmX1_mayBeginWith) {c : Nat} {v1 : Int32} (hc : sd c) {st : kM} {res : Int32 × kM} (hf : fX1_mayBeginWith c v1 st = some res) (K : kEnd Z (some .boolean) (some (.int res.1)) res.2) : kV Z 2 0 [(0, kr Z c), (1, .int v1)] [] st := by
  unfold fX1_mayBeginWith at hf
  refine k_aload_n C 0 dX1_mayBeginWith_0 rfl rfl rfl ?_
  refine g_X1_size C (sd_1 hc) kw_1_148 dX1_mayBeginWith_1 rfl ?_
  refine k_if_eq C 19 dX1_mayBeginWith_4 rfl rfl (fun b1 => ?_) (fun b1 => ?_)
  · replace hf := kf_t hf b1
    refine k_iconst C (1 : Int32) dX1_mayBeginWith_19 (by decide) rfl ?_
    refine k_goto C 24 dX1_mayBeginWith_20 rfl ?_
    exact k_zret C K hf rfl dX1_mayBeginWith_24
  · replace hf := kf_f hf b1
    refine k_aload_n C 0 dX1_mayBeginWith_7 rfl rfl rfl ?_
    refine g_X1_numbers C (sd_1 hc) kw_1_150 dX1_mayBeginWith_8 rfl ?_
    refine k_iconst C (0 : Int32) dX1_mayBeginWith_11 (by decide) rfl ?_
    refine k_lald (j := 0) C (sd_n hc) (by decide) rfl dX1_mayBeginWith_12 rfl ?_
    refine k_iload_n C 1 dX1_mayBeginWith_13 rfl rfl rfl ?_
    refine k_i2l C dX1_mayBeginWith_14 rfl ?_
    refine k_lcmp C dX1_mayBeginWith_15 rfl ?_
    refine k_if_ne C 23 dX1_mayBeginWith_16 rfl rfl (fun b2 => ?_) (fun b2 => ?_)
    · replace hf := kf_f hf b2
      refine k_iconst C (0 : Int32) dX1_mayBeginWith_23 (by decide) rfl ?_
      exact k_zret C K hf rfl dX1_mayBeginWith_24
    · replace hf := kf_t hf b2
      refine k_iconst C (1 : Int32) dX1_mayBeginWith_19 (by decide) rfl ?_
      refine k_goto C 24 dX1_mayBeginWith_20 rfl ?_
      exact k_zret C K hf rfl dX1_mayBeginWith_24
theorem mX1_mayBeginWith {G : kG} {c : Nat} {v1 : Int32} (hc : sd c) {st : kM} {res : Int32 × kM} (hf : fX1_mayBeginWith c v1 st = some res) : kCt G yX1_mayBeginWith cX1_mayBeginWith 2 (some .boolean) rmX1_mayBeginWith [.ref (G.2.1 c), .int v1] st (some (.int res.1)) res.2 := kMet (by decide) (Nat.le_of_ble_eq_true rfl) ⟨rfl, rfl⟩ (fun X A Q C K => tX1_mayBeginWith C hc hf K)
theorem qX1_mayBeginWith : yX1_mayBeginWith.cls = RX1 ∧ yX1_mayBeginWith.cls ≠ "java/lang/invoke/MethodHandle" ∧ yX1_mayBeginWith.cls ≠ "java/lang/invoke/VarHandle" ∧ (parseMethodDescriptor yX1_mayBeginWith.desc).map (fun d => d.parameters.length) = some 1 := ⟨rfl, by decide, by decide, by decide +kernel⟩
-- TalkKnots$Sheet.put(IJ)V
def rmX1_put : Room := { frames := 0, cells := 0, slots := 0, locals := 0 }
def fX1_put (c : Nat) (v1 : Int32) (v2 : Int64) (st : kM) : Option (kM) :=
  if (st.1 c 0) = (8 : Int32) then (if v1 < 0 ∨ 40 ≤ v1.toNatClampNeg then none else ((some (kwl st (c + 1) v1.toNatClampNeg (((v2.toInt32).toInt8.toInt32).toInt64))).bind fun s10 => (some s10))) else (if (st.1 c 0) = (16 : Int32) then (if v1 < 0 ∨ 40 ≤ v1.toNatClampNeg then none else ((some (kwl st (c + 1) v1.toNatClampNeg (((v2.toInt32).toInt16.toInt32).toInt64))).bind fun s7 => (some s7))) else (if v1 < 0 ∨ 40 ≤ v1.toNatClampNeg then none else ((some (kwl st (c + 1) v1.toNatClampNeg v2)).bind fun s4 => (some s4))))
set_option maxRecDepth 100000 in
theorem tX1_put {Z : kZ} (C : kC Z cX1_put RX1 4 rmX1_put) {c : Nat} {v1 : Int32} {v2 : Int64} (hc : sd c) {st : kM} {res : kM} (hf : fX1_put c v1 v2 st = some res) (K : kEnd Z none none res) : kV Z 4 0 [(0, kr Z c), (1, .int v1), (2, .long v2)] [] st := by
  unfold fX1_put at hf
  refine k_aload_n C 0 dX1_put_0 rfl rfl rfl ?_
  refine g_X1_bits C (sd_1 hc) kw_1_146 dX1_put_1 rfl ?_
  refine k_bipush C (8 : Int32) dX1_put_4 (by decide) rfl ?_
  refine k_icmp_ne C 22 dX1_put_6 rfl rfl (fun b1 => ?_) (fun b1 => ?_)
  · replace hf := kf_f hf b1
    refine k_aload_n C 0 dX1_put_22 rfl rfl rfl ?_
    refine g_X1_bits C (sd_1 hc) kw_1_146 dX1_put_23 rfl ?_
    refine k_bipush C (16 : Int32) dX1_put_26 (by decide) rfl ?_
    refine k_icmp_ne C 44 dX1_put_28 rfl rfl (fun b2 => ?_) (fun b2 => ?_)
    · replace hf := kf_f hf b2
      refine k_aload_n C 0 dX1_put_44 rfl rfl rfl ?_
      refine g_X1_numbers C (sd_1 hc) kw_1_150 dX1_put_45 rfl ?_
      refine k_iload_n C 1 dX1_put_48 rfl rfl rfl ?_
      refine k_lload_n C 2 dX1_put_49 rfl rfl rfl ?_
      obtain ⟨g3, hf⟩ := kf_g hf
      refine k_last (j := v1.toNatClampNeg) C (sd_n hc) g3 rfl dX1_put_50 rfl ?_
      obtain ⟨s4, e5, hf⟩ := kf_b hf
      refine k_st e5 ?_
      exact k_vret C K hf dX1_put_51
    · replace hf := kf_t hf b2
      refine k_aload_n C 0 dX1_put_31 rfl rfl rfl ?_
      refine g_X1_numbers C (sd_1 hc) kw_1_150 dX1_put_32 rfl ?_
      refine k_iload_n C 1 dX1_put_35 rfl rfl rfl ?_
      refine k_lload_n C 2 dX1_put_36 rfl rfl rfl ?_
      refine k_l2i C dX1_put_37 rfl ?_
      refine k_i2s C dX1_put_38 rfl ?_
      refine k_i2l C dX1_put_39 rfl ?_
      obtain ⟨g6, hf⟩ := kf_g hf
      refine k_last (j := v1.toNatClampNeg) C (sd_n hc) g6 rfl dX1_put_40 rfl ?_
      obtain ⟨s7, e8, hf⟩ := kf_b hf
      refine k_st e8 ?_
      refine k_goto C 51 dX1_put_41 rfl ?_
      exact k_vret C K hf dX1_put_51
  · replace hf := kf_t hf b1
    refine k_aload_n C 0 dX1_put_9 rfl rfl rfl ?_
    refine g_X1_numbers C (sd_1 hc) kw_1_150 dX1_put_10 rfl ?_
    refine k_iload_n C 1 dX1_put_13 rfl rfl rfl ?_
    refine k_lload_n C 2 dX1_put_14 rfl rfl rfl ?_
    refine k_l2i C dX1_put_15 rfl ?_
    refine k_i2b C dX1_put_16 rfl ?_
    refine k_i2l C dX1_put_17 rfl ?_
    obtain ⟨g9, hf⟩ := kf_g hf
    refine k_last (j := v1.toNatClampNeg) C (sd_n hc) g9 rfl dX1_put_18 rfl ?_
    obtain ⟨s10, e11, hf⟩ := kf_b hf
    refine k_st e11 ?_
    refine k_goto C 51 dX1_put_19 rfl ?_
    exact k_vret C K hf dX1_put_51
theorem mX1_put {G : kG} {c : Nat} {v1 : Int32} {v2 : Int64} (hc : sd c) {st : kM} {res : kM} (hf : fX1_put c v1 v2 st = some res) : kCt G yX1_put cX1_put 4 none rmX1_put [.ref (G.2.1 c), .int v1, .long v2] st none res := kMet (by decide) (Nat.le_of_ble_eq_true rfl) ⟨rfl, rfl⟩ (fun X A Q C K => tX1_put C hc hf K)
theorem qX1_put : yX1_put.cls = RX1 ∧ yX1_put.cls ≠ "java/lang/invoke/MethodHandle" ∧ yX1_put.cls ≠ "java/lang/invoke/VarHandle" ∧ (parseMethodDescriptor yX1_put.desc).map (fun d => d.parameters.length) = some 2 := ⟨rfl, by decide, by decide, by decide +kernel⟩
-- TalkKnots$Tape.add(I)V
def rmX2_add : Room := { frames := 0, cells := 0, slots := 0, locals := 0 }
def fX2_add (v1 : Int32) (st : kM) : Option (kM) :=
  if (120 : Int32) ≤ (st.1 46 1) then (some st) else (if (st.1 46 1) < 0 ∨ 120 ≤ (st.1 46 1).toNatClampNeg then none else ((some (kwr st 47 ((st.1 46 1).toNatClampNeg) v1)).bind fun s3 => ((some (kwr s3 46 1 ((s3.1 46 1) + (1 : Int32)))).bind fun s5 => (some s5))))
set_option maxRecDepth 100000 in
theorem tX2_add {Z : kZ} (C : kC Z cX2_add RX2 2 rmX2_add) {v1 : Int32}  {st : kM} {res : kM} (hf : fX2_add v1 st = some res) (K : kEnd Z none none res) : kV Z 2 0 [(0, kr Z 46), (1, .int v1)] [] st := by
  unfold fX2_add at hf
  refine k_aload_n C 0 dX2_add_0 rfl rfl rfl ?_
  refine g_X2_length C rfl kw_1_103 dX2_add_1 rfl ?_
  refine k_bipush C (120 : Int32) dX2_add_4 (by decide) rfl ?_
  refine k_icmp_ge C 29 dX2_add_6 rfl rfl (fun b1 => ?_) (fun b1 => ?_)
  · replace hf := kf_t hf b1
    exact k_vret C K hf dX2_add_29
  · replace hf := kf_f hf b1
    refine k_aload_n C 0 dX2_add_9 rfl rfl rfl ?_
    refine g_X2_bytes C rfl kw_1_102 dX2_add_10 rfl ?_
    refine k_aload_n C 0 dX2_add_13 rfl rfl rfl ?_
    refine g_X2_length C rfl kw_1_103 dX2_add_14 rfl ?_
    refine k_iload_n C 1 dX2_add_17 rfl rfl rfl ?_
    obtain ⟨g2, hf⟩ := kf_g hf
    refine k_iast (j := (st.1 46 1).toNatClampNeg) C ⟨rfl, rfl⟩ g2 rfl dX2_add_18 rfl ?_
    obtain ⟨s3, e4, hf⟩ := kf_b hf
    refine k_st e4 ?_
    refine k_aload_n C 0 dX2_add_19 rfl rfl rfl ?_
    refine k_dup C rfl dX2_add_20 rfl ?_
    refine g_X2_length C rfl kw_1_103 dX2_add_21 rfl ?_
    refine k_iconst C (1 : Int32) dX2_add_24 (by decide) rfl ?_
    refine k_iadd C dX2_add_25 rfl ?_
    refine p_X2_length C rfl kw_1_103 dX2_add_26 rfl ?_
    obtain ⟨s5, e6, hf⟩ := kf_b hf
    refine k_st e6 ?_
    exact k_vret C K hf dX2_add_29
theorem mX2_add {G : kG} {v1 : Int32}  {st : kM} {res : kM} (hf : fX2_add v1 st = some res) : kCt G yX2_add cX2_add 2 none rmX2_add [.ref (G.2.1 46), .int v1] st none res := kMet (by decide) (Nat.le_of_ble_eq_true rfl) ⟨rfl, rfl⟩ (fun X A Q C K => tX2_add C  hf K)
theorem qX2_add : yX2_add.cls = RX2 ∧ yX2_add.cls ≠ "java/lang/invoke/MethodHandle" ∧ yX2_add.cls ≠ "java/lang/invoke/VarHandle" ∧ (parseMethodDescriptor yX2_add.desc).map (fun d => d.parameters.length) = some 1 := ⟨rfl, by decide, by decide, by decide +kernel⟩
-- TalkKnots$Tape.byteAt(I)I
def rmX2_byteAt : Room := { frames := 0, cells := 0, slots := 0, locals := 0 }
def fX2_byteAt (v1 : Int32) (st : kM) : Option (Int32 × kM) :=
  if v1 < 0 then (some ((-1 : Int32), st)) else (if (st.1 46 1) ≤ v1 then (some ((-1 : Int32), st)) else (if v1 < 0 ∨ 120 ≤ v1.toNatClampNeg then none else (some ((st.1 47 v1.toNatClampNeg), st))))
set_option maxRecDepth 100000 in
theorem tX2_byteAt {Z : kZ} (C : kC Z cX2_byteAt RX2 2 rmX2_byteAt) {v1 : Int32}  {st : kM} {res : Int32 × kM} (hf : fX2_byteAt v1 st = some res) (K : kEnd Z (some .int) (some (.int res.1)) res.2) : kV Z 2 0 [(0, kr Z 46), (1, .int v1)] [] st := by
  unfold fX2_byteAt at hf
  refine k_iload_n C 1 dX2_byteAt_0 rfl rfl rfl ?_
  refine k_if_lt C 21 dX2_byteAt_1 rfl rfl (fun b1 => ?_) (fun b1 => ?_)
  · replace hf := kf_t hf b1
    refine k_iconst C (-1 : Int32) dX2_byteAt_21 (by decide) rfl ?_
    exact k_iret C K hf dX2_byteAt_22
  · replace hf := kf_f hf b1
    refine k_iload_n C 1 dX2_byteAt_4 rfl rfl rfl ?_
    refine k_aload_n C 0 dX2_byteAt_5 rfl rfl rfl ?_
    refine g_X2_length C rfl kw_1_103 dX2_byteAt_6 rfl ?_
    refine k_icmp_ge C 21 dX2_byteAt_9 rfl rfl (fun b2 => ?_) (fun b2 => ?_)
    · replace hf := kf_t hf b2
      refine k_iconst C (-1 : Int32) dX2_byteAt_21 (by decide) rfl ?_
      exact k_iret C K hf dX2_byteAt_22
    · replace hf := kf_f hf b2
      refine k_aload_n C 0 dX2_byteAt_12 rfl rfl rfl ?_
      refine g_X2_bytes C rfl kw_1_102 dX2_byteAt_13 rfl ?_
      refine k_iload_n C 1 dX2_byteAt_16 rfl rfl rfl ?_
      obtain ⟨g3, hf⟩ := kf_g hf
      refine k_iald (j := v1.toNatClampNeg) C ⟨rfl, rfl⟩ g3 rfl dX2_byteAt_17 rfl ?_
      refine k_goto C 22 dX2_byteAt_18 rfl ?_
      exact k_iret C K hf dX2_byteAt_22
theorem mX2_byteAt {G : kG} {v1 : Int32}  {st : kM} {res : Int32 × kM} (hf : fX2_byteAt v1 st = some res) : kCt G yX2_byteAt cX2_byteAt 2 (some .int) rmX2_byteAt [.ref (G.2.1 46), .int v1] st (some (.int res.1)) res.2 := kMet (by decide) (Nat.le_of_ble_eq_true rfl) ⟨rfl, rfl⟩ (fun X A Q C K => tX2_byteAt C  hf K)
theorem qX2_byteAt : yX2_byteAt.cls = RX2 ∧ yX2_byteAt.cls ≠ "java/lang/invoke/MethodHandle" ∧ yX2_byteAt.cls ≠ "java/lang/invoke/VarHandle" ∧ (parseMethodDescriptor yX2_byteAt.desc).map (fun d => d.parameters.length) = some 1 := ⟨rfl, by decide, by decide, by decide +kernel⟩
-- TalkKnots$TextReader.isWord(Ljava/lang/String;)Z
def rmX3_isWord : Room := { frames := 4, cells := 0, slots := 0, locals := 85 }
def fX3_isWord_28 : Nat → Nat → Int32 → kM → Option (Int32 × kM)
  | 0, _, _, _ => none
  | n + 1, x1, x2, st =>
    if (Int32.ofNat (kLen.getD x1 0)) ≤ x2 then (some ((1 : Int32), st)) else ((fX2_byteAt ((st.1 48 4) + x2) st).bind fun q2 => (if x2 < 0 ∨ kLen.getD x1 0 ≤ x2.toNatClampNeg then none else (if q2.1 = ((kByt.getD x1 []).getD x2.toNatClampNeg 0) then (fX3_isWord_28 n x1 (x2 + (1 : Int32)) q2.2) else (some ((0 : Int32), q2.2)))))
def fX3_isWord (w1 : Nat) (st : kM) : Option (Int32 × kM) :=
  if (st.1 48 3) = (1 : Int32) then (if ((st.1 48 2) - (st.1 48 4)) = (Int32.ofNat (kLen.getD w1 0)) then (fX3_isWord_28 kfu w1 (0 : Int32) st) else (some ((0 : Int32), st))) else (some ((0 : Int32), st))
set_option maxRecDepth 100000 in
theorem tX3_isWord_28 {Z : kZ} (C : kC Z cX3_isWord RX3 3 rmX3_isWord) {res : Int32 × kM} (K : kEnd Z (some .boolean) (some (.int res.1)) res.2) : ∀ (n : Nat) (x1 : Nat) (x2 : Int32) (st : kM), (hx1 : x1 < kSn) → fX3_isWord_28 n x1 x2 st = some res → kV Z 3 28 [(0, kr Z 48), (1, ks Z x1), (2, .int x2)] [] st := by
  intro n
  induction n with
  | zero => intro x1 x2 st hx1 hf; cases hf
  | succ n ih =>
    intro x1 x2 st hx1 hf
    unfold fX3_isWord_28 at hf
    refine k_iload_n C 2 dX3_isWord_28 rfl rfl rfl ?_
    refine k_aload_n C 1 dX3_isWord_29 rfl rfl rfl ?_
    refine k_callT C [] (mJ_length hx1) hx1 kw_3_46 kw_3_47 kw_3_48 kw_1_11 kw_3_49 qJ0_length_8abf5 rfl ⟨by decide, by decide⟩ ⟨rfl, rfl⟩ (Nat.le_of_ble_eq_true rfl) dX3_isWord_30 rfl ?_ rfl
    refine k_icmp_ge C 65 dX3_isWord_33 rfl rfl (fun b1 => ?_) (fun b1 => ?_)
    · replace hf := kf_t hf b1
      refine k_iconst C (1 : Int32) dX3_isWord_65 (by decide) rfl ?_
      exact k_zret C K hf rfl dX3_isWord_66
    · replace hf := kf_f hf b1
      refine k_aload_n C 0 dX3_isWord_36 rfl rfl rfl ?_
      refine g_X3_tape C rfl kw_1_117 dX3_isWord_37 rfl ?_
      refine k_aload_n C 0 dX3_isWord_40 rfl rfl rfl ?_
      refine g_X3_start C rfl kw_1_121 dX3_isWord_41 rfl ?_
      refine k_iload_n C 2 dX3_isWord_44 rfl rfl rfl ?_
      refine k_iadd C dX3_isWord_45 rfl ?_
      obtain ⟨q2, e3, hf⟩ := kf_b hf
      refine k_callV C [.int ((st.1 48 4) + x2)] (mX2_byteAt e3) rfl (by decide) rfl kw_3_22 kw_3_23 kw_3_24 kw_1_4 kw_3_25 qX2_byteAt rfl ⟨by decide, by decide⟩ ⟨rfl, rfl⟩ (Nat.le_of_ble_eq_true rfl) dX3_isWord_46 rfl ?_ rfl
      refine (show kV Z 3 49 [(0, kr Z 48), (1, ks Z x1), (2, .int x2)] [.int q2.1] q2.2 from ?_)
      refine k_aload_n C 1 dX3_isWord_49 rfl rfl rfl ?_
      refine k_iload_n C 2 dX3_isWord_50 rfl rfl rfl ?_
      obtain ⟨g4, hf⟩ := kf_g hf
      refine k_callT C [.int x2] (mJ_charAt hx1 g4) hx1 kw_3_56 kw_3_57 kw_3_58 kw_1_11 kw_3_59 qJ0_charAt_5068e rfl ⟨by decide, by decide⟩ ⟨rfl, rfl⟩ (Nat.le_of_ble_eq_true rfl) dX3_isWord_51 rfl ?_ rfl
      refine k_icmp_eq C 59 dX3_isWord_54 rfl rfl (fun b5 => ?_) (fun b5 => ?_)
      · replace hf := kf_t hf b5
        refine k_iinc (lv' := [(2, .int (x2 + (1 : Int32))), (0, kr Z 48), (1, ks Z x1)]) C (x2 + (1 : Int32)) 2 dX3_isWord_59 rfl rfl (by decide) rfl rfl ?_
        refine k_goto C 28 dX3_isWord_62 rfl ?_
        refine k_lv (lv' := [(0, kr Z 48), (1, ks Z x1), (2, .int (x2 + (1 : Int32)))]) [1, 2, 0] rfl ?_
        exact ih x1 (x2 + (1 : Int32)) q2.2 hx1 hf
      · replace hf := kf_f hf b5
        refine k_iconst C (0 : Int32) dX3_isWord_57 (by decide) rfl ?_
        exact k_zret C K hf rfl dX3_isWord_58
set_option maxRecDepth 100000 in
theorem tX3_isWord {Z : kZ} (C : kC Z cX3_isWord RX3 3 rmX3_isWord) {w1 : Nat} (hw1 : w1 < kSn) {st : kM} {res : Int32 × kM} (hf : fX3_isWord w1 st = some res) (K : kEnd Z (some .boolean) (some (.int res.1)) res.2) : kV Z 3 0 [(0, kr Z 48), (1, ks Z w1)] [] st := by
  unfold fX3_isWord at hf
  refine k_aload_n C 0 dX3_isWord_0 rfl rfl rfl ?_
  refine g_X3_token C rfl kw_1_120 dX3_isWord_1 rfl ?_
  refine k_iconst C (1 : Int32) dX3_isWord_4 (by decide) rfl ?_
  refine k_icmp_ne C 24 dX3_isWord_5 rfl rfl (fun b1 => ?_) (fun b1 => ?_)
  · replace hf := kf_f hf b1
    refine k_iconst C (0 : Int32) dX3_isWord_24 (by decide) rfl ?_
    exact k_zret C K hf rfl dX3_isWord_25
  · replace hf := kf_t hf b1
    refine k_aload_n C 0 dX3_isWord_8 rfl rfl rfl ?_
    refine g_X3_at C rfl kw_1_119 dX3_isWord_9 rfl ?_
    refine k_aload_n C 0 dX3_isWord_12 rfl rfl rfl ?_
    refine g_X3_start C rfl kw_1_121 dX3_isWord_13 rfl ?_
    refine k_isub C dX3_isWord_16 rfl ?_
    refine k_aload_n C 1 dX3_isWord_17 rfl rfl rfl ?_
    refine k_callT C [] (mJ_length hw1) hw1 kw_3_46 kw_3_47 kw_3_48 kw_1_11 kw_3_49 qJ0_length_8abf5 rfl ⟨by decide, by decide⟩ ⟨rfl, rfl⟩ (Nat.le_of_ble_eq_true rfl) dX3_isWord_18 rfl ?_ rfl
    refine k_icmp_eq C 26 dX3_isWord_21 rfl rfl (fun b2 => ?_) (fun b2 => ?_)
    · replace hf := kf_t hf b2
      refine k_iconst C (0 : Int32) dX3_isWord_26 (by decide) rfl ?_
      refine k_istore_n (lv' := [(2, .int (0 : Int32)), (0, kr Z 48), (1, ks Z w1)]) C dX3_isWord_27 rfl (by decide) rfl rfl ?_
      refine k_lv (lv' := [(0, kr Z 48), (1, ks Z w1), (2, .int (0 : Int32))]) [1, 2, 0] rfl ?_
      exact tX3_isWord_28 C K _ w1 (0 : Int32) st hw1 hf
    · replace hf := kf_f hf b2
      refine k_iconst C (0 : Int32) dX3_isWord_24 (by decide) rfl ?_
      exact k_zret C K hf rfl dX3_isWord_25
theorem mX3_isWord {G : kG} {w1 : Nat} (hw1 : w1 < kSn) {st : kM} {res : Int32 × kM} (hf : fX3_isWord w1 st = some res) : kCt G yX3_isWord cX3_isWord 3 (some .boolean) rmX3_isWord [.ref (G.2.1 48), .ref (G.2.2.2.1 w1)] st (some (.int res.1)) res.2 := kMet (by decide) (Nat.le_of_ble_eq_true rfl) ⟨rfl, rfl⟩ (fun X A Q C K => tX3_isWord C hw1 hf K)
theorem qX3_isWord : yX3_isWord.cls = RX3 ∧ yX3_isWord.cls ≠ "java/lang/invoke/MethodHandle" ∧ yX3_isWord.cls ≠ "java/lang/invoke/VarHandle" ∧ (parseMethodDescriptor yX3_isWord.desc).map (fun d => d.parameters.length) = some 1 := ⟨rfl, by decide, by decide, by decide +kernel⟩
-- TalkKnots$TextReader.nameOf(I)Ljava/lang/String;
def rmX3_nameOf : Room := { frames := 0, cells := 0, slots := 0, locals := 0 }
def fX3_nameOf (v0 : Int32) (st : kM) : Option (Nat × kM) :=
  if v0 = (1 : Int32) then (some (4, st)) else (if v0 = (2 : Int32) then (some (5, st)) else (if v0 = (3 : Int32) then (some (6, st)) else (if v0 = (4 : Int32) then (some (7, st)) else (if v0 = (5 : Int32) then (some (8, st)) else (some (9, st))))))
set_option maxRecDepth 100000 in
theorem tX3_nameOf {Z : kZ} (C : kC Z cX3_nameOf RX3 1 rmX3_nameOf) {v0 : Int32}  {st : kM} {res : Nat × kM} (hf : fX3_nameOf v0 st = some res) (K : kEnd Z (some (.object "java/lang/String")) (some (ks Z res.1)) res.2) : kV Z 1 0 [(0, .int v0)] [] st := by
  unfold fX3_nameOf at hf
  refine k_iload_n C 0 dX3_nameOf_0 rfl rfl rfl ?_
  by_cases b1 : v0 = (1 : Int32)
  · replace hf := kf_t hf b1
    refine k_tabIn C 36 dX3_nameOf_1 (by rw [b1]; decide) (by rw [b1]; decide) (by rw [b1]; rfl) rfl ?_
    refine k_ldcS C 4 (by decide) rfl dX3_nameOf_36 rfl ?_
    exact k_sret C K hf dX3_nameOf_38
  · replace hf := kf_f hf b1
    by_cases b2 : v0 = (2 : Int32)
    · replace hf := kf_t hf b2
      refine k_tabIn C 39 dX3_nameOf_1 (by rw [b2]; decide) (by rw [b2]; decide) (by rw [b2]; rfl) rfl ?_
      refine k_ldcS C 5 (by decide) rfl dX3_nameOf_39 rfl ?_
      exact k_sret C K hf dX3_nameOf_41
    · replace hf := kf_f hf b2
      by_cases b3 : v0 = (3 : Int32)
      · replace hf := kf_t hf b3
        refine k_tabIn C 42 dX3_nameOf_1 (by rw [b3]; decide) (by rw [b3]; decide) (by rw [b3]; rfl) rfl ?_
        refine k_ldcS C 6 (by decide) rfl dX3_nameOf_42 rfl ?_
        exact k_sret C K hf dX3_nameOf_44
      · replace hf := kf_f hf b3
        by_cases b4 : v0 = (4 : Int32)
        · replace hf := kf_t hf b4
          refine k_tabIn C 45 dX3_nameOf_1 (by rw [b4]; decide) (by rw [b4]; decide) (by rw [b4]; rfl) rfl ?_
          refine k_ldcS C 7 (by decide) rfl dX3_nameOf_45 rfl ?_
          exact k_sret C K hf dX3_nameOf_47
        · replace hf := kf_f hf b4
          by_cases b5 : v0 = (5 : Int32)
          · replace hf := kf_t hf b5
            refine k_tabIn C 48 dX3_nameOf_1 (by rw [b5]; decide) (by rw [b5]; decide) (by rw [b5]; rfl) rfl ?_
            refine k_ldcS C 8 (by decide) rfl dX3_nameOf_48 rfl ?_
            exact k_sret C K hf dX3_nameOf_50
          · replace hf := kf_f hf b5
            have zb1 := ti_ne (1 : Int32) b1 (z := 1) rfl
            have zb2 := ti_ne (2 : Int32) b2 (z := 2) rfl
            have zb3 := ti_ne (3 : Int32) b3 (z := 3) rfl
            have zb4 := ti_ne (4 : Int32) b4 (z := 4) rfl
            have zb5 := ti_ne (5 : Int32) b5 (z := 5) rfl
            refine k_tabOut C 51 dX3_nameOf_1 (by omega) rfl ?_
            refine k_ldcS C 9 (by decide) rfl dX3_nameOf_51 rfl ?_
            exact k_sret C K hf dX3_nameOf_53
theorem mX3_nameOf {G : kG} {v0 : Int32}  {st : kM} {res : Nat × kM} (hf : fX3_nameOf v0 st = some res) : kCt G yX3_nameOf cX3_nameOf 1 (some (.object "java/lang/String")) rmX3_nameOf [.int v0] st (some (.ref (G.2.2.2.1 res.1))) res.2 := kMet (by decide) (Nat.le_of_ble_eq_true rfl) ⟨rfl, rfl⟩ (fun X A Q C K => tX3_nameOf C  hf K)
theorem qX3_nameOf : yX3_nameOf.cls ≠ "java/lang/invoke/MethodHandle" ∧ yX3_nameOf.cls ≠ "java/lang/invoke/VarHandle" ∧ (parseMethodDescriptor yX3_nameOf.desc).map (fun d => d.parameters.length) = some 1 := ⟨by decide, by decide, by decide +kernel⟩
-- TalkKnots$TextReader.kindTold()I
def rmX3_kindTold : Room := { frames := 5, cells := 0, slots := 0, locals := 107 }
def fX3_kindTold_2 : Nat → Int32 → kM → Option (Int32 × kM)
  | 0, _, _ => none
  | n + 1, x1, st =>
    if (6 : Int32) ≤ x1 then (some ((-1 : Int32), st)) else ((fX3_nameOf x1 st).bind fun q2 => (if q2.1 < kSn then ((fX3_isWord q2.1 q2.2).bind fun q5 => (if q5.1 = 0 then (fX3_kindTold_2 n (x1 + (1 : Int32)) q5.2) else (some (x1, q5.2)))) else none))
def fX3_kindTold (st : kM) : Option (Int32 × kM) :=
  fX3_kindTold_2 kfu (0 : Int32) st
set_option maxRecDepth 100000 in
theorem tX3_kindTold_2 {Z : kZ} (C : kC Z cX3_kindTold RX3 2 rmX3_kindTold) {res : Int32 × kM} (K : kEnd Z (some .int) (some (.int res.1)) res.2) : ∀ (n : Nat) (x1 : Int32) (st : kM), fX3_kindTold_2 n x1 st = some res → kV Z 2 2 [(0, kr Z 48), (1, .int x1)] [] st := by
  intro n
  induction n with
  | zero => intro x1 st hf; cases hf
  | succ n ih =>
    intro x1 st hf
    unfold fX3_kindTold_2 at hf
    refine k_iload_n C 1 dX3_kindTold_2 rfl rfl rfl ?_
    refine k_bipush C (6 : Int32) dX3_kindTold_3 (by decide) rfl ?_
    refine k_icmp_ge C 27 dX3_kindTold_5 rfl rfl (fun b1 => ?_) (fun b1 => ?_)
    · replace hf := kf_t hf b1
      refine k_iconst C (-1 : Int32) dX3_kindTold_27 (by decide) rfl ?_
      exact k_iret C K hf dX3_kindTold_28
    · replace hf := kf_f hf b1
      refine k_aload_n C 0 dX3_kindTold_8 rfl rfl rfl ?_
      refine k_iload_n C 1 dX3_kindTold_9 rfl rfl rfl ?_
      obtain ⟨q2, e3, hf⟩ := kf_b hf
      refine k_callS C [.int x1] (mX3_nameOf e3) kw_3_123 kw_3_124 kw_1_5 kw_3_125 qX3_nameOf rfl ⟨by decide, by decide⟩ ⟨rfl, rfl⟩ (Nat.le_of_ble_eq_true rfl) dX3_kindTold_10 rfl ?_ rfl
      obtain ⟨g4, hf⟩ := kf_y hf
      refine (show kV Z 2 13 [(0, kr Z 48), (1, .int x1)] [ks Z q2.1, kr Z 48] q2.2 from ?_)
      obtain ⟨q5, e6, hf⟩ := kf_b hf
      refine k_callV C [ks Z q2.1] (mX3_isWord g4 e6) rfl (by decide) rfl kw_3_42 kw_3_44 kw_0_13 kw_1_5 kw_3_45 qX3_isWord rfl ⟨by decide, by decide⟩ ⟨rfl, rfl⟩ (Nat.le_of_ble_eq_true rfl) dX3_kindTold_13 rfl ?_ rfl
      refine (show kV Z 2 16 [(0, kr Z 48), (1, .int x1)] [.int q5.1] q5.2 from ?_)
      refine k_if_eq C 21 dX3_kindTold_16 rfl rfl (fun b7 => ?_) (fun b7 => ?_)
      · replace hf := kf_t hf b7
        refine k_iinc (lv' := [(1, .int (x1 + (1 : Int32))), (0, kr Z 48)]) C (x1 + (1 : Int32)) 1 dX3_kindTold_21 rfl rfl (by decide) rfl rfl ?_
        refine k_goto C 2 dX3_kindTold_24 rfl ?_
        refine k_lv (lv' := [(0, kr Z 48), (1, .int (x1 + (1 : Int32)))]) [1, 0] rfl ?_
        exact ih (x1 + (1 : Int32)) q5.2  hf
      · replace hf := kf_f hf b7
        refine k_iload_n C 1 dX3_kindTold_19 rfl rfl rfl ?_
        exact k_iret C K hf dX3_kindTold_20
set_option maxRecDepth 100000 in
theorem tX3_kindTold {Z : kZ} (C : kC Z cX3_kindTold RX3 2 rmX3_kindTold)   {st : kM} {res : Int32 × kM} (hf : fX3_kindTold st = some res) (K : kEnd Z (some .int) (some (.int res.1)) res.2) : kV Z 2 0 [(0, kr Z 48)] [] st := by
  unfold fX3_kindTold at hf
  refine k_iconst C (0 : Int32) dX3_kindTold_0 (by decide) rfl ?_
  refine k_istore_n (lv' := [(1, .int (0 : Int32)), (0, kr Z 48)]) C dX3_kindTold_1 rfl (by decide) rfl rfl ?_
  refine k_lv (lv' := [(0, kr Z 48), (1, .int (0 : Int32))]) [1, 0] rfl ?_
  exact tX3_kindTold_2 C K _ (0 : Int32) st hf
theorem mX3_kindTold {G : kG}   {st : kM} {res : Int32 × kM} (hf : fX3_kindTold st = some res) : kCt G yX3_kindTold cX3_kindTold 2 (some .int) rmX3_kindTold [.ref (G.2.1 48)] st (some (.int res.1)) res.2 := kMet (by decide) (Nat.le_of_ble_eq_true rfl) ⟨rfl, rfl⟩ (fun X A Q C K => tX3_kindTold C  hf K)
theorem qX3_kindTold : yX3_kindTold.cls = RX3 ∧ yX3_kindTold.cls ≠ "java/lang/invoke/MethodHandle" ∧ yX3_kindTold.cls ≠ "java/lang/invoke/VarHandle" ∧ (parseMethodDescriptor yX3_kindTold.desc).map (fun d => d.parameters.length) = some 0 := ⟨rfl, by decide, by decide, by decide +kernel⟩
-- TalkKnots$TextReader.isDigit(I)Z
def rmX3_isDigit : Room := { frames := 0, cells := 0, slots := 0, locals := 0 }
def fX3_isDigit (v0 : Int32) (st : kM) : Option (Int32 × kM) :=
  if v0 < (48 : Int32) then (some ((0 : Int32), st)) else (if (57 : Int32) < v0 then (some ((0 : Int32), st)) else (some ((1 : Int32), st)))
set_option maxRecDepth 100000 in
theorem tX3_isDigit {Z : kZ} (C : kC Z cX3_isDigit RX3 1 rmX3_isDigit) {v0 : Int32}  {st : kM} {res : Int32 × kM} (hf : fX3_isDigit v0 st = some res) (K : kEnd Z (some .boolean) (some (.int res.1)) res.2) : kV Z 1 0 [(0, .int v0)] [] st := by
  unfold fX3_isDigit at hf
  refine k_iload_n C 0 dX3_isDigit_0 rfl rfl rfl ?_
  refine k_bipush C (48 : Int32) dX3_isDigit_1 (by decide) rfl ?_
  refine k_icmp_lt C 16 dX3_isDigit_3 rfl rfl (fun b1 => ?_) (fun b1 => ?_)
  · replace hf := kf_t hf b1
    refine k_iconst C (0 : Int32) dX3_isDigit_16 (by decide) rfl ?_
    exact k_zret C K hf rfl dX3_isDigit_17
  · replace hf := kf_f hf b1
    refine k_iload_n C 0 dX3_isDigit_6 rfl rfl rfl ?_
    refine k_bipush C (57 : Int32) dX3_isDigit_7 (by decide) rfl ?_
    refine k_icmp_gt C 16 dX3_isDigit_9 rfl rfl (fun b2 => ?_) (fun b2 => ?_)
    · replace hf := kf_t hf b2
      refine k_iconst C (0 : Int32) dX3_isDigit_16 (by decide) rfl ?_
      exact k_zret C K hf rfl dX3_isDigit_17
    · replace hf := kf_f hf b2
      refine k_iconst C (1 : Int32) dX3_isDigit_12 (by decide) rfl ?_
      refine k_goto C 17 dX3_isDigit_13 rfl ?_
      exact k_zret C K hf rfl dX3_isDigit_17
theorem mX3_isDigit {G : kG} {v0 : Int32}  {st : kM} {res : Int32 × kM} (hf : fX3_isDigit v0 st = some res) : kCt G yX3_isDigit cX3_isDigit 1 (some .boolean) rmX3_isDigit [.int v0] st (some (.int res.1)) res.2 := kMet (by decide) (Nat.le_of_ble_eq_true rfl) ⟨rfl, rfl⟩ (fun X A Q C K => tX3_isDigit C  hf K)
theorem qX3_isDigit : yX3_isDigit.cls ≠ "java/lang/invoke/MethodHandle" ∧ yX3_isDigit.cls ≠ "java/lang/invoke/VarHandle" ∧ (parseMethodDescriptor yX3_isDigit.desc).map (fun d => d.parameters.length) = some 1 := ⟨by decide, by decide, by decide +kernel⟩
-- TalkKnots$TextReader.isLetter(I)Z
def rmX3_isLetter : Room := { frames := 0, cells := 0, slots := 0, locals := 0 }
def fX3_isLetter (v0 : Int32) (st : kM) : Option (Int32 × kM) :=
  if v0 < (97 : Int32) then (some ((0 : Int32), st)) else (if (122 : Int32) < v0 then (some ((0 : Int32), st)) else (some ((1 : Int32), st)))
set_option maxRecDepth 100000 in
theorem tX3_isLetter {Z : kZ} (C : kC Z cX3_isLetter RX3 1 rmX3_isLetter) {v0 : Int32}  {st : kM} {res : Int32 × kM} (hf : fX3_isLetter v0 st = some res) (K : kEnd Z (some .boolean) (some (.int res.1)) res.2) : kV Z 1 0 [(0, .int v0)] [] st := by
  unfold fX3_isLetter at hf
  refine k_iload_n C 0 dX3_isLetter_0 rfl rfl rfl ?_
  refine k_bipush C (97 : Int32) dX3_isLetter_1 (by decide) rfl ?_
  refine k_icmp_lt C 16 dX3_isLetter_3 rfl rfl (fun b1 => ?_) (fun b1 => ?_)
  · replace hf := kf_t hf b1
    refine k_iconst C (0 : Int32) dX3_isLetter_16 (by decide) rfl ?_
    exact k_zret C K hf rfl dX3_isLetter_17
  · replace hf := kf_f hf b1
    refine k_iload_n C 0 dX3_isLetter_6 rfl rfl rfl ?_
    refine k_bipush C (122 : Int32) dX3_isLetter_7 (by decide) rfl ?_
    refine k_icmp_gt C 16 dX3_isLetter_9 rfl rfl (fun b2 => ?_) (fun b2 => ?_)
    · replace hf := kf_t hf b2
      refine k_iconst C (0 : Int32) dX3_isLetter_16 (by decide) rfl ?_
      exact k_zret C K hf rfl dX3_isLetter_17
    · replace hf := kf_f hf b2
      refine k_iconst C (1 : Int32) dX3_isLetter_12 (by decide) rfl ?_
      refine k_goto C 17 dX3_isLetter_13 rfl ?_
      exact k_zret C K hf rfl dX3_isLetter_17
theorem mX3_isLetter {G : kG} {v0 : Int32}  {st : kM} {res : Int32 × kM} (hf : fX3_isLetter v0 st = some res) : kCt G yX3_isLetter cX3_isLetter 1 (some .boolean) rmX3_isLetter [.int v0] st (some (.int res.1)) res.2 := kMet (by decide) (Nat.le_of_ble_eq_true rfl) ⟨rfl, rfl⟩ (fun X A Q C K => tX3_isLetter C  hf K)
theorem qX3_isLetter : yX3_isLetter.cls ≠ "java/lang/invoke/MethodHandle" ∧ yX3_isLetter.cls ≠ "java/lang/invoke/VarHandle" ∧ (parseMethodDescriptor yX3_isLetter.desc).map (fun d => d.parameters.length) = some 1 := ⟨by decide, by decide, by decide +kernel⟩
-- TalkKnots$TextReader.readToken()V
def rmX3_readToken : Room := { frames := 1, cells := 0, slots := 0, locals := 21 }
def fX3_readToken_136 : Nat → kM → Option (kM)
  | 0, _ => none
  | n + 1, st =>
    if (st.1 46 1) ≤ (st.1 48 2) then (some st) else ((fX2_byteAt (st.1 48 2) st).bind fun q2 => ((fX3_isDigit q2.1 q2.2).bind fun q4 => (if q4.1 = 0 then (some q4.2) else ((fX2_byteAt (q4.2.1 48 2) q4.2).bind fun q7 => ((some (kwr q7.2 48 5 (if ((((10 : Int32) * (q4.2.1 48 5)) + q7.1) - (48 : Int32)) < (1000 : Int32) then ((((10 : Int32) * (q4.2.1 48 5)) + q7.1) - (48 : Int32)) else (1000 : Int32)))).bind fun s9 => ((some (kwr s9 48 2 ((s9.1 48 2) + (1 : Int32)))).bind fun s11 => (fX3_readToken_136 n s11)))))))
def fX3_readToken_75 : Nat → kM → Option (kM)
  | 0, _ => none
  | n + 1, st =>
    if (st.1 46 1) ≤ (st.1 48 2) then (some st) else ((fX2_byteAt (st.1 48 2) st).bind fun q2 => ((fX3_isLetter q2.1 q2.2).bind fun q4 => (if q4.1 = 0 then (some q4.2) else ((some (kwr q4.2 48 2 ((q4.2.1 48 2) + (1 : Int32)))).bind fun s7 => (fX3_readToken_75 n s7)))))
def fX3_readToken_43 (st : kM) : Option (kM) :=
  (some (kwr st 48 4 (st.1 48 2))).bind fun s1 => ((fX2_byteAt (s1.1 48 2) s1).bind fun q3 => ((fX3_isLetter q3.1 q3.2).bind fun q5 => (if q5.1 = 0 then ((fX3_isDigit q3.1 q5.2).bind fun q8 => (if q8.1 = 0 then (if 0 ≤ q3.1 then (if q3.1 = (59 : Int32) then ((some (kwr q8.2 48 3 (3 : Int32))).bind fun s17 => ((some (kwr s17 48 2 ((s17.1 48 2) + (1 : Int32)))).bind fun s19 => (some s19))) else ((some (kwr q8.2 48 3 (4 : Int32))).bind fun s13 => ((some (kwr s13 48 2 ((s13.1 48 2) + (1 : Int32)))).bind fun s15 => (some s15)))) else ((some (kwr q8.2 48 3 (0 : Int32))).bind fun s21 => (some s21))) else ((some (kwr q8.2 48 3 (2 : Int32))).bind fun s23 => ((some (kwr s23 48 5 (0 : Int32))).bind fun s25 => (fX3_readToken_136 kfu s25))))) else ((some (kwr q5.2 48 3 (1 : Int32))).bind fun s27 => (fX3_readToken_75 kfu s27)))))
def fX3_readToken_0 : Nat → kM → Option (kM)
  | 0, _ => none
  | n + 1, st =>
    if (st.1 46 1) ≤ (st.1 48 2) then (fX3_readToken_43 st) else ((fX2_byteAt (st.1 48 2) st).bind fun q2 => (if q2.1 = (32 : Int32) then ((some (kwr q2.2 48 2 ((q2.2.1 48 2) + (1 : Int32)))).bind fun s5 => (fX3_readToken_0 n s5)) else (fX3_readToken_43 q2.2)))
def fX3_readToken (st : kM) : Option (kM) :=
  fX3_readToken_0 kfu st
set_option maxRecDepth 100000 in
theorem tX3_readToken_136 {Z : kZ} (C : kC Z cX3_readToken RX3 2 rmX3_readToken) {res : kM} (K : kEnd Z none none res) : ∀ (n : Nat) (st : kM), fX3_readToken_136 n st = some res → kV Z 2 136 [(0, kr Z 48)] [] st := by
  intro n
  induction n with
  | zero => intro st hf; cases hf
  | succ n ih =>
    intro st hf
    unfold fX3_readToken_136 at hf
    refine k_aload_n C 0 dX3_readToken_136 rfl rfl rfl ?_
    refine g_X3_at C rfl kw_1_119 dX3_readToken_137 rfl ?_
    refine k_aload_n C 0 dX3_readToken_140 rfl rfl rfl ?_
    refine g_X3_tape C rfl kw_1_117 dX3_readToken_141 rfl ?_
    refine g_X2_length C rfl kw_1_104 dX3_readToken_144 rfl ?_
    refine k_icmp_ge C 249 dX3_readToken_147 rfl rfl (fun b1 => ?_) (fun b1 => ?_)
    · replace hf := kf_t hf b1
      exact k_vret C K hf dX3_readToken_249
    · replace hf := kf_f hf b1
      refine k_aload_n C 0 dX3_readToken_150 rfl rfl rfl ?_
      refine g_X3_tape C rfl kw_1_117 dX3_readToken_151 rfl ?_
      refine k_aload_n C 0 dX3_readToken_154 rfl rfl rfl ?_
      refine g_X3_at C rfl kw_1_119 dX3_readToken_155 rfl ?_
      obtain ⟨q2, e3, hf⟩ := kf_b hf
      refine k_callV C [.int (st.1 48 2)] (mX2_byteAt e3) rfl (by decide) rfl kw_3_22 kw_3_23 kw_3_24 kw_1_4 kw_3_25 qX2_byteAt rfl ⟨by decide, by decide⟩ ⟨rfl, rfl⟩ (Nat.le_of_ble_eq_true rfl) dX3_readToken_158 rfl ?_ rfl
      refine (show kV Z 2 161 [(0, kr Z 48)] [.int q2.1] q2.2 from ?_)
      obtain ⟨q4, e5, hf⟩ := kf_b hf
      refine k_callS C [.int q2.1] (mX3_isDigit e5) kw_3_29 kw_3_30 kw_1_5 kw_3_31 qX3_isDigit rfl ⟨by decide, by decide⟩ ⟨rfl, rfl⟩ (Nat.le_of_ble_eq_true rfl) dX3_readToken_161 rfl ?_ rfl
      refine (show kV Z 2 164 [(0, kr Z 48)] [.int q4.1] q4.2 from ?_)
      refine k_if_eq C 249 dX3_readToken_164 rfl rfl (fun b6 => ?_) (fun b6 => ?_)
      · replace hf := kf_t hf b6
        exact k_vret C K hf dX3_readToken_249
      · replace hf := kf_f hf b6
        refine k_aload_n C 0 dX3_readToken_167 rfl rfl rfl ?_
        refine k_sipush C (1000 : Int32) dX3_readToken_168 (by decide) rfl ?_
        refine k_bipush C (10 : Int32) dX3_readToken_171 (by decide) rfl ?_
        refine k_aload_n C 0 dX3_readToken_173 rfl rfl rfl ?_
        refine g_X3_value C rfl kw_1_122 dX3_readToken_174 rfl ?_
        refine k_imul C dX3_readToken_177 rfl ?_
        refine k_aload_n C 0 dX3_readToken_178 rfl rfl rfl ?_
        refine g_X3_tape C rfl kw_1_117 dX3_readToken_179 rfl ?_
        refine k_aload_n C 0 dX3_readToken_182 rfl rfl rfl ?_
        refine g_X3_at C rfl kw_1_119 dX3_readToken_183 rfl ?_
        obtain ⟨q7, e8, hf⟩ := kf_b hf
        refine k_callV C [.int (q4.2.1 48 2)] (mX2_byteAt e8) rfl (by decide) rfl kw_3_22 kw_3_23 kw_3_24 kw_1_4 kw_3_25 qX2_byteAt rfl ⟨by decide, by decide⟩ ⟨rfl, rfl⟩ (Nat.le_of_ble_eq_true rfl) dX3_readToken_186 rfl ?_ rfl
        refine (show kV Z 2 189 [(0, kr Z 48)] [.int q7.1, .int ((10 : Int32) * (q4.2.1 48 5)), .int (1000 : Int32), kr Z 48] q7.2 from ?_)
        refine k_iadd C dX3_readToken_189 rfl ?_
        refine k_bipush C (48 : Int32) dX3_readToken_190 (by decide) rfl ?_
        refine k_isub C dX3_readToken_192 rfl ?_
        refine k_mmin C kw_3_32 kw_2_117 kw_1_8 kw_2_118 ⟨by decide, by decide⟩ (Nat.le_of_ble_eq_true rfl) dX3_readToken_193 rfl ?_
        refine p_X3_value C rfl kw_1_122 dX3_readToken_196 rfl ?_
        obtain ⟨s9, e10, hf⟩ := kf_b hf
        refine k_st e10 ?_
        refine k_aload_n C 0 dX3_readToken_199 rfl rfl rfl ?_
        refine k_dup C rfl dX3_readToken_200 rfl ?_
        refine g_X3_at C rfl kw_1_119 dX3_readToken_201 rfl ?_
        refine k_iconst C (1 : Int32) dX3_readToken_204 (by decide) rfl ?_
        refine k_iadd C dX3_readToken_205 rfl ?_
        refine p_X3_at C rfl kw_1_119 dX3_readToken_206 rfl ?_
        obtain ⟨s11, e12, hf⟩ := kf_b hf
        refine k_st e12 ?_
        refine k_goto C 136 dX3_readToken_209 rfl ?_
        exact ih s11  hf
set_option maxRecDepth 100000 in
theorem tX3_readToken_75 {Z : kZ} (C : kC Z cX3_readToken RX3 2 rmX3_readToken) {res : kM} (K : kEnd Z none none res) : ∀ (n : Nat) (st : kM), fX3_readToken_75 n st = some res → kV Z 2 75 [(0, kr Z 48)] [] st := by
  intro n
  induction n with
  | zero => intro st hf; cases hf
  | succ n ih =>
    intro st hf
    unfold fX3_readToken_75 at hf
    refine k_aload_n C 0 dX3_readToken_75 rfl rfl rfl ?_
    refine g_X3_at C rfl kw_1_119 dX3_readToken_76 rfl ?_
    refine k_aload_n C 0 dX3_readToken_79 rfl rfl rfl ?_
    refine g_X3_tape C rfl kw_1_117 dX3_readToken_80 rfl ?_
    refine g_X2_length C rfl kw_1_104 dX3_readToken_83 rfl ?_
    refine k_icmp_ge C 249 dX3_readToken_86 rfl rfl (fun b1 => ?_) (fun b1 => ?_)
    · replace hf := kf_t hf b1
      exact k_vret C K hf dX3_readToken_249
    · replace hf := kf_f hf b1
      refine k_aload_n C 0 dX3_readToken_89 rfl rfl rfl ?_
      refine g_X3_tape C rfl kw_1_117 dX3_readToken_90 rfl ?_
      refine k_aload_n C 0 dX3_readToken_93 rfl rfl rfl ?_
      refine g_X3_at C rfl kw_1_119 dX3_readToken_94 rfl ?_
      obtain ⟨q2, e3, hf⟩ := kf_b hf
      refine k_callV C [.int (st.1 48 2)] (mX2_byteAt e3) rfl (by decide) rfl kw_3_22 kw_3_23 kw_3_24 kw_1_4 kw_3_25 qX2_byteAt rfl ⟨by decide, by decide⟩ ⟨rfl, rfl⟩ (Nat.le_of_ble_eq_true rfl) dX3_readToken_97 rfl ?_ rfl
      refine (show kV Z 2 100 [(0, kr Z 48)] [.int q2.1] q2.2 from ?_)
      obtain ⟨q4, e5, hf⟩ := kf_b hf
      refine k_callS C [.int q2.1] (mX3_isLetter e5) kw_3_26 kw_3_27 kw_1_5 kw_3_28 qX3_isLetter rfl ⟨by decide, by decide⟩ ⟨rfl, rfl⟩ (Nat.le_of_ble_eq_true rfl) dX3_readToken_100 rfl ?_ rfl
      refine (show kV Z 2 103 [(0, kr Z 48)] [.int q4.1] q4.2 from ?_)
      refine k_if_eq C 249 dX3_readToken_103 rfl rfl (fun b6 => ?_) (fun b6 => ?_)
      · replace hf := kf_t hf b6
        exact k_vret C K hf dX3_readToken_249
      · replace hf := kf_f hf b6
        refine k_aload_n C 0 dX3_readToken_106 rfl rfl rfl ?_
        refine k_dup C rfl dX3_readToken_107 rfl ?_
        refine g_X3_at C rfl kw_1_119 dX3_readToken_108 rfl ?_
        refine k_iconst C (1 : Int32) dX3_readToken_111 (by decide) rfl ?_
        refine k_iadd C dX3_readToken_112 rfl ?_
        refine p_X3_at C rfl kw_1_119 dX3_readToken_113 rfl ?_
        obtain ⟨s7, e8, hf⟩ := kf_b hf
        refine k_st e8 ?_
        refine k_goto C 75 dX3_readToken_116 rfl ?_
        exact ih s7  hf
set_option maxRecDepth 100000 in
theorem tX3_readToken_43 {Z : kZ} (C : kC Z cX3_readToken RX3 2 rmX3_readToken) {res : kM} (K : kEnd Z none none res) : ∀ (st : kM), fX3_readToken_43 st = some res → kV Z 2 43 [(0, kr Z 48)] [] st := by
  intro st hf
  unfold fX3_readToken_43 at hf
  refine k_aload_n C 0 dX3_readToken_43 rfl rfl rfl ?_
  refine k_aload_n C 0 dX3_readToken_44 rfl rfl rfl ?_
  refine g_X3_at C rfl kw_1_119 dX3_readToken_45 rfl ?_
  refine p_X3_start C rfl kw_1_121 dX3_readToken_48 rfl ?_
  obtain ⟨s1, e2, hf⟩ := kf_b hf
  refine k_st e2 ?_
  refine k_aload_n C 0 dX3_readToken_51 rfl rfl rfl ?_
  refine g_X3_tape C rfl kw_1_117 dX3_readToken_52 rfl ?_
  refine k_aload_n C 0 dX3_readToken_55 rfl rfl rfl ?_
  refine g_X3_at C rfl kw_1_119 dX3_readToken_56 rfl ?_
  obtain ⟨q3, e4, hf⟩ := kf_b hf
  refine k_callV C [.int (s1.1 48 2)] (mX2_byteAt e4) rfl (by decide) rfl kw_3_22 kw_3_23 kw_3_24 kw_1_4 kw_3_25 qX2_byteAt rfl ⟨by decide, by decide⟩ ⟨rfl, rfl⟩ (Nat.le_of_ble_eq_true rfl) dX3_readToken_59 rfl ?_ rfl
  refine (show kV Z 2 62 [(0, kr Z 48)] [.int q3.1] q3.2 from ?_)
  refine k_istore_n (lv' := [(1, .int q3.1), (0, kr Z 48)]) C dX3_readToken_62 rfl (by decide) rfl rfl ?_
  refine k_iload_n C 0 dX3_readToken_63 rfl rfl rfl ?_
  obtain ⟨q5, e6, hf⟩ := kf_b hf
  refine k_callS C [.int q3.1] (mX3_isLetter e6) kw_3_26 kw_3_27 kw_1_5 kw_3_28 qX3_isLetter rfl ⟨by decide, by decide⟩ ⟨rfl, rfl⟩ (Nat.le_of_ble_eq_true rfl) dX3_readToken_64 rfl ?_ rfl
  refine (show kV Z 2 67 [(1, .int q3.1), (0, kr Z 48)] [.int q5.1] q5.2 from ?_)
  refine k_if_eq C 119 dX3_readToken_67 rfl rfl (fun b7 => ?_) (fun b7 => ?_)
  · replace hf := kf_t hf b7
    refine k_iload_n C 0 dX3_readToken_119 rfl rfl rfl ?_
    obtain ⟨q8, e9, hf⟩ := kf_b hf
    refine k_callS C [.int q3.1] (mX3_isDigit e9) kw_3_29 kw_3_30 kw_1_5 kw_3_31 qX3_isDigit rfl ⟨by decide, by decide⟩ ⟨rfl, rfl⟩ (Nat.le_of_ble_eq_true rfl) dX3_readToken_120 rfl ?_ rfl
    refine (show kV Z 2 123 [(1, .int q3.1), (0, kr Z 48)] [.int q8.1] q8.2 from ?_)
    refine k_if_eq C 212 dX3_readToken_123 rfl rfl (fun b10 => ?_) (fun b10 => ?_)
    · replace hf := kf_t hf b10
      refine k_iload_n C 0 dX3_readToken_212 rfl rfl rfl ?_
      refine k_if_ge C 224 dX3_readToken_213 rfl rfl (fun b11 => ?_) (fun b11 => ?_)
      · replace hf := kf_t hf b11
        refine k_aload_n C 1 dX3_readToken_224 rfl rfl rfl ?_
        refine k_iload_n C 0 dX3_readToken_225 rfl rfl rfl ?_
        refine k_bipush C (59 : Int32) dX3_readToken_226 (by decide) rfl ?_
        refine k_icmp_ne C 235 dX3_readToken_228 rfl rfl (fun b12 => ?_) (fun b12 => ?_)
        · replace hf := kf_f hf b12
          refine k_iconst C (4 : Int32) dX3_readToken_235 (by decide) rfl ?_
          refine p_X3_token C rfl kw_1_120 dX3_readToken_236 rfl ?_
          obtain ⟨s13, e14, hf⟩ := kf_b hf
          refine k_st e14 ?_
          refine k_aload_n C 1 dX3_readToken_239 rfl rfl rfl ?_
          refine k_dup C rfl dX3_readToken_240 rfl ?_
          refine g_X3_at C rfl kw_1_119 dX3_readToken_241 rfl ?_
          refine k_iconst C (1 : Int32) dX3_readToken_244 (by decide) rfl ?_
          refine k_iadd C dX3_readToken_245 rfl ?_
          refine p_X3_at C rfl kw_1_119 dX3_readToken_246 rfl ?_
          obtain ⟨s15, e16, hf⟩ := kf_b hf
          refine k_st e16 ?_
          exact k_vret C K hf dX3_readToken_249
        · replace hf := kf_t hf b12
          refine k_iconst C (3 : Int32) dX3_readToken_231 (by decide) rfl ?_
          refine k_goto C 236 dX3_readToken_232 rfl ?_
          refine p_X3_token C rfl kw_1_120 dX3_readToken_236 rfl ?_
          obtain ⟨s17, e18, hf⟩ := kf_b hf
          refine k_st e18 ?_
          refine k_aload_n C 1 dX3_readToken_239 rfl rfl rfl ?_
          refine k_dup C rfl dX3_readToken_240 rfl ?_
          refine g_X3_at C rfl kw_1_119 dX3_readToken_241 rfl ?_
          refine k_iconst C (1 : Int32) dX3_readToken_244 (by decide) rfl ?_
          refine k_iadd C dX3_readToken_245 rfl ?_
          refine p_X3_at C rfl kw_1_119 dX3_readToken_246 rfl ?_
          obtain ⟨s19, e20, hf⟩ := kf_b hf
          refine k_st e20 ?_
          exact k_vret C K hf dX3_readToken_249
      · replace hf := kf_f hf b11
        refine k_aload_n C 1 dX3_readToken_216 rfl rfl rfl ?_
        refine k_iconst C (0 : Int32) dX3_readToken_217 (by decide) rfl ?_
        refine p_X3_token C rfl kw_1_120 dX3_readToken_218 rfl ?_
        obtain ⟨s21, e22, hf⟩ := kf_b hf
        refine k_st e22 ?_
        refine k_goto C 249 dX3_readToken_221 rfl ?_
        exact k_vret C K hf dX3_readToken_249
    · replace hf := kf_f hf b10
      refine k_aload_n C 1 dX3_readToken_126 rfl rfl rfl ?_
      refine k_iconst C (2 : Int32) dX3_readToken_127 (by decide) rfl ?_
      refine p_X3_token C rfl kw_1_120 dX3_readToken_128 rfl ?_
      obtain ⟨s23, e24, hf⟩ := kf_b hf
      refine k_st e24 ?_
      refine k_aload_n C 1 dX3_readToken_131 rfl rfl rfl ?_
      refine k_iconst C (0 : Int32) dX3_readToken_132 (by decide) rfl ?_
      refine p_X3_value C rfl kw_1_122 dX3_readToken_133 rfl ?_
      obtain ⟨s25, e26, hf⟩ := kf_b hf
      refine k_st e26 ?_
      refine k_lv (lv' := [(0, kr Z 48)]) [1] rfl ?_
      exact tX3_readToken_136 C K _ s25 hf
  · replace hf := kf_f hf b7
    refine k_aload_n C 1 dX3_readToken_70 rfl rfl rfl ?_
    refine k_iconst C (1 : Int32) dX3_readToken_71 (by decide) rfl ?_
    refine p_X3_token C rfl kw_1_120 dX3_readToken_72 rfl ?_
    obtain ⟨s27, e28, hf⟩ := kf_b hf
    refine k_st e28 ?_
    refine k_lv (lv' := [(0, kr Z 48)]) [1] rfl ?_
    exact tX3_readToken_75 C K _ s27 hf
set_option maxRecDepth 100000 in
theorem tX3_readToken_0 {Z : kZ} (C : kC Z cX3_readToken RX3 2 rmX3_readToken) {res : kM} (K : kEnd Z none none res) : ∀ (n : Nat) (st : kM), fX3_readToken_0 n st = some res → kV Z 2 0 [(0, kr Z 48)] [] st := by
  intro n
  induction n with
  | zero => intro st hf; cases hf
  | succ n ih =>
    intro st hf
    unfold fX3_readToken_0 at hf
    refine k_aload_n C 0 dX3_readToken_0 rfl rfl rfl ?_
    refine g_X3_at C rfl kw_1_119 dX3_readToken_1 rfl ?_
    refine k_aload_n C 0 dX3_readToken_4 rfl rfl rfl ?_
    refine g_X3_tape C rfl kw_1_117 dX3_readToken_5 rfl ?_
    refine g_X2_length C rfl kw_1_104 dX3_readToken_8 rfl ?_
    refine k_icmp_ge C 43 dX3_readToken_11 rfl rfl (fun b1 => ?_) (fun b1 => ?_)
    · replace hf := kf_t hf b1
      exact tX3_readToken_43 C K st hf
    · replace hf := kf_f hf b1
      refine k_aload_n C 0 dX3_readToken_14 rfl rfl rfl ?_
      refine g_X3_tape C rfl kw_1_117 dX3_readToken_15 rfl ?_
      refine k_aload_n C 0 dX3_readToken_18 rfl rfl rfl ?_
      refine g_X3_at C rfl kw_1_119 dX3_readToken_19 rfl ?_
      obtain ⟨q2, e3, hf⟩ := kf_b hf
      refine k_callV C [.int (st.1 48 2)] (mX2_byteAt e3) rfl (by decide) rfl kw_3_22 kw_3_23 kw_3_24 kw_1_4 kw_3_25 qX2_byteAt rfl ⟨by decide, by decide⟩ ⟨rfl, rfl⟩ (Nat.le_of_ble_eq_true rfl) dX3_readToken_22 rfl ?_ rfl
      refine (show kV Z 2 25 [(0, kr Z 48)] [.int q2.1] q2.2 from ?_)
      refine k_bipush C (32 : Int32) dX3_readToken_25 (by decide) rfl ?_
      refine k_icmp_ne C 43 dX3_readToken_27 rfl rfl (fun b4 => ?_) (fun b4 => ?_)
      · replace hf := kf_f hf b4
        exact tX3_readToken_43 C K q2.2 hf
      · replace hf := kf_t hf b4
        refine k_aload_n C 0 dX3_readToken_30 rfl rfl rfl ?_
        refine k_dup C rfl dX3_readToken_31 rfl ?_
        refine g_X3_at C rfl kw_1_119 dX3_readToken_32 rfl ?_
        refine k_iconst C (1 : Int32) dX3_readToken_35 (by decide) rfl ?_
        refine k_iadd C dX3_readToken_36 rfl ?_
        refine p_X3_at C rfl kw_1_119 dX3_readToken_37 rfl ?_
        obtain ⟨s5, e6, hf⟩ := kf_b hf
        refine k_st e6 ?_
        refine k_goto C 0 dX3_readToken_40 rfl ?_
        exact ih s5  hf
set_option maxRecDepth 100000 in
theorem tX3_readToken {Z : kZ} (C : kC Z cX3_readToken RX3 2 rmX3_readToken)   {st : kM} {res : kM} (hf : fX3_readToken st = some res) (K : kEnd Z none none res) : kV Z 2 0 [(0, kr Z 48)] [] st := by
  unfold fX3_readToken at hf
  exact tX3_readToken_0 C K _ st hf
theorem mX3_readToken {G : kG}   {st : kM} {res : kM} (hf : fX3_readToken st = some res) : kCt G yX3_readToken cX3_readToken 2 none rmX3_readToken [.ref (G.2.1 48)] st none res := kMet (by decide) (Nat.le_of_ble_eq_true rfl) ⟨rfl, rfl⟩ (fun X A Q C K => tX3_readToken C  hf K)
theorem qX3_readToken : yX3_readToken.cls = RX3 ∧ yX3_readToken.cls ≠ "java/lang/invoke/MethodHandle" ∧ yX3_readToken.cls ≠ "java/lang/invoke/VarHandle" ∧ (parseMethodDescriptor yX3_readToken.desc).map (fun d => d.parameters.length) = some 0 := ⟨rfl, by decide, by decide, by decide +kernel⟩
-- TalkKnots$TextReader.takeNumber(I)Z
def rmX3_takeNumber : Room := { frames := 2, cells := 0, slots := 0, locals := 42 }
def fX3_takeNumber (v1 : Int32) (st : kM) : Option (Int32 × kM) :=
  if (st.1 48 3) = (2 : Int32) then (if (st.1 48 5) ≤ v1 then ((some (kwr st 48 6 (st.1 48 5))).bind fun s3 => ((fX3_readToken s3).bind fun s5 => (some ((1 : Int32), s5)))) else (some ((0 : Int32), st))) else (some ((0 : Int32), st))
set_option maxRecDepth 100000 in
theorem tX3_takeNumber {Z : kZ} (C : kC Z cX3_takeNumber RX3 2 rmX3_takeNumber) {v1 : Int32}  {st : kM} {res : Int32 × kM} (hf : fX3_takeNumber v1 st = some res) (K : kEnd Z (some .boolean) (some (.int res.1)) res.2) : kV Z 2 0 [(0, kr Z 48), (1, .int v1)] [] st := by
  unfold fX3_takeNumber at hf
  refine k_aload_n C 0 dX3_takeNumber_0 rfl rfl rfl ?_
  refine g_X3_token C rfl kw_1_120 dX3_takeNumber_1 rfl ?_
  refine k_iconst C (2 : Int32) dX3_takeNumber_4 (by decide) rfl ?_
  refine k_icmp_ne C 16 dX3_takeNumber_5 rfl rfl (fun b1 => ?_) (fun b1 => ?_)
  · replace hf := kf_f hf b1
    refine k_iconst C (0 : Int32) dX3_takeNumber_16 (by decide) rfl ?_
    exact k_zret C K hf rfl dX3_takeNumber_17
  · replace hf := kf_t hf b1
    refine k_aload_n C 0 dX3_takeNumber_8 rfl rfl rfl ?_
    refine g_X3_value C rfl kw_1_122 dX3_takeNumber_9 rfl ?_
    refine k_iload_n C 1 dX3_takeNumber_12 rfl rfl rfl ?_
    refine k_icmp_le C 18 dX3_takeNumber_13 rfl rfl (fun b2 => ?_) (fun b2 => ?_)
    · replace hf := kf_t hf b2
      refine k_aload_n C 0 dX3_takeNumber_18 rfl rfl rfl ?_
      refine k_aload_n C 0 dX3_takeNumber_19 rfl rfl rfl ?_
      refine g_X3_value C rfl kw_1_122 dX3_takeNumber_20 rfl ?_
      refine p_X3_taken C rfl kw_1_123 dX3_takeNumber_23 rfl ?_
      obtain ⟨s3, e4, hf⟩ := kf_b hf
      refine k_st e4 ?_
      refine k_aload_n C 0 dX3_takeNumber_26 rfl rfl rfl ?_
      obtain ⟨s5, e6, hf⟩ := kf_b hf
      refine k_callV C [] (mX3_readToken e6) rfl (by decide) rfl kw_3_18 kw_3_20 kw_0_10 kw_1_5 kw_3_21 qX3_readToken rfl ⟨by decide, by decide⟩ ⟨rfl, rfl⟩ (Nat.le_of_ble_eq_true rfl) dX3_takeNumber_27 rfl ?_ rfl
      refine (show kV Z 2 30 [(0, kr Z 48), (1, .int v1)] [] s5 from ?_)
      refine k_iconst C (1 : Int32) dX3_takeNumber_30 (by decide) rfl ?_
      exact k_zret C K hf rfl dX3_takeNumber_31
    · replace hf := kf_f hf b2
      refine k_iconst C (0 : Int32) dX3_takeNumber_16 (by decide) rfl ?_
      exact k_zret C K hf rfl dX3_takeNumber_17
theorem mX3_takeNumber {G : kG} {v1 : Int32}  {st : kM} {res : Int32 × kM} (hf : fX3_takeNumber v1 st = some res) : kCt G yX3_takeNumber cX3_takeNumber 2 (some .boolean) rmX3_takeNumber [.ref (G.2.1 48), .int v1] st (some (.int res.1)) res.2 := kMet (by decide) (Nat.le_of_ble_eq_true rfl) ⟨rfl, rfl⟩ (fun X A Q C K => tX3_takeNumber C  hf K)
theorem qX3_takeNumber : yX3_takeNumber.cls = RX3 ∧ yX3_takeNumber.cls ≠ "java/lang/invoke/MethodHandle" ∧ yX3_takeNumber.cls ≠ "java/lang/invoke/VarHandle" ∧ (parseMethodDescriptor yX3_takeNumber.desc).map (fun d => d.parameters.length) = some 1 := ⟨rfl, by decide, by decide, by decide +kernel⟩
