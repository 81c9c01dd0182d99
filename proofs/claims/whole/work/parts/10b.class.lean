-- TalkKnots$TextReader.takeWord(Ljava/lang/String;)Z
def rmX3_takeWord : Room := { frames := 5, cells := 0, slots := 0, locals := 107 }
def fX3_takeWord (w1 : Nat) (st : kM) : Option (Int32 × kM) :=
  (fX3_isWord w1 st).bind fun q1 => (if q1.1 = 0 then (some ((0 : Int32), q1.2)) else ((fX3_readToken q1.2).bind fun s4 => (some ((1 : Int32), s4))))
set_option maxRecDepth 100000 in
theorem tX3_takeWord {Z : kZ} (C : kC Z cX3_takeWord RX3 2 rmX3_takeWord) {w1 : Nat} (hw1 : w1 < kSn) {st : kM} {res : Int32 × kM} (hf : fX3_takeWord w1 st = some res) (K : kEnd Z (some .boolean) (some (.int res.1)) res.2) : kV Z 2 0 [(0, kr Z 48), (1, ks Z w1)] [] st := by
  unfold fX3_takeWord at hf
  refine k_aload_n C 0 dX3_takeWord_0 rfl rfl rfl ?_
  refine k_aload_n C 1 dX3_takeWord_1 rfl rfl rfl ?_
  obtain ⟨q1, e2, hf⟩ := kf_b hf
  refine k_callV C [ks Z w1] (mX3_isWord hw1 e2) rfl (by decide) rfl kw_3_42 kw_3_44 kw_0_13 kw_1_5 kw_3_45 qX3_isWord rfl ⟨by decide, by decide⟩ ⟨rfl, rfl⟩ (Nat.le_of_ble_eq_true rfl) dX3_takeWord_2 rfl ?_ rfl
  refine (show kV Z 2 5 [(0, kr Z 48), (1, ks Z w1)] [.int q1.1] q1.2 from ?_)
  refine k_if_ne C 10 dX3_takeWord_5 rfl rfl (fun b3 => ?_) (fun b3 => ?_)
  · replace hf := kf_f hf b3
    refine k_aload_n C 0 dX3_takeWord_10 rfl rfl rfl ?_
    obtain ⟨s4, e5, hf⟩ := kf_b hf
    refine k_callV C [] (mX3_readToken e5) rfl (by decide) rfl kw_3_18 kw_3_20 kw_0_10 kw_1_5 kw_3_21 qX3_readToken rfl ⟨by decide, by decide⟩ ⟨rfl, rfl⟩ (Nat.le_of_ble_eq_true rfl) dX3_takeWord_11 rfl ?_ rfl
    refine (show kV Z 2 14 [(0, kr Z 48), (1, ks Z w1)] [] s4 from ?_)
    refine k_iconst C (1 : Int32) dX3_takeWord_14 (by decide) rfl ?_
    exact k_zret C K hf rfl dX3_takeWord_15
  · replace hf := kf_t hf b3
    refine k_iconst C (0 : Int32) dX3_takeWord_8 (by decide) rfl ?_
    exact k_zret C K hf rfl dX3_takeWord_9
theorem mX3_takeWord {G : kG} {w1 : Nat} (hw1 : w1 < kSn) {st : kM} {res : Int32 × kM} (hf : fX3_takeWord w1 st = some res) : kCt G yX3_takeWord cX3_takeWord 2 (some .boolean) rmX3_takeWord [.ref (G.2.1 48), .ref (G.2.2.2.1 w1)] st (some (.int res.1)) res.2 := kMet (by decide) (Nat.le_of_ble_eq_true rfl) ⟨rfl, rfl⟩ (fun X A Q C K => tX3_takeWord C hw1 hf K)
theorem qX3_takeWord : yX3_takeWord.cls = RX3 ∧ yX3_takeWord.cls ≠ "java/lang/invoke/MethodHandle" ∧ yX3_takeWord.cls ≠ "java/lang/invoke/VarHandle" ∧ (parseMethodDescriptor yX3_takeWord.desc).map (fun d => d.parameters.length) = some 1 := ⟨rfl, by decide, by decide, by decide +kernel⟩
-- TalkKnots$Yard.addKnot(II)I
def rmX4_addKnot : Room := { frames := 1, cells := 0, slots := 0, locals := 22 }
def fX4_addKnot (c : Nat) (v1 : Int32) (v2 : Int32) (st : kM) : Option (Int32 × kM) :=
  if (st.1 c 1) < 0 ∨ 10 ≤ (st.1 c 1).toNatClampNeg then none else ((fX0_begin (c + 5 + (st.1 c 1).toNatClampNeg) v1 v2 st).bind fun s2 => ((some (kwr s2 c 1 ((s2.1 c 1) + (1 : Int32)))).bind fun s4 => (some (((s4.1 c 1) - (1 : Int32)), s4))))
set_option maxRecDepth 100000 in
theorem tX4_addKnot {Z : kZ} (C : kC Z cX4_addKnot RX4 3 rmX4_addKnot) {c : Nat} {v1 : Int32} {v2 : Int32} (hc : yd c) {st : kM} {res : Int32 × kM} (hf : fX4_addKnot c v1 v2 st = some res) (K : kEnd Z (some .int) (some (.int res.1)) res.2) : kV Z 3 0 [(0, kr Z c), (1, .int v1), (2, .int v2)] [] st := by
  unfold fX4_addKnot at hf
  refine k_aload_n C 0 dX4_addKnot_0 rfl rfl rfl ?_
  refine g_X4_knots C (yd_4 hc) kw_1_77 dX4_addKnot_1 rfl ?_
  refine k_aload_n C 0 dX4_addKnot_4 rfl rfl rfl ?_
  refine g_X4_count C (yd_4 hc) kw_1_66 dX4_addKnot_5 rfl ?_
  obtain ⟨g1, hf⟩ := kf_g hf
  refine k_aldK C hc g1 dX4_addKnot_8 rfl ?_
  refine k_iload_n C 1 dX4_addKnot_9 rfl rfl rfl ?_
  refine k_iload_n C 2 dX4_addKnot_10 rfl rfl rfl ?_
  obtain ⟨s2, e3, hf⟩ := kf_b hf
  refine k_callV C [.int v1, .int v2] (mX0_begin (yd_n hc (vi_lt g1)) e3) (yd_n hc (vi_lt g1)) (by decide) rfl kw_2_57 kw_2_58 kw_2_59 kw_1_3 kw_2_60 qX0_begin rfl ⟨by decide, by decide⟩ ⟨rfl, rfl⟩ (Nat.le_of_ble_eq_true rfl) dX4_addKnot_11 rfl ?_ rfl
  refine (show kV Z 3 14 [(0, kr Z c), (1, .int v1), (2, .int v2)] [] s2 from ?_)
  refine k_aload_n C 0 dX4_addKnot_14 rfl rfl rfl ?_
  refine k_dup C rfl dX4_addKnot_15 rfl ?_
  refine g_X4_count C (yd_4 hc) kw_1_66 dX4_addKnot_16 rfl ?_
  refine k_iconst C (1 : Int32) dX4_addKnot_19 (by decide) rfl ?_
  refine k_iadd C dX4_addKnot_20 rfl ?_
  refine p_X4_count C (yd_4 hc) kw_1_66 dX4_addKnot_21 rfl ?_
  obtain ⟨s4, e5, hf⟩ := kf_b hf
  refine k_st e5 ?_
  refine k_aload_n C 0 dX4_addKnot_24 rfl rfl rfl ?_
  refine g_X4_count C (yd_4 hc) kw_1_66 dX4_addKnot_25 rfl ?_
  refine k_iconst C (1 : Int32) dX4_addKnot_28 (by decide) rfl ?_
  refine k_isub C dX4_addKnot_29 rfl ?_
  exact k_iret C K hf dX4_addKnot_30
theorem mX4_addKnot {G : kG} {c : Nat} {v1 : Int32} {v2 : Int32} (hc : yd c) {st : kM} {res : Int32 × kM} (hf : fX4_addKnot c v1 v2 st = some res) : kCt G yX4_addKnot cX4_addKnot 3 (some .int) rmX4_addKnot [.ref (G.2.1 c), .int v1, .int v2] st (some (.int res.1)) res.2 := kMet (by decide) (Nat.le_of_ble_eq_true rfl) ⟨rfl, rfl⟩ (fun X A Q C K => tX4_addKnot C hc hf K)
theorem qX4_addKnot : yX4_addKnot.cls = RX4 ∧ yX4_addKnot.cls ≠ "java/lang/invoke/MethodHandle" ∧ yX4_addKnot.cls ≠ "java/lang/invoke/VarHandle" ∧ (parseMethodDescriptor yX4_addKnot.desc).map (fun d => d.parameters.length) = some 2 := ⟨rfl, by decide, by decide, by decide +kernel⟩
-- TalkKnots$Yard.isFull()Z
def rmX4_isFull : Room := { frames := 0, cells := 0, slots := 0, locals := 0 }
def fX4_isFull (c : Nat) (st : kM) : Option (Int32 × kM) :=
  if (st.1 c 1) < (10 : Int32) then (some ((0 : Int32), st)) else (some ((1 : Int32), st))
set_option maxRecDepth 100000 in
theorem tX4_isFull {Z : kZ} (C : kC Z cX4_isFull RX4 1 rmX4_isFull) {c : Nat} (hc : yd c) {st : kM} {res : Int32 × kM} (hf : fX4_isFull c st = some res) (K : kEnd Z (some .boolean) (some (.int res.1)) res.2) : kV Z 1 0 [(0, kr Z c)] [] st := by
  unfold fX4_isFull at hf
  refine k_aload_n C 0 dX4_isFull_0 rfl rfl rfl ?_
  refine g_X4_count C (yd_4 hc) kw_1_66 dX4_isFull_1 rfl ?_
  refine k_bipush C (10 : Int32) dX4_isFull_4 (by decide) rfl ?_
  refine k_icmp_lt C 13 dX4_isFull_6 rfl rfl (fun b1 => ?_) (fun b1 => ?_)
  · replace hf := kf_t hf b1
    refine k_iconst C (0 : Int32) dX4_isFull_13 (by decide) rfl ?_
    exact k_zret C K hf rfl dX4_isFull_14
  · replace hf := kf_f hf b1
    refine k_iconst C (1 : Int32) dX4_isFull_9 (by decide) rfl ?_
    refine k_goto C 14 dX4_isFull_10 rfl ?_
    exact k_zret C K hf rfl dX4_isFull_14
theorem mX4_isFull {G : kG} {c : Nat} (hc : yd c) {st : kM} {res : Int32 × kM} (hf : fX4_isFull c st = some res) : kCt G yX4_isFull cX4_isFull 1 (some .boolean) rmX4_isFull [.ref (G.2.1 c)] st (some (.int res.1)) res.2 := kMet (by decide) (Nat.le_of_ble_eq_true rfl) ⟨rfl, rfl⟩ (fun X A Q C K => tX4_isFull C hc hf K)
theorem qX4_isFull : yX4_isFull.cls = RX4 ∧ yX4_isFull.cls ≠ "java/lang/invoke/MethodHandle" ∧ yX4_isFull.cls ≠ "java/lang/invoke/VarHandle" ∧ (parseMethodDescriptor yX4_isFull.desc).map (fun d => d.parameters.length) = some 0 := ⟨rfl, by decide, by decide, by decide +kernel⟩
-- TalkKnots$TextReader.readKnot()Z
def rmX3_readKnot : Room := { frames := 6, cells := 0, slots := 0, locals := 128 }
def fX3_readKnot_84 (x2 : Nat) (st : kM) : Option (Int32 × kM) :=
  (fX3_takeWord 11 st).bind fun q1 => (if q1.1 = 0 then ((some (kwr q1.2 x2 4 (1 : Int32))).bind fun s6 => (some ((1 : Int32), s6))) else ((some (kwr q1.2 x2 4 (0 : Int32))).bind fun s4 => (some ((1 : Int32), s4))))
def fX3_readKnot (st : kM) : Option (Int32 × kM) :=
  (fX3_kindTold st).bind fun q1 => (if q1.1 < 0 then (some ((0 : Int32), q1.2)) else ((fX4_isFull 16 q1.2).bind fun q4 => (if q4.1 = 0 then ((fX3_readToken q4.2).bind fun s7 => ((fX3_takeNumber (3 : Int32) s7).bind fun q9 => (if q9.1 = 0 then (some ((0 : Int32), q9.2)) else ((fX4_addKnot 16 q1.1 (q9.2.1 48 6) q9.2).bind fun q12 => (if q12.1 < 0 ∨ 10 ≤ q12.1.toNatClampNeg then none else ((fX3_takeWord 10 q12.2).bind fun q15 => (if q15.1 = 0 then (fX3_readKnot_84 (16 + 5 + q12.1.toNatClampNeg) q15.2) else ((fX3_takeNumber (99 : Int32) q15.2).bind fun q18 => (if q18.1 = 0 then (some ((0 : Int32), q18.2)) else ((some (kwr q18.2 (16 + 5 + q12.1.toNatClampNeg) 2 (q18.2.1 48 6))).bind fun s21 => (fX3_readKnot_84 (16 + 5 + q12.1.toNatClampNeg) s21))))))))))) else (some ((0 : Int32), q4.2)))))
set_option maxRecDepth 100000 in
theorem tX3_readKnot_84 {Z : kZ} (C : kC Z cX3_readKnot RX3 3 rmX3_readKnot) {res : Int32 × kM} (K : kEnd Z (some .boolean) (some (.int res.1)) res.2) : ∀ (x2 : Nat) (st : kM), (hx2 : kd x2 = 0) → fX3_readKnot_84 x2 st = some res → kV Z 3 84 [(0, kr Z 48), (2, kr Z x2)] [] st := by
  intro x2 st hx2 hf
  unfold fX3_readKnot_84 at hf
  refine k_aload_n C 1 dX3_readKnot_84 rfl rfl rfl ?_
  refine k_aload_n C 0 dX3_readKnot_85 rfl rfl rfl ?_
  refine k_ldcS C 11 (by decide) rfl dX3_readKnot_86 rfl ?_
  obtain ⟨q1, e2, hf⟩ := kf_b hf
  refine k_callV C [ks Z 11] (mX3_takeWord (by decide) e2) rfl (by decide) rfl kw_3_38 kw_3_40 kw_0_12 kw_1_5 kw_3_41 qX3_takeWord rfl ⟨by decide, by decide⟩ ⟨rfl, rfl⟩ (Nat.le_of_ble_eq_true rfl) dX3_readKnot_88 rfl ?_ rfl
  refine (show kV Z 3 91 [(0, kr Z 48), (2, kr Z x2)] [.int q1.1, kr Z x2] q1.2 from ?_)
  refine k_if_ne C 98 dX3_readKnot_91 rfl rfl (fun b3 => ?_) (fun b3 => ?_)
  · replace hf := kf_f hf b3
    refine k_iconst C (0 : Int32) dX3_readKnot_98 (by decide) rfl ?_
    refine p_X0_fast C (by decide) hx2 kw_1_49 dX3_readKnot_99 rfl ?_
    obtain ⟨s4, e5, hf⟩ := kf_b hf
    refine k_st e5 ?_
    refine k_iconst C (1 : Int32) dX3_readKnot_102 (by decide) rfl ?_
    exact k_zret C K hf rfl dX3_readKnot_103
  · replace hf := kf_t hf b3
    refine k_iconst C (1 : Int32) dX3_readKnot_94 (by decide) rfl ?_
    refine k_goto C 99 dX3_readKnot_95 rfl ?_
    refine p_X0_fast C (by decide) hx2 kw_1_49 dX3_readKnot_99 rfl ?_
    obtain ⟨s6, e7, hf⟩ := kf_b hf
    refine k_st e7 ?_
    refine k_iconst C (1 : Int32) dX3_readKnot_102 (by decide) rfl ?_
    exact k_zret C K hf rfl dX3_readKnot_103
set_option maxRecDepth 100000 in
theorem tX3_readKnot {Z : kZ} (C : kC Z cX3_readKnot RX3 3 rmX3_readKnot)   {st : kM} {res : Int32 × kM} (hf : fX3_readKnot st = some res) (K : kEnd Z (some .boolean) (some (.int res.1)) res.2) : kV Z 3 0 [(0, kr Z 48)] [] st := by
  unfold fX3_readKnot at hf
  refine k_aload_n C 0 dX3_readKnot_0 rfl rfl rfl ?_
  obtain ⟨q1, e2, hf⟩ := kf_b hf
  refine k_callV C [] (mX3_kindTold e2) rfl (by decide) rfl kw_3_119 kw_3_121 kw_0_19 kw_1_5 kw_3_122 qX3_kindTold rfl ⟨by decide, by decide⟩ ⟨rfl, rfl⟩ (Nat.le_of_ble_eq_true rfl) dX3_readKnot_1 rfl ?_ rfl
  refine (show kV Z 3 4 [(0, kr Z 48)] [.int q1.1] q1.2 from ?_)
  refine k_istore_n (lv' := [(1, .int q1.1), (0, kr Z 48)]) C dX3_readKnot_4 rfl (by decide) rfl rfl ?_
  refine k_iload_n C 0 dX3_readKnot_5 rfl rfl rfl ?_
  refine k_if_lt C 19 dX3_readKnot_6 rfl rfl (fun b3 => ?_) (fun b3 => ?_)
  · replace hf := kf_t hf b3
    refine k_iconst C (0 : Int32) dX3_readKnot_19 (by decide) rfl ?_
    exact k_zret C K hf rfl dX3_readKnot_20
  · replace hf := kf_f hf b3
    refine k_aload_n C 1 dX3_readKnot_9 rfl rfl rfl ?_
    refine g_X3_yard C rfl kw_1_118 dX3_readKnot_10 rfl ?_
    obtain ⟨q4, e5, hf⟩ := kf_b hf
    refine k_callV C [] (mX4_isFull yd_16 e5) (yd_4 yd_16) (by decide) rfl kw_3_132 kw_2_49 kw_2_50 kw_1_2 kw_2_51 qX4_isFull rfl ⟨by decide, by decide⟩ ⟨rfl, rfl⟩ (Nat.le_of_ble_eq_true rfl) dX3_readKnot_13 rfl ?_ rfl
    refine (show kV Z 3 16 [(1, .int q1.1), (0, kr Z 48)] [.int q4.1] q4.2 from ?_)
    refine k_if_eq C 21 dX3_readKnot_16 rfl rfl (fun b6 => ?_) (fun b6 => ?_)
    · replace hf := kf_t hf b6
      refine k_aload_n C 1 dX3_readKnot_21 rfl rfl rfl ?_
      obtain ⟨s7, e8, hf⟩ := kf_b hf
      refine k_callV C [] (mX3_readToken e8) rfl (by decide) rfl kw_3_18 kw_3_20 kw_0_10 kw_1_5 kw_3_21 qX3_readToken rfl ⟨by decide, by decide⟩ ⟨rfl, rfl⟩ (Nat.le_of_ble_eq_true rfl) dX3_readKnot_22 rfl ?_ rfl
      refine (show kV Z 3 25 [(1, .int q1.1), (0, kr Z 48)] [] s7 from ?_)
      refine k_aload_n C 1 dX3_readKnot_25 rfl rfl rfl ?_
      refine k_iconst C (3 : Int32) dX3_readKnot_26 (by decide) rfl ?_
      obtain ⟨q9, e10, hf⟩ := kf_b hf
      refine k_callV C [.int (3 : Int32)] (mX3_takeNumber e10) rfl (by decide) rfl kw_3_98 kw_3_100 kw_0_15 kw_1_5 kw_3_101 qX3_takeNumber rfl ⟨by decide, by decide⟩ ⟨rfl, rfl⟩ (Nat.le_of_ble_eq_true rfl) dX3_readKnot_27 rfl ?_ rfl
      refine (show kV Z 3 30 [(1, .int q1.1), (0, kr Z 48)] [.int q9.1] q9.2 from ?_)
      refine k_if_ne C 35 dX3_readKnot_30 rfl rfl (fun b11 => ?_) (fun b11 => ?_)
      · replace hf := kf_f hf b11
        refine k_aload_n C 1 dX3_readKnot_35 rfl rfl rfl ?_
        refine g_X3_yard C rfl kw_1_118 dX3_readKnot_36 rfl ?_
        refine g_X4_knots C (yd_4 yd_16) kw_1_78 dX3_readKnot_39 rfl ?_
        refine k_aload_n C 1 dX3_readKnot_42 rfl rfl rfl ?_
        refine g_X3_yard C rfl kw_1_118 dX3_readKnot_43 rfl ?_
        refine k_iload_n C 0 dX3_readKnot_46 rfl rfl rfl ?_
        refine k_aload_n C 1 dX3_readKnot_47 rfl rfl rfl ?_
        refine g_X3_taken C rfl kw_1_123 dX3_readKnot_48 rfl ?_
        obtain ⟨q12, e13, hf⟩ := kf_b hf
        refine k_callV C [.int q1.1, .int (q9.2.1 48 6)] (mX4_addKnot yd_16 e13) (yd_4 yd_16) (by decide) rfl kw_3_133 kw_2_54 kw_2_55 kw_1_2 kw_2_56 qX4_addKnot rfl ⟨by decide, by decide⟩ ⟨rfl, rfl⟩ (Nat.le_of_ble_eq_true rfl) dX3_readKnot_51 rfl ?_ rfl
        refine (show kV Z 3 54 [(1, .int q1.1), (0, kr Z 48)] [.int q12.1, kr Z (16 + 3)] q12.2 from ?_)
        obtain ⟨g14, hf⟩ := kf_g hf
        refine k_aldK C yd_16 g14 dX3_readKnot_54 rfl ?_
        refine k_astore_n (lv' := [(2, kr Z (16 + 5 + q12.1.toNatClampNeg)), (1, .int q1.1), (0, kr Z 48)]) C dX3_readKnot_55 rfl (by decide) rfl rfl ?_
        refine k_aload_n C 2 dX3_readKnot_56 rfl rfl rfl ?_
        refine k_ldcS C 10 (by decide) rfl dX3_readKnot_57 rfl ?_
        obtain ⟨q15, e16, hf⟩ := kf_b hf
        refine k_callV C [ks Z 10] (mX3_takeWord (by decide) e16) rfl (by decide) rfl kw_3_38 kw_3_40 kw_0_12 kw_1_5 kw_3_41 qX3_takeWord rfl ⟨by decide, by decide⟩ ⟨rfl, rfl⟩ (Nat.le_of_ble_eq_true rfl) dX3_readKnot_59 rfl ?_ rfl
        refine (show kV Z 3 62 [(2, kr Z (16 + 5 + q12.1.toNatClampNeg)), (1, .int q1.1), (0, kr Z 48)] [.int q15.1] q15.2 from ?_)
        refine k_if_eq C 84 dX3_readKnot_62 rfl rfl (fun b17 => ?_) (fun b17 => ?_)
        · replace hf := kf_t hf b17
          refine k_lv (lv' := [(0, kr Z 48), (2, kr Z (16 + 5 + q12.1.toNatClampNeg))]) [2, 0] rfl ?_
          exact tX3_readKnot_84 C K (16 + 5 + q12.1.toNatClampNeg) q15.2 (yd_n yd_16 (vi_lt g14)) hf
        · replace hf := kf_f hf b17
          refine k_aload_n C 2 dX3_readKnot_65 rfl rfl rfl ?_
          refine k_bipush C (99 : Int32) dX3_readKnot_66 (by decide) rfl ?_
          obtain ⟨q18, e19, hf⟩ := kf_b hf
          refine k_callV C [.int (99 : Int32)] (mX3_takeNumber e19) rfl (by decide) rfl kw_3_98 kw_3_100 kw_0_15 kw_1_5 kw_3_101 qX3_takeNumber rfl ⟨by decide, by decide⟩ ⟨rfl, rfl⟩ (Nat.le_of_ble_eq_true rfl) dX3_readKnot_68 rfl ?_ rfl
          refine (show kV Z 3 71 [(2, kr Z (16 + 5 + q12.1.toNatClampNeg)), (1, .int q1.1), (0, kr Z 48)] [.int q18.1] q18.2 from ?_)
          refine k_if_ne C 76 dX3_readKnot_71 rfl rfl (fun b20 => ?_) (fun b20 => ?_)
          · replace hf := kf_f hf b20
            refine k_aload_n C 0 dX3_readKnot_76 rfl rfl rfl ?_
            refine k_aload_n C 2 dX3_readKnot_77 rfl rfl rfl ?_
            refine g_X3_taken C rfl kw_1_123 dX3_readKnot_78 rfl ?_
            refine p_X0_open C (yd_n yd_16 (vi_lt g14)) kw_1_42 dX3_readKnot_81 rfl ?_
            obtain ⟨s21, e22, hf⟩ := kf_b hf
            refine k_st e22 ?_
            refine k_lv (lv' := [(0, kr Z 48), (2, kr Z (16 + 5 + q12.1.toNatClampNeg))]) [2, 0] rfl ?_
            exact tX3_readKnot_84 C K (16 + 5 + q12.1.toNatClampNeg) s21 (yd_n yd_16 (vi_lt g14)) hf
          · replace hf := kf_t hf b20
            refine k_iconst C (0 : Int32) dX3_readKnot_74 (by decide) rfl ?_
            exact k_zret C K hf rfl dX3_readKnot_75
      · replace hf := kf_t hf b11
        refine k_iconst C (0 : Int32) dX3_readKnot_33 (by decide) rfl ?_
        exact k_zret C K hf rfl dX3_readKnot_34
    · replace hf := kf_f hf b6
      refine k_iconst C (0 : Int32) dX3_readKnot_19 (by decide) rfl ?_
      exact k_zret C K hf rfl dX3_readKnot_20
theorem mX3_readKnot {G : kG}   {st : kM} {res : Int32 × kM} (hf : fX3_readKnot st = some res) : kCt G yX3_readKnot cX3_readKnot 3 (some .boolean) rmX3_readKnot [.ref (G.2.1 48)] st (some (.int res.1)) res.2 := kMet (by decide) (Nat.le_of_ble_eq_true rfl) ⟨rfl, rfl⟩ (fun X A Q C K => tX3_readKnot C  hf K)
theorem qX3_readKnot : yX3_readKnot.cls = RX3 ∧ yX3_readKnot.cls ≠ "java/lang/invoke/MethodHandle" ∧ yX3_readKnot.cls ≠ "java/lang/invoke/VarHandle" ∧ (parseMethodDescriptor yX3_readKnot.desc).map (fun d => d.parameters.length) = some 0 := ⟨rfl, by decide, by decide, by decide +kernel⟩
-- TalkKnots$Yard.putUp(IZ)V
def rmX4_putUp : Room := { frames := 0, cells := 0, slots := 0, locals := 0 }
def fX4_putUp (c : Nat) (v1 : Int32) (v2 : Int32) (st : kM) : Option (kM) :=
  (some ((1 : Int32) <<< (v1 &&& 31))).bind fun z1 => (if v2 = 0 then ((some (kwr st c 2 ((st.1 c 2) &&& (z1 ^^^ (-1 : Int32))))).bind fun s4 => (some s4)) else ((some (kwr st c 2 ((st.1 c 2) ||| z1))).bind fun s6 => (some s6)))
set_option maxRecDepth 100000 in
theorem tX4_putUp {Z : kZ} (C : kC Z cX4_putUp RX4 4 rmX4_putUp) {c : Nat} {v1 : Int32} {v2 : Int32} (hc : yd c) {st : kM} {res : kM} (hf : fX4_putUp c v1 v2 st = some res) (K : kEnd Z none none res) : kV Z 4 0 [(0, kr Z c), (1, .int v1), (2, .int v2)] [] st := by
  unfold fX4_putUp at hf
  refine k_iconst C (1 : Int32) dX4_putUp_0 (by decide) rfl ?_
  refine k_iload_n C 1 dX4_putUp_1 rfl rfl rfl ?_
  refine k_ishl C dX4_putUp_2 rfl ?_
  obtain ⟨z1, e2, hf⟩ := kf_b hf
  refine k_topi e2 ?_
  refine k_istore_n (lv' := [(3, .int z1), (0, kr Z c), (1, .int v1), (2, .int v2)]) C dX4_putUp_3 rfl (by decide) rfl rfl ?_
  refine k_aload_n C 1 dX4_putUp_4 rfl rfl rfl ?_
  refine k_iload_n C 3 dX4_putUp_5 rfl rfl rfl ?_
  refine k_if_eq C 18 dX4_putUp_6 rfl rfl (fun b3 => ?_) (fun b3 => ?_)
  · replace hf := kf_t hf b3
    refine k_aload_n C 1 dX4_putUp_18 rfl rfl rfl ?_
    refine g_X4_up C (yd_4 hc) kw_1_69 dX4_putUp_19 rfl ?_
    refine k_iload_n C 0 dX4_putUp_22 rfl rfl rfl ?_
    refine k_iconst C (-1 : Int32) dX4_putUp_23 (by decide) rfl ?_
    refine k_ixor C dX4_putUp_24 rfl ?_
    refine k_iand C dX4_putUp_25 rfl ?_
    refine p_X4_up C (yd_4 hc) kw_1_69 dX4_putUp_26 rfl ?_
    obtain ⟨s4, e5, hf⟩ := kf_b hf
    refine k_st e5 ?_
    exact k_vret C K hf dX4_putUp_29
  · replace hf := kf_f hf b3
    refine k_aload_n C 1 dX4_putUp_9 rfl rfl rfl ?_
    refine g_X4_up C (yd_4 hc) kw_1_69 dX4_putUp_10 rfl ?_
    refine k_iload_n C 0 dX4_putUp_13 rfl rfl rfl ?_
    refine k_ior C dX4_putUp_14 rfl ?_
    refine k_goto C 26 dX4_putUp_15 rfl ?_
    refine p_X4_up C (yd_4 hc) kw_1_69 dX4_putUp_26 rfl ?_
    obtain ⟨s6, e7, hf⟩ := kf_b hf
    refine k_st e7 ?_
    exact k_vret C K hf dX4_putUp_29
theorem mX4_putUp {G : kG} {c : Nat} {v1 : Int32} {v2 : Int32} (hc : yd c) {st : kM} {res : kM} (hf : fX4_putUp c v1 v2 st = some res) : kCt G yX4_putUp cX4_putUp 4 none rmX4_putUp [.ref (G.2.1 c), .int v1, .int v2] st none res := kMet (by decide) (Nat.le_of_ble_eq_true rfl) ⟨rfl, rfl⟩ (fun X A Q C K => tX4_putUp C hc hf K)
theorem qX4_putUp : yX4_putUp.cls = RX4 ∧ yX4_putUp.cls ≠ "java/lang/invoke/MethodHandle" ∧ yX4_putUp.cls ≠ "java/lang/invoke/VarHandle" ∧ (parseMethodDescriptor yX4_putUp.desc).map (fun d => d.parameters.length) = some 2 := ⟨rfl, by decide, by decide, by decide +kernel⟩
-- TalkKnots$TextReader.readMast()Z
def rmX3_readMast : Room := { frames := 6, cells := 0, slots := 0, locals := 128 }
def fX3_readMast (st : kM) : Option (Int32 × kM) :=
  (fX3_takeNumber (3 : Int32) st).bind fun q1 => (if q1.1 = 0 then (some ((0 : Int32), q1.2)) else ((some (q1.2.1 48 6)).bind fun z4 => ((fX3_takeNumber (999 : Int32) q1.2).bind fun q6 => (if q6.1 = 0 then (some ((0 : Int32), q6.2)) else (if z4 < 0 ∨ 4 ≤ z4.toNatClampNeg then none else ((some (kwr q6.2 (16 + 2) z4.toNatClampNeg (q6.2.1 48 6))).bind fun s10 => ((fX3_takeWord 1 s10).bind fun q12 => (if q12.1 = 0 then ((fX4_putUp 16 z4 (1 : Int32) q12.2).bind fun s17 => (some ((1 : Int32), s17))) else ((fX4_putUp 16 z4 (0 : Int32) q12.2).bind fun s15 => (some ((1 : Int32), s15)))))))))))
set_option maxRecDepth 100000 in
theorem tX3_readMast {Z : kZ} (C : kC Z cX3_readMast RX3 2 rmX3_readMast)   {st : kM} {res : Int32 × kM} (hf : fX3_readMast st = some res) (K : kEnd Z (some .boolean) (some (.int res.1)) res.2) : kV Z 2 0 [(0, kr Z 48)] [] st := by
  unfold fX3_readMast at hf
  refine k_aload_n C 0 dX3_readMast_0 rfl rfl rfl ?_
  refine k_iconst C (3 : Int32) dX3_readMast_1 (by decide) rfl ?_
  obtain ⟨q1, e2, hf⟩ := kf_b hf
  refine k_callV C [.int (3 : Int32)] (mX3_takeNumber e2) rfl (by decide) rfl kw_3_98 kw_3_100 kw_0_15 kw_1_5 kw_3_101 qX3_takeNumber rfl ⟨by decide, by decide⟩ ⟨rfl, rfl⟩ (Nat.le_of_ble_eq_true rfl) dX3_readMast_2 rfl ?_ rfl
  refine (show kV Z 2 5 [(0, kr Z 48)] [.int q1.1] q1.2 from ?_)
  refine k_if_ne C 10 dX3_readMast_5 rfl rfl (fun b3 => ?_) (fun b3 => ?_)
  · replace hf := kf_f hf b3
    refine k_aload_n C 0 dX3_readMast_10 rfl rfl rfl ?_
    refine g_X3_taken C rfl kw_1_123 dX3_readMast_11 rfl ?_
    obtain ⟨z4, e5, hf⟩ := kf_b hf
    refine k_topi e5 ?_
    refine k_istore_n (lv' := [(1, .int z4), (0, kr Z 48)]) C dX3_readMast_14 rfl (by decide) rfl rfl ?_
    refine k_aload_n C 1 dX3_readMast_15 rfl rfl rfl ?_
    refine k_sipush C (999 : Int32) dX3_readMast_16 (by decide) rfl ?_
    obtain ⟨q6, e7, hf⟩ := kf_b hf
    refine k_callV C [.int (999 : Int32)] (mX3_takeNumber e7) rfl (by decide) rfl kw_3_98 kw_3_100 kw_0_15 kw_1_5 kw_3_101 qX3_takeNumber rfl ⟨by decide, by decide⟩ ⟨rfl, rfl⟩ (Nat.le_of_ble_eq_true rfl) dX3_readMast_19 rfl ?_ rfl
    refine (show kV Z 2 22 [(1, .int z4), (0, kr Z 48)] [.int q6.1] q6.2 from ?_)
    refine k_if_ne C 27 dX3_readMast_22 rfl rfl (fun b8 => ?_) (fun b8 => ?_)
    · replace hf := kf_f hf b8
      refine k_aload_n C 1 dX3_readMast_27 rfl rfl rfl ?_
      refine g_X3_yard C rfl kw_1_118 dX3_readMast_28 rfl ?_
      refine g_X4_weights C (yd_4 yd_16) kw_1_76 dX3_readMast_31 rfl ?_
      refine k_iload_n C 0 dX3_readMast_34 rfl rfl rfl ?_
      refine k_aload_n C 1 dX3_readMast_35 rfl rfl rfl ?_
      refine g_X3_taken C rfl kw_1_123 dX3_readMast_36 rfl ?_
      obtain ⟨g9, hf⟩ := kf_g hf
      refine k_iast (j := z4.toNatClampNeg) C (yd_g yd_16) g9 rfl dX3_readMast_39 rfl ?_
      obtain ⟨s10, e11, hf⟩ := kf_b hf
      refine k_st e11 ?_
      refine k_aload_n C 1 dX3_readMast_40 rfl rfl rfl ?_
      refine g_X3_yard C rfl kw_1_118 dX3_readMast_41 rfl ?_
      refine k_iload_n C 0 dX3_readMast_44 rfl rfl rfl ?_
      refine k_aload_n C 1 dX3_readMast_45 rfl rfl rfl ?_
      refine k_ldcS C 1 (by decide) rfl dX3_readMast_46 rfl ?_
      obtain ⟨q12, e13, hf⟩ := kf_b hf
      refine k_callV C [ks Z 1] (mX3_takeWord (by decide) e13) rfl (by decide) rfl kw_3_38 kw_3_40 kw_0_12 kw_1_5 kw_3_41 qX3_takeWord rfl ⟨by decide, by decide⟩ ⟨rfl, rfl⟩ (Nat.le_of_ble_eq_true rfl) dX3_readMast_48 rfl ?_ rfl
      refine (show kV Z 2 51 [(1, .int z4), (0, kr Z 48)] [.int q12.1, .int z4, kr Z 16] q12.2 from ?_)
      refine k_if_ne C 58 dX3_readMast_51 rfl rfl (fun b14 => ?_) (fun b14 => ?_)
      · replace hf := kf_f hf b14
        refine k_iconst C (0 : Int32) dX3_readMast_58 (by decide) rfl ?_
        obtain ⟨s15, e16, hf⟩ := kf_b hf
        refine k_callV C [.int z4, .int (0 : Int32)] (mX4_putUp yd_16 e16) (yd_4 yd_16) (by decide) rfl kw_3_103 kw_1_213 kw_1_214 kw_1_2 kw_1_215 qX4_putUp rfl ⟨by decide, by decide⟩ ⟨rfl, rfl⟩ (Nat.le_of_ble_eq_true rfl) dX3_readMast_59 rfl ?_ rfl
        refine (show kV Z 2 62 [(1, .int z4), (0, kr Z 48)] [] s15 from ?_)
        refine k_iconst C (1 : Int32) dX3_readMast_62 (by decide) rfl ?_
        exact k_zret C K hf rfl dX3_readMast_63
      · replace hf := kf_t hf b14
        refine k_iconst C (1 : Int32) dX3_readMast_54 (by decide) rfl ?_
        refine k_goto C 59 dX3_readMast_55 rfl ?_
        obtain ⟨s17, e18, hf⟩ := kf_b hf
        refine k_callV C [.int z4, .int (1 : Int32)] (mX4_putUp yd_16 e18) (yd_4 yd_16) (by decide) rfl kw_3_103 kw_1_213 kw_1_214 kw_1_2 kw_1_215 qX4_putUp rfl ⟨by decide, by decide⟩ ⟨rfl, rfl⟩ (Nat.le_of_ble_eq_true rfl) dX3_readMast_59 rfl ?_ rfl
        refine (show kV Z 2 62 [(1, .int z4), (0, kr Z 48)] [] s17 from ?_)
        refine k_iconst C (1 : Int32) dX3_readMast_62 (by decide) rfl ?_
        exact k_zret C K hf rfl dX3_readMast_63
    · replace hf := kf_t hf b8
      refine k_iconst C (0 : Int32) dX3_readMast_25 (by decide) rfl ?_
      exact k_zret C K hf rfl dX3_readMast_26
  · replace hf := kf_t hf b3
    refine k_iconst C (0 : Int32) dX3_readMast_8 (by decide) rfl ?_
    exact k_zret C K hf rfl dX3_readMast_9
theorem mX3_readMast {G : kG}   {st : kM} {res : Int32 × kM} (hf : fX3_readMast st = some res) : kCt G yX3_readMast cX3_readMast 2 (some .boolean) rmX3_readMast [.ref (G.2.1 48)] st (some (.int res.1)) res.2 := kMet (by decide) (Nat.le_of_ble_eq_true rfl) ⟨rfl, rfl⟩ (fun X A Q C K => tX3_readMast C  hf K)
theorem qX3_readMast : yX3_readMast.cls = RX3 ∧ yX3_readMast.cls ≠ "java/lang/invoke/MethodHandle" ∧ yX3_readMast.cls ≠ "java/lang/invoke/VarHandle" ∧ (parseMethodDescriptor yX3_readMast.desc).map (fun d => d.parameters.length) = some 0 := ⟨rfl, by decide, by decide, by decide +kernel⟩
-- TalkKnots$TextReader.readTease()Z
def rmX3_readTease : Room := { frames := 3, cells := 0, slots := 0, locals := 63 }
def fX3_readTease (st : kM) : Option (Int32 × kM) :=
  (fX3_takeNumber ((st.1 16 1) - (1 : Int32)) st).bind fun q1 => (if q1.1 = 0 then (some ((0 : Int32), q1.2)) else (if (q1.2.1 48 6) < 0 ∨ 10 ≤ (q1.2.1 48 6).toNatClampNeg then none else ((fX0_beTeased (16 + 5 + (q1.2.1 48 6).toNatClampNeg) q1.2).bind fun s5 => (some ((1 : Int32), s5)))))
set_option maxRecDepth 100000 in
theorem tX3_readTease {Z : kZ} (C : kC Z cX3_readTease RX3 1 rmX3_readTease)   {st : kM} {res : Int32 × kM} (hf : fX3_readTease st = some res) (K : kEnd Z (some .boolean) (some (.int res.1)) res.2) : kV Z 1 0 [(0, kr Z 48)] [] st := by
  unfold fX3_readTease at hf
  refine k_aload_n C 0 dX3_readTease_0 rfl rfl rfl ?_
  refine k_aload_n C 0 dX3_readTease_1 rfl rfl rfl ?_
  refine g_X3_yard C rfl kw_1_118 dX3_readTease_2 rfl ?_
  refine g_X4_count C (yd_4 yd_16) kw_1_67 dX3_readTease_5 rfl ?_
  refine k_iconst C (1 : Int32) dX3_readTease_8 (by decide) rfl ?_
  refine k_isub C dX3_readTease_9 rfl ?_
  obtain ⟨q1, e2, hf⟩ := kf_b hf
  refine k_callV C [.int ((st.1 16 1) - (1 : Int32))] (mX3_takeNumber e2) rfl (by decide) rfl kw_3_98 kw_3_100 kw_0_15 kw_1_5 kw_3_101 qX3_takeNumber rfl ⟨by decide, by decide⟩ ⟨rfl, rfl⟩ (Nat.le_of_ble_eq_true rfl) dX3_readTease_10 rfl ?_ rfl
  refine (show kV Z 1 13 [(0, kr Z 48)] [.int q1.1] q1.2 from ?_)
  refine k_if_ne C 18 dX3_readTease_13 rfl rfl (fun b3 => ?_) (fun b3 => ?_)
  · replace hf := kf_f hf b3
    refine k_aload_n C 0 dX3_readTease_18 rfl rfl rfl ?_
    refine g_X3_yard C rfl kw_1_118 dX3_readTease_19 rfl ?_
    refine g_X4_knots C (yd_4 yd_16) kw_1_78 dX3_readTease_22 rfl ?_
    refine k_aload_n C 0 dX3_readTease_25 rfl rfl rfl ?_
    refine g_X3_taken C rfl kw_1_123 dX3_readTease_26 rfl ?_
    obtain ⟨g4, hf⟩ := kf_g hf
    refine k_aldK C yd_16 g4 dX3_readTease_29 rfl ?_
    obtain ⟨s5, e6, hf⟩ := kf_b hf
    refine k_callV C [] (mX0_beTeased (yd_n yd_16 (vi_lt g4)) e6) (yd_n yd_16 (vi_lt g4)) (by decide) rfl kw_3_114 kw_2_108 kw_2_109 kw_1_3 kw_2_110 qX0_beTeased rfl ⟨by decide, by decide⟩ ⟨rfl, rfl⟩ (Nat.le_of_ble_eq_true rfl) dX3_readTease_30 rfl ?_ rfl
    refine (show kV Z 1 33 [(0, kr Z 48)] [] s5 from ?_)
    refine k_iconst C (1 : Int32) dX3_readTease_33 (by decide) rfl ?_
    exact k_zret C K hf rfl dX3_readTease_34
  · replace hf := kf_t hf b3
    refine k_iconst C (0 : Int32) dX3_readTease_16 (by decide) rfl ?_
    exact k_zret C K hf rfl dX3_readTease_17
theorem mX3_readTease {G : kG}   {st : kM} {res : Int32 × kM} (hf : fX3_readTease st = some res) : kCt G yX3_readTease cX3_readTease 1 (some .boolean) rmX3_readTease [.ref (G.2.1 48)] st (some (.int res.1)) res.2 := kMet (by decide) (Nat.le_of_ble_eq_true rfl) ⟨rfl, rfl⟩ (fun X A Q C K => tX3_readTease C  hf K)
theorem qX3_readTease : yX3_readTease.cls = RX3 ∧ yX3_readTease.cls ≠ "java/lang/invoke/MethodHandle" ∧ yX3_readTease.cls ≠ "java/lang/invoke/VarHandle" ∧ (parseMethodDescriptor yX3_readTease.desc).map (fun d => d.parameters.length) = some 0 := ⟨rfl, by decide, by decide, by decide +kernel⟩
-- TalkKnots$TextReader.readWind()Z
def rmX3_readWind : Room := { frames := 3, cells := 0, slots := 0, locals := 63 }
def fX3_readWind (st : kM) : Option (Int32 × kM) :=
  (fX3_takeNumber (11 : Int32) st).bind fun q1 => (if q1.1 = 0 then (some ((0 : Int32), q1.2)) else ((some (q1.2.1 48 6)).bind fun z4 => ((fX3_takeNumber (99 : Int32) q1.2).bind fun q6 => (if q6.1 = 0 then (some ((0 : Int32), q6.2)) else (if z4 < 0 ∨ 12 ≤ z4.toNatClampNeg then none else ((some (kwr q6.2 (16 + 1) z4.toNatClampNeg (q6.2.1 48 6))).bind fun s10 => (some ((1 : Int32), s10))))))))
set_option maxRecDepth 100000 in
theorem tX3_readWind {Z : kZ} (C : kC Z cX3_readWind RX3 2 rmX3_readWind)   {st : kM} {res : Int32 × kM} (hf : fX3_readWind st = some res) (K : kEnd Z (some .boolean) (some (.int res.1)) res.2) : kV Z 2 0 [(0, kr Z 48)] [] st := by
  unfold fX3_readWind at hf
  refine k_aload_n C 0 dX3_readWind_0 rfl rfl rfl ?_
  refine k_bipush C (11 : Int32) dX3_readWind_1 (by decide) rfl ?_
  obtain ⟨q1, e2, hf⟩ := kf_b hf
  refine k_callV C [.int (11 : Int32)] (mX3_takeNumber e2) rfl (by decide) rfl kw_3_98 kw_3_100 kw_0_15 kw_1_5 kw_3_101 qX3_takeNumber rfl ⟨by decide, by decide⟩ ⟨rfl, rfl⟩ (Nat.le_of_ble_eq_true rfl) dX3_readWind_3 rfl ?_ rfl
  refine (show kV Z 2 6 [(0, kr Z 48)] [.int q1.1] q1.2 from ?_)
  refine k_if_ne C 11 dX3_readWind_6 rfl rfl (fun b3 => ?_) (fun b3 => ?_)
  · replace hf := kf_f hf b3
    refine k_aload_n C 0 dX3_readWind_11 rfl rfl rfl ?_
    refine g_X3_taken C rfl kw_1_123 dX3_readWind_12 rfl ?_
    obtain ⟨z4, e5, hf⟩ := kf_b hf
    refine k_topi e5 ?_
    refine k_istore_n (lv' := [(1, .int z4), (0, kr Z 48)]) C dX3_readWind_15 rfl (by decide) rfl rfl ?_
    refine k_aload_n C 1 dX3_readWind_16 rfl rfl rfl ?_
    refine k_bipush C (99 : Int32) dX3_readWind_17 (by decide) rfl ?_
    obtain ⟨q6, e7, hf⟩ := kf_b hf
    refine k_callV C [.int (99 : Int32)] (mX3_takeNumber e7) rfl (by decide) rfl kw_3_98 kw_3_100 kw_0_15 kw_1_5 kw_3_101 qX3_takeNumber rfl ⟨by decide, by decide⟩ ⟨rfl, rfl⟩ (Nat.le_of_ble_eq_true rfl) dX3_readWind_19 rfl ?_ rfl
    refine (show kV Z 2 22 [(1, .int z4), (0, kr Z 48)] [.int q6.1] q6.2 from ?_)
    refine k_if_ne C 27 dX3_readWind_22 rfl rfl (fun b8 => ?_) (fun b8 => ?_)
    · replace hf := kf_f hf b8
      refine k_aload_n C 1 dX3_readWind_27 rfl rfl rfl ?_
      refine g_X3_yard C rfl kw_1_118 dX3_readWind_28 rfl ?_
      refine g_X4_winds C (yd_4 yd_16) kw_1_73 dX3_readWind_31 rfl ?_
      refine k_iload_n C 0 dX3_readWind_34 rfl rfl rfl ?_
      refine k_aload_n C 1 dX3_readWind_35 rfl rfl rfl ?_
      refine g_X3_taken C rfl kw_1_123 dX3_readWind_36 rfl ?_
      obtain ⟨g9, hf⟩ := kf_g hf
      refine k_iast (j := z4.toNatClampNeg) C (yd_w yd_16) g9 rfl dX3_readWind_39 rfl ?_
      obtain ⟨s10, e11, hf⟩ := kf_b hf
      refine k_st e11 ?_
      refine k_iconst C (1 : Int32) dX3_readWind_40 (by decide) rfl ?_
      exact k_zret C K hf rfl dX3_readWind_41
    · replace hf := kf_t hf b8
      refine k_iconst C (0 : Int32) dX3_readWind_25 (by decide) rfl ?_
      exact k_zret C K hf rfl dX3_readWind_26
  · replace hf := kf_t hf b3
    refine k_iconst C (0 : Int32) dX3_readWind_9 (by decide) rfl ?_
    exact k_zret C K hf rfl dX3_readWind_10
theorem mX3_readWind {G : kG}   {st : kM} {res : Int32 × kM} (hf : fX3_readWind st = some res) : kCt G yX3_readWind cX3_readWind 2 (some .boolean) rmX3_readWind [.ref (G.2.1 48)] st (some (.int res.1)) res.2 := kMet (by decide) (Nat.le_of_ble_eq_true rfl) ⟨rfl, rfl⟩ (fun X A Q C K => tX3_readWind C  hf K)
theorem qX3_readWind : yX3_readWind.cls = RX3 ∧ yX3_readWind.cls ≠ "java/lang/invoke/MethodHandle" ∧ yX3_readWind.cls ≠ "java/lang/invoke/VarHandle" ∧ (parseMethodDescriptor yX3_readWind.desc).map (fun d => d.parameters.length) = some 0 := ⟨rfl, by decide, by decide, by decide +kernel⟩
-- TalkKnots$TextReader.readItem()Z
def rmX3_readItem : Room := { frames := 7, cells := 0, slots := 0, locals := 150 }
def fX3_readItem (st : kM) : Option (Int32 × kM) :=
  (fX3_takeWord 0 st).bind fun q1 => (if q1.1 = 0 then ((fX3_takeWord 2 q1.2).bind fun q4 => (if q4.1 = 0 then ((fX3_takeWord 3 q4.2).bind fun q7 => (if q7.1 = 0 then ((fX3_readKnot q7.2).bind fun q10 => (if q10.1 = 0 ∨ q10.1 = 1 then some (q10.1, q10.2) else none)) else ((fX3_readTease q7.2).bind fun q12 => (if q12.1 = 0 ∨ q12.1 = 1 then some (q12.1, q12.2) else none)))) else ((fX3_readWind q4.2).bind fun q14 => (if q14.1 = 0 ∨ q14.1 = 1 then some (q14.1, q14.2) else none)))) else ((fX3_readMast q1.2).bind fun q16 => (if q16.1 = 0 ∨ q16.1 = 1 then some (q16.1, q16.2) else none)))
set_option maxRecDepth 100000 in
theorem tX3_readItem {Z : kZ} (C : kC Z cX3_readItem RX3 1 rmX3_readItem)   {st : kM} {res : Int32 × kM} (hf : fX3_readItem st = some res) (K : kEnd Z (some .boolean) (some (.int res.1)) res.2) : kV Z 1 0 [(0, kr Z 48)] [] st := by
  unfold fX3_readItem at hf
  refine k_aload_n C 0 dX3_readItem_0 rfl rfl rfl ?_
  refine k_ldcS C 0 (by decide) rfl dX3_readItem_1 rfl ?_
  obtain ⟨q1, e2, hf⟩ := kf_b hf
  refine k_callV C [ks Z 0] (mX3_takeWord (by decide) e2) rfl (by decide) rfl kw_3_38 kw_3_40 kw_0_12 kw_1_5 kw_3_41 qX3_takeWord rfl ⟨by decide, by decide⟩ ⟨rfl, rfl⟩ (Nat.le_of_ble_eq_true rfl) dX3_readItem_3 rfl ?_ rfl
  refine (show kV Z 1 6 [(0, kr Z 48)] [.int q1.1] q1.2 from ?_)
  refine k_if_eq C 14 dX3_readItem_6 rfl rfl (fun b3 => ?_) (fun b3 => ?_)
  · replace hf := kf_t hf b3
    refine k_aload_n C 0 dX3_readItem_14 rfl rfl rfl ?_
    refine k_ldcS C 2 (by decide) rfl dX3_readItem_15 rfl ?_
    obtain ⟨q4, e5, hf⟩ := kf_b hf
    refine k_callV C [ks Z 2] (mX3_takeWord (by decide) e5) rfl (by decide) rfl kw_3_38 kw_3_40 kw_0_12 kw_1_5 kw_3_41 qX3_takeWord rfl ⟨by decide, by decide⟩ ⟨rfl, rfl⟩ (Nat.le_of_ble_eq_true rfl) dX3_readItem_17 rfl ?_ rfl
    refine (show kV Z 1 20 [(0, kr Z 48)] [.int q4.1] q4.2 from ?_)
    refine k_if_eq C 28 dX3_readItem_20 rfl rfl (fun b6 => ?_) (fun b6 => ?_)
    · replace hf := kf_t hf b6
      refine k_aload_n C 0 dX3_readItem_28 rfl rfl rfl ?_
      refine k_ldcS C 3 (by decide) rfl dX3_readItem_29 rfl ?_
      obtain ⟨q7, e8, hf⟩ := kf_b hf
      refine k_callV C [ks Z 3] (mX3_takeWord (by decide) e8) rfl (by decide) rfl kw_3_38 kw_3_40 kw_0_12 kw_1_5 kw_3_41 qX3_takeWord rfl ⟨by decide, by decide⟩ ⟨rfl, rfl⟩ (Nat.le_of_ble_eq_true rfl) dX3_readItem_31 rfl ?_ rfl
      refine (show kV Z 1 34 [(0, kr Z 48)] [.int q7.1] q7.2 from ?_)
      refine k_if_eq C 42 dX3_readItem_34 rfl rfl (fun b9 => ?_) (fun b9 => ?_)
      · replace hf := kf_t hf b9
        refine k_aload_n C 0 dX3_readItem_42 rfl rfl rfl ?_
        obtain ⟨q10, e11, hf⟩ := kf_b hf
        refine k_callV C [] (mX3_readKnot e11) rfl (by decide) rfl kw_3_115 kw_3_117 kw_0_18 kw_1_5 kw_3_118 qX3_readKnot rfl ⟨by decide, by decide⟩ ⟨rfl, rfl⟩ (Nat.le_of_ble_eq_true rfl) dX3_readItem_43 rfl ?_ rfl
        refine (show kV Z 1 46 [(0, kr Z 48)] [.int q10.1] q10.2 from ?_)
        obtain ⟨g0, hf⟩ := kf_y hf
        exact k_zret C K hf (kb_n g0) dX3_readItem_46
      · replace hf := kf_f hf b9
        refine k_aload_n C 0 dX3_readItem_37 rfl rfl rfl ?_
        obtain ⟨q12, e13, hf⟩ := kf_b hf
        refine k_callV C [] (mX3_readTease e13) rfl (by decide) rfl kw_3_110 kw_3_112 kw_0_17 kw_1_5 kw_3_113 qX3_readTease rfl ⟨by decide, by decide⟩ ⟨rfl, rfl⟩ (Nat.le_of_ble_eq_true rfl) dX3_readItem_38 rfl ?_ rfl
        refine (show kV Z 1 41 [(0, kr Z 48)] [.int q12.1] q12.2 from ?_)
        obtain ⟨g0, hf⟩ := kf_y hf
        exact k_zret C K hf (kb_n g0) dX3_readItem_41
    · replace hf := kf_f hf b6
      refine k_aload_n C 0 dX3_readItem_23 rfl rfl rfl ?_
      obtain ⟨q14, e15, hf⟩ := kf_b hf
      refine k_callV C [] (mX3_readWind e15) rfl (by decide) rfl kw_3_105 kw_3_107 kw_0_16 kw_1_5 kw_3_108 qX3_readWind rfl ⟨by decide, by decide⟩ ⟨rfl, rfl⟩ (Nat.le_of_ble_eq_true rfl) dX3_readItem_24 rfl ?_ rfl
      refine (show kV Z 1 27 [(0, kr Z 48)] [.int q14.1] q14.2 from ?_)
      obtain ⟨g0, hf⟩ := kf_y hf
      exact k_zret C K hf (kb_n g0) dX3_readItem_27
  · replace hf := kf_f hf b3
    refine k_aload_n C 0 dX3_readItem_9 rfl rfl rfl ?_
    obtain ⟨q16, e17, hf⟩ := kf_b hf
    refine k_callV C [] (mX3_readMast e17) rfl (by decide) rfl kw_3_94 kw_3_96 kw_0_14 kw_1_5 kw_3_97 qX3_readMast rfl ⟨by decide, by decide⟩ ⟨rfl, rfl⟩ (Nat.le_of_ble_eq_true rfl) dX3_readItem_10 rfl ?_ rfl
    refine (show kV Z 1 13 [(0, kr Z 48)] [.int q16.1] q16.2 from ?_)
    obtain ⟨g0, hf⟩ := kf_y hf
    exact k_zret C K hf (kb_n g0) dX3_readItem_13
theorem mX3_readItem {G : kG}   {st : kM} {res : Int32 × kM} (hf : fX3_readItem st = some res) : kCt G yX3_readItem cX3_readItem 1 (some .boolean) rmX3_readItem [.ref (G.2.1 48)] st (some (.int res.1)) res.2 := kMet (by decide) (Nat.le_of_ble_eq_true rfl) ⟨rfl, rfl⟩ (fun X A Q C K => tX3_readItem C  hf K)
theorem qX3_readItem : yX3_readItem.cls = RX3 ∧ yX3_readItem.cls ≠ "java/lang/invoke/MethodHandle" ∧ yX3_readItem.cls ≠ "java/lang/invoke/VarHandle" ∧ (parseMethodDescriptor yX3_readItem.desc).map (fun d => d.parameters.length) = some 0 := ⟨rfl, by decide, by decide, by decide +kernel⟩
-- TalkKnots$TextReader.readText()I
def rmX3_readText : Room := { frames := 8, cells := 0, slots := 0, locals := 170 }
def fX3_readText_11 : Nat → Int32 → kM → Option (Int32 × kM)
  | 0, _, _ => none
  | n + 1, x1, st =>
    if (120 : Int32) < x1 then (some (((-1 : Int32) - (st.1 48 4)), st)) else ((fX3_readItem st).bind fun q2 => (if q2.1 = 0 then (some (((-1 : Int32) - (q2.2.1 48 4)), q2.2)) else (if (q2.2.1 48 3) = 0 then (some (x1, q2.2)) else (if (q2.2.1 48 3) = (3 : Int32) then ((fX3_readToken q2.2).bind fun s7 => (fX3_readText_11 n (x1 + (1 : Int32)) s7)) else (some (((-1 : Int32) - (q2.2.1 48 4)), q2.2))))))
def fX3_readText (st : kM) : Option (Int32 × kM) :=
  (some (kwr st 48 2 (0 : Int32))).bind fun s1 => ((fX3_readToken s1).bind fun s3 => (fX3_readText_11 kfu (1 : Int32) s3))
set_option maxRecDepth 100000 in
theorem tX3_readText_11 {Z : kZ} (C : kC Z cX3_readText RX3 2 rmX3_readText) {res : Int32 × kM} (K : kEnd Z (some .int) (some (.int res.1)) res.2) : ∀ (n : Nat) (x1 : Int32) (st : kM), fX3_readText_11 n x1 st = some res → kV Z 2 11 [(0, kr Z 48), (1, .int x1)] [] st := by
  intro n
  induction n with
  | zero => intro x1 st hf; cases hf
  | succ n ih =>
    intro x1 st hf
    unfold fX3_readText_11 at hf
    refine k_iload_n C 1 dX3_readText_11 rfl rfl rfl ?_
    refine k_bipush C (120 : Int32) dX3_readText_12 (by decide) rfl ?_
    refine k_icmp_gt C 57 dX3_readText_14 rfl rfl (fun b1 => ?_) (fun b1 => ?_)
    · replace hf := kf_t hf b1
      refine k_iconst C (-1 : Int32) dX3_readText_57 (by decide) rfl ?_
      refine k_aload_n C 0 dX3_readText_58 rfl rfl rfl ?_
      refine g_X3_start C rfl kw_1_121 dX3_readText_59 rfl ?_
      refine k_isub C dX3_readText_62 rfl ?_
      exact k_iret C K hf dX3_readText_63
    · replace hf := kf_f hf b1
      refine k_aload_n C 0 dX3_readText_17 rfl rfl rfl ?_
      obtain ⟨q2, e3, hf⟩ := kf_b hf
      refine k_callV C [] (mX3_readItem e3) rfl (by decide) rfl kw_3_33 kw_3_35 kw_0_11 kw_1_5 kw_3_36 qX3_readItem rfl ⟨by decide, by decide⟩ ⟨rfl, rfl⟩ (Nat.le_of_ble_eq_true rfl) dX3_readText_18 rfl ?_ rfl
      refine (show kV Z 2 21 [(0, kr Z 48), (1, .int x1)] [.int q2.1] q2.2 from ?_)
      refine k_if_ne C 27 dX3_readText_21 rfl rfl (fun b4 => ?_) (fun b4 => ?_)
      · replace hf := kf_f hf b4
        refine k_aload_n C 0 dX3_readText_27 rfl rfl rfl ?_
        refine g_X3_token C rfl kw_1_120 dX3_readText_28 rfl ?_
        refine k_if_ne C 36 dX3_readText_31 rfl rfl (fun b5 => ?_) (fun b5 => ?_)
        · replace hf := kf_f hf b5
          refine k_aload_n C 0 dX3_readText_36 rfl rfl rfl ?_
          refine g_X3_token C rfl kw_1_120 dX3_readText_37 rfl ?_
          refine k_iconst C (3 : Int32) dX3_readText_40 (by decide) rfl ?_
          refine k_icmp_eq C 47 dX3_readText_41 rfl rfl (fun b6 => ?_) (fun b6 => ?_)
          · replace hf := kf_t hf b6
            refine k_aload_n C 0 dX3_readText_47 rfl rfl rfl ?_
            obtain ⟨s7, e8, hf⟩ := kf_b hf
            refine k_callV C [] (mX3_readToken e8) rfl (by decide) rfl kw_3_18 kw_3_20 kw_0_10 kw_1_5 kw_3_21 qX3_readToken rfl ⟨by decide, by decide⟩ ⟨rfl, rfl⟩ (Nat.le_of_ble_eq_true rfl) dX3_readText_48 rfl ?_ rfl
            refine (show kV Z 2 51 [(0, kr Z 48), (1, .int x1)] [] s7 from ?_)
            refine k_iinc (lv' := [(1, .int (x1 + (1 : Int32))), (0, kr Z 48)]) C (x1 + (1 : Int32)) 1 dX3_readText_51 rfl rfl (by decide) rfl rfl ?_
            refine k_goto C 11 dX3_readText_54 rfl ?_
            refine k_lv (lv' := [(0, kr Z 48), (1, .int (x1 + (1 : Int32)))]) [1, 0] rfl ?_
            exact ih (x1 + (1 : Int32)) s7  hf
          · replace hf := kf_f hf b6
            refine k_goto C 57 dX3_readText_44 rfl ?_
            refine k_iconst C (-1 : Int32) dX3_readText_57 (by decide) rfl ?_
            refine k_aload_n C 0 dX3_readText_58 rfl rfl rfl ?_
            refine g_X3_start C rfl kw_1_121 dX3_readText_59 rfl ?_
            refine k_isub C dX3_readText_62 rfl ?_
            exact k_iret C K hf dX3_readText_63
        · replace hf := kf_t hf b5
          refine k_iload_n C 1 dX3_readText_34 rfl rfl rfl ?_
          exact k_iret C K hf dX3_readText_35
      · replace hf := kf_t hf b4
        refine k_goto C 57 dX3_readText_24 rfl ?_
        refine k_iconst C (-1 : Int32) dX3_readText_57 (by decide) rfl ?_
        refine k_aload_n C 0 dX3_readText_58 rfl rfl rfl ?_
        refine g_X3_start C rfl kw_1_121 dX3_readText_59 rfl ?_
        refine k_isub C dX3_readText_62 rfl ?_
        exact k_iret C K hf dX3_readText_63
set_option maxRecDepth 100000 in
theorem tX3_readText {Z : kZ} (C : kC Z cX3_readText RX3 2 rmX3_readText)   {st : kM} {res : Int32 × kM} (hf : fX3_readText st = some res) (K : kEnd Z (some .int) (some (.int res.1)) res.2) : kV Z 2 0 [(0, kr Z 48)] [] st := by
  unfold fX3_readText at hf
  refine k_aload_n C 0 dX3_readText_0 rfl rfl rfl ?_
  refine k_iconst C (0 : Int32) dX3_readText_1 (by decide) rfl ?_
  refine p_X3_at C rfl kw_1_119 dX3_readText_2 rfl ?_
  obtain ⟨s1, e2, hf⟩ := kf_b hf
  refine k_st e2 ?_
  refine k_aload_n C 0 dX3_readText_5 rfl rfl rfl ?_
  obtain ⟨s3, e4, hf⟩ := kf_b hf
  refine k_callV C [] (mX3_readToken e4) rfl (by decide) rfl kw_3_18 kw_3_20 kw_0_10 kw_1_5 kw_3_21 qX3_readToken rfl ⟨by decide, by decide⟩ ⟨rfl, rfl⟩ (Nat.le_of_ble_eq_true rfl) dX3_readText_6 rfl ?_ rfl
  refine (show kV Z 2 9 [(0, kr Z 48)] [] s3 from ?_)
  refine k_iconst C (1 : Int32) dX3_readText_9 (by decide) rfl ?_
  refine k_istore_n (lv' := [(1, .int (1 : Int32)), (0, kr Z 48)]) C dX3_readText_10 rfl (by decide) rfl rfl ?_
  refine k_lv (lv' := [(0, kr Z 48), (1, .int (1 : Int32))]) [1, 0] rfl ?_
  exact tX3_readText_11 C K _ (1 : Int32) s3 hf
theorem mX3_readText {G : kG}   {st : kM} {res : Int32 × kM} (hf : fX3_readText st = some res) : kCt G yX3_readText cX3_readText 2 (some .int) rmX3_readText [.ref (G.2.1 48)] st (some (.int res.1)) res.2 := kMet (by decide) (Nat.le_of_ble_eq_true rfl) ⟨rfl, rfl⟩ (fun X A Q C K => tX3_readText C  hf K)
theorem qX3_readText : yX3_readText.cls = RX3 ∧ yX3_readText.cls ≠ "java/lang/invoke/MethodHandle" ∧ yX3_readText.cls ≠ "java/lang/invoke/VarHandle" ∧ (parseMethodDescriptor yX3_readText.desc).map (fun d => d.parameters.length) = some 0 := ⟨rfl, by decide, by decide, by decide +kernel⟩
-- TalkKnots$Yard.become(LTalkKnots$Yard;)V
def rmX4_become : Room := { frames := 1, cells := 0, slots := 0, locals := 40 }
def fX4_become_55 (c : Nat) : Nat → Nat → Int32 → kM → Option (kM)
  | 0, _, _, _ => none
  | n + 1, x1, x2, st =>
    if (st.1 c 1) ≤ x2 then (some st) else (if x2 < 0 ∨ 10 ≤ x2.toNatClampNeg then none else ((fX0_beLike (c + 5 + x2.toNatClampNeg) (x1 + 5 + x2.toNatClampNeg) st).bind fun s3 => (fX4_become_55 c n x1 (x2 + (1 : Int32)) s3)))
def fX4_become (c : Nat) (c1 : Nat) (st : kM) : Option (kM) :=
  (some (kwr st c 0 (st.1 c1 0))).bind fun s1 => ((some (kwr s1 c 1 (s1.1 c1 1))).bind fun s3 => ((some (kwr s3 c 2 (s3.1 c1 2))).bind fun s5 => ((some (kset s5 (c + 1) (va_cpy (s5.1 (c1 + 1)) (s5.1 (c + 1)) (0 : Int32).toNatClampNeg (0 : Int32).toNatClampNeg (12 : Int32).toNatClampNeg))).bind fun s7 => ((some (kset s7 (c + 2) (va_cpy (s7.1 (c1 + 2)) (s7.1 (c + 2)) (0 : Int32).toNatClampNeg (0 : Int32).toNatClampNeg (4 : Int32).toNatClampNeg))).bind fun s9 => (fX4_become_55 c kfu c1 (0 : Int32) s9)))))
set_option maxRecDepth 100000 in
theorem tX4_become_55 {Z : kZ} (C : kC Z cX4_become RX4 3 rmX4_become) {c : Nat} (hc : yd c) {res : kM} (K : kEnd Z none none res) : ∀ (n : Nat) (x1 : Nat) (x2 : Int32) (st : kM), (hx1 : yd x1) → fX4_become_55 c n x1 x2 st = some res → kV Z 3 55 [(0, kr Z c), (1, kr Z x1), (2, .int x2)] [] st := by
  intro n
  induction n with
  | zero => intro x1 x2 st hx1 hf; cases hf
  | succ n ih =>
    intro x1 x2 st hx1 hf
    unfold fX4_become_55 at hf
    refine k_iload_n C 2 dX4_become_55 rfl rfl rfl ?_
    refine k_aload_n C 0 dX4_become_56 rfl rfl rfl ?_
    refine g_X4_count C (yd_4 hc) kw_1_66 dX4_become_57 rfl ?_
    refine k_icmp_ge C 84 dX4_become_60 rfl rfl (fun b1 => ?_) (fun b1 => ?_)
    · replace hf := kf_t hf b1
      exact k_vret C K hf dX4_become_84
    · replace hf := kf_f hf b1
      refine k_aload_n C 0 dX4_become_63 rfl rfl rfl ?_
      refine g_X4_knots C (yd_4 hc) kw_1_77 dX4_become_64 rfl ?_
      refine k_iload_n C 2 dX4_become_67 rfl rfl rfl ?_
      obtain ⟨g2, hf⟩ := kf_g hf
      refine k_aldK C hc g2 dX4_become_68 rfl ?_
      refine k_aload_n C 1 dX4_become_69 rfl rfl rfl ?_
      refine g_X4_knots C (yd_4 hx1) kw_1_77 dX4_become_70 rfl ?_
      refine k_iload_n C 2 dX4_become_73 rfl rfl rfl ?_
      refine k_aldK C hx1 g2 dX4_become_74 rfl ?_
      obtain ⟨s3, e4, hf⟩ := kf_b hf
      refine k_callV C [kr Z (x1 + 5 + x2.toNatClampNeg)] (mX0_beLike (yd_n hc (vi_lt g2)) (yd_n hx1 (vi_lt g2)) e4) (yd_n hc (vi_lt g2)) (by decide) rfl kw_2_171 kw_2_172 kw_2_173 kw_1_3 kw_2_174 qX0_beLike rfl ⟨by decide, by decide⟩ ⟨rfl, rfl⟩ (Nat.le_of_ble_eq_true rfl) dX4_become_75 rfl ?_ rfl
      refine (show kV Z 3 78 [(0, kr Z c), (1, kr Z x1), (2, .int x2)] [] s3 from ?_)
      refine k_iinc (lv' := [(2, .int (x2 + (1 : Int32))), (0, kr Z c), (1, kr Z x1)]) C (x2 + (1 : Int32)) 2 dX4_become_78 rfl rfl (by decide) rfl rfl ?_
      refine k_goto C 55 dX4_become_81 rfl ?_
      refine k_lv (lv' := [(0, kr Z c), (1, kr Z x1), (2, .int (x2 + (1 : Int32)))]) [1, 2, 0] rfl ?_
      exact ih x1 (x2 + (1 : Int32)) s3 hx1 hf
set_option maxRecDepth 100000 in
theorem tX4_become {Z : kZ} (C : kC Z cX4_become RX4 3 rmX4_become) {c : Nat} {c1 : Nat} (hc : yd c) (hc1 : yd c1) {st : kM} {res : kM} (hf : fX4_become c c1 st = some res) (K : kEnd Z none none res) : kV Z 3 0 [(0, kr Z c), (1, kr Z c1)] [] st := by
  unfold fX4_become at hf
  refine k_aload_n C 0 dX4_become_0 rfl rfl rfl ?_
  refine k_aload_n C 1 dX4_become_1 rfl rfl rfl ?_
  refine g_X4_hour C (yd_4 hc1) kw_1_64 dX4_become_2 rfl ?_
  refine p_X4_hour C (yd_4 hc) kw_1_64 dX4_become_5 rfl ?_
  obtain ⟨s1, e2, hf⟩ := kf_b hf
  refine k_st e2 ?_
  refine k_aload_n C 0 dX4_become_8 rfl rfl rfl ?_
  refine k_aload_n C 1 dX4_become_9 rfl rfl rfl ?_
  refine g_X4_count C (yd_4 hc1) kw_1_66 dX4_become_10 rfl ?_
  refine p_X4_count C (yd_4 hc) kw_1_66 dX4_become_13 rfl ?_
  obtain ⟨s3, e4, hf⟩ := kf_b hf
  refine k_st e4 ?_
  refine k_aload_n C 0 dX4_become_16 rfl rfl rfl ?_
  refine k_aload_n C 1 dX4_become_17 rfl rfl rfl ?_
  refine g_X4_up C (yd_4 hc1) kw_1_69 dX4_become_18 rfl ?_
  refine p_X4_up C (yd_4 hc) kw_1_69 dX4_become_21 rfl ?_
  obtain ⟨s5, e6, hf⟩ := kf_b hf
  refine k_st e6 ?_
  refine k_aload_n C 1 dX4_become_24 rfl rfl rfl ?_
  refine g_X4_winds C (yd_4 hc1) kw_1_71 dX4_become_25 rfl ?_
  refine k_iconst C (0 : Int32) dX4_become_28 (by decide) rfl ?_
  refine k_aload_n C 0 dX4_become_29 rfl rfl rfl ?_
  refine g_X4_winds C (yd_4 hc) kw_1_71 dX4_become_30 rfl ?_
  refine k_iconst C (0 : Int32) dX4_become_33 (by decide) rfl ?_
  refine k_bipush C (12 : Int32) dX4_become_34 (by decide) rfl ?_
  refine k_copyi C kw_2_168 kw_2_170 kw_2_169 kw_1_9 (yd_w hc1) (yd_w hc) (by decide) (by decide) (by decide) (by decide) (by decide) ⟨by decide, by decide⟩ (Nat.le_of_ble_eq_true rfl) dX4_become_36 rfl ?_
  obtain ⟨s7, e8, hf⟩ := kf_b hf
  refine k_st e8 ?_
  refine k_aload_n C 1 dX4_become_39 rfl rfl rfl ?_
  refine g_X4_weights C (yd_4 hc1) kw_1_74 dX4_become_40 rfl ?_
  refine k_iconst C (0 : Int32) dX4_become_43 (by decide) rfl ?_
  refine k_aload_n C 0 dX4_become_44 rfl rfl rfl ?_
  refine g_X4_weights C (yd_4 hc) kw_1_74 dX4_become_45 rfl ?_
  refine k_iconst C (0 : Int32) dX4_become_48 (by decide) rfl ?_
  refine k_iconst C (4 : Int32) dX4_become_49 (by decide) rfl ?_
  refine k_copyi C kw_2_168 kw_2_170 kw_2_169 kw_1_9 (yd_g hc1) (yd_g hc) (by decide) (by decide) (by decide) (by decide) (by decide) ⟨by decide, by decide⟩ (Nat.le_of_ble_eq_true rfl) dX4_become_50 rfl ?_
  obtain ⟨s9, e10, hf⟩ := kf_b hf
  refine k_st e10 ?_
  refine k_iconst C (0 : Int32) dX4_become_53 (by decide) rfl ?_
  refine k_istore_n (lv' := [(2, .int (0 : Int32)), (0, kr Z c), (1, kr Z c1)]) C dX4_become_54 rfl (by decide) rfl rfl ?_
  refine k_lv (lv' := [(0, kr Z c), (1, kr Z c1), (2, .int (0 : Int32))]) [1, 2, 0] rfl ?_
  exact tX4_become_55 C hc K _ c1 (0 : Int32) s9 hc1 hf
theorem mX4_become {G : kG} {c : Nat} {c1 : Nat} (hc : yd c) (hc1 : yd c1) {st : kM} {res : kM} (hf : fX4_become c c1 st = some res) : kCt G yX4_become cX4_become 3 none rmX4_become [.ref (G.2.1 c), .ref (G.2.1 c1)] st none res := kMet (by decide) (Nat.le_of_ble_eq_true rfl) ⟨rfl, rfl⟩ (fun X A Q C K => tX4_become C hc hc1 hf K)
theorem qX4_become : yX4_become.cls = RX4 ∧ yX4_become.cls ≠ "java/lang/invoke/MethodHandle" ∧ yX4_become.cls ≠ "java/lang/invoke/VarHandle" ∧ (parseMethodDescriptor yX4_become.desc).map (fun d => d.parameters.length) = some 1 := ⟨rfl, by decide, by decide, by decide +kernel⟩
-- TalkKnots$Yard.place()I
def rmX4_place : Room := { frames := 0, cells := 0, slots := 0, locals := 0 }
def fX4_place (c : Nat) (st : kM) : Option (Int32 × kM) :=
  some (((st.1 c 0) - (st.1 c 0) / (12 : Int32) * (12 : Int32)), st)
set_option maxRecDepth 100000 in
theorem tX4_place {Z : kZ} (C : kC Z cX4_place RX4 1 rmX4_place) {c : Nat} (hc : yd c) {st : kM} {res : Int32 × kM} (hf : fX4_place c st = some res) (K : kEnd Z (some .int) (some (.int res.1)) res.2) : kV Z 1 0 [(0, kr Z c)] [] st := by
  unfold fX4_place at hf
  refine k_aload_n C 0 dX4_place_0 rfl rfl rfl ?_
  refine g_X4_hour C (yd_4 hc) kw_1_64 dX4_place_1 rfl ?_
  refine k_bipush C (12 : Int32) dX4_place_4 (by decide) rfl ?_
  refine k_irem C (by decide) dX4_place_6 rfl ?_
  exact k_iret C K hf dX4_place_7
theorem mX4_place {G : kG} {c : Nat} (hc : yd c) {st : kM} {res : Int32 × kM} (hf : fX4_place c st = some res) : kCt G yX4_place cX4_place 1 (some .int) rmX4_place [.ref (G.2.1 c)] st (some (.int res.1)) res.2 := kMet (by decide) (Nat.le_of_ble_eq_true rfl) ⟨rfl, rfl⟩ (fun X A Q C K => tX4_place C hc hf K)
theorem qX4_place : yX4_place.cls = RX4 ∧ yX4_place.cls ≠ "java/lang/invoke/MethodHandle" ∧ yX4_place.cls ≠ "java/lang/invoke/VarHandle" ∧ (parseMethodDescriptor yX4_place.desc).map (fun d => d.parameters.length) = some 0 := ⟨rfl, by decide, by decide, by decide +kernel⟩
-- TalkKnots$Yard.windNow()I
def rmX4_windNow : Room := { frames := 1, cells := 0, slots := 0, locals := 20 }
def fX4_windNow (c : Nat) (st : kM) : Option (Int32 × kM) :=
  (fX4_place c st).bind fun q1 => (if q1.1 < 0 ∨ 12 ≤ q1.1.toNatClampNeg then none else (some ((q1.2.1 (c + 1) q1.1.toNatClampNeg), q1.2)))
set_option maxRecDepth 100000 in
theorem tX4_windNow {Z : kZ} (C : kC Z cX4_windNow RX4 1 rmX4_windNow) {c : Nat} (hc : yd c) {st : kM} {res : Int32 × kM} (hf : fX4_windNow c st = some res) (K : kEnd Z (some .int) (some (.int res.1)) res.2) : kV Z 1 0 [(0, kr Z c)] [] st := by
  unfold fX4_windNow at hf
  refine k_aload_n C 0 dX4_windNow_0 rfl rfl rfl ?_
  refine g_X4_winds C (yd_4 hc) kw_1_71 dX4_windNow_1 rfl ?_
  refine k_aload_n C 0 dX4_windNow_4 rfl rfl rfl ?_
  obtain ⟨q1, e2, hf⟩ := kf_b hf
  refine k_callV C [] (mX4_place hc e2) (yd_4 hc) (by decide) rfl kw_2_0 kw_2_1 kw_2_2 kw_1_2 kw_2_3 qX4_place rfl ⟨by decide, by decide⟩ ⟨rfl, rfl⟩ (Nat.le_of_ble_eq_true rfl) dX4_windNow_5 rfl ?_ rfl
  refine (show kV Z 1 8 [(0, kr Z c)] [.int q1.1, kr Z (c + 1)] q1.2 from ?_)
  obtain ⟨g3, hf⟩ := kf_g hf
  refine k_iald (j := q1.1.toNatClampNeg) C (yd_w hc) g3 rfl dX4_windNow_8 rfl ?_
  exact k_iret C K hf dX4_windNow_9
theorem mX4_windNow {G : kG} {c : Nat} (hc : yd c) {st : kM} {res : Int32 × kM} (hf : fX4_windNow c st = some res) : kCt G yX4_windNow cX4_windNow 1 (some .int) rmX4_windNow [.ref (G.2.1 c)] st (some (.int res.1)) res.2 := kMet (by decide) (Nat.le_of_ble_eq_true rfl) ⟨rfl, rfl⟩ (fun X A Q C K => tX4_windNow C hc hf K)
theorem qX4_windNow : yX4_windNow.cls = RX4 ∧ yX4_windNow.cls ≠ "java/lang/invoke/MethodHandle" ∧ yX4_windNow.cls ≠ "java/lang/invoke/VarHandle" ∧ (parseMethodDescriptor yX4_windNow.desc).map (fun d => d.parameters.length) = some 0 := ⟨rfl, by decide, by decide, by decide +kernel⟩
-- TalkKnots$Yard.isUp(I)Z
def rmX4_isUp : Room := { frames := 0, cells := 0, slots := 0, locals := 0 }
def fX4_isUp (c : Nat) (v1 : Int32) (st : kM) : Option (Int32 × kM) :=
  if (((st.1 c 2) >>> (v1 &&& 31)) &&& (1 : Int32)) = (1 : Int32) then (some ((1 : Int32), st)) else (some ((0 : Int32), st))
set_option maxRecDepth 100000 in
theorem tX4_isUp {Z : kZ} (C : kC Z cX4_isUp RX4 2 rmX4_isUp) {c : Nat} {v1 : Int32} (hc : yd c) {st : kM} {res : Int32 × kM} (hf : fX4_isUp c v1 st = some res) (K : kEnd Z (some .boolean) (some (.int res.1)) res.2) : kV Z 2 0 [(0, kr Z c), (1, .int v1)] [] st := by
  unfold fX4_isUp at hf
  refine k_aload_n C 0 dX4_isUp_0 rfl rfl rfl ?_
  refine g_X4_up C (yd_4 hc) kw_1_69 dX4_isUp_1 rfl ?_
  refine k_iload_n C 1 dX4_isUp_4 rfl rfl rfl ?_
  refine k_ishr C dX4_isUp_5 rfl ?_
  refine k_iconst C (1 : Int32) dX4_isUp_6 (by decide) rfl ?_
  refine k_iand C dX4_isUp_7 rfl ?_
  refine k_iconst C (1 : Int32) dX4_isUp_8 (by decide) rfl ?_
  refine k_icmp_ne C 16 dX4_isUp_9 rfl rfl (fun b1 => ?_) (fun b1 => ?_)
  · replace hf := kf_f hf b1
    refine k_iconst C (0 : Int32) dX4_isUp_16 (by decide) rfl ?_
    exact k_zret C K hf rfl dX4_isUp_17
  · replace hf := kf_t hf b1
    refine k_iconst C (1 : Int32) dX4_isUp_12 (by decide) rfl ?_
    refine k_goto C 17 dX4_isUp_13 rfl ?_
    exact k_zret C K hf rfl dX4_isUp_17
theorem mX4_isUp {G : kG} {c : Nat} {v1 : Int32} (hc : yd c) {st : kM} {res : Int32 × kM} (hf : fX4_isUp c v1 st = some res) : kCt G yX4_isUp cX4_isUp 2 (some .boolean) rmX4_isUp [.ref (G.2.1 c), .int v1] st (some (.int res.1)) res.2 := kMet (by decide) (Nat.le_of_ble_eq_true rfl) ⟨rfl, rfl⟩ (fun X A Q C K => tX4_isUp C hc hf K)
theorem qX4_isUp : yX4_isUp.cls = RX4 ∧ yX4_isUp.cls ≠ "java/lang/invoke/MethodHandle" ∧ yX4_isUp.cls ≠ "java/lang/invoke/VarHandle" ∧ (parseMethodDescriptor yX4_isUp.desc).map (fun d => d.parameters.length) = some 1 := ⟨rfl, by decide, by decide, by decide +kernel⟩
-- TalkKnots$Yard.knotsOf(I)I
def rmX4_knotsOf : Room := { frames := 0, cells := 0, slots := 0, locals := 0 }
def fX4_knotsOf_4 (c : Nat) : Nat → Int32 → Int32 → Int32 → kM → Option (Int32 × kM)
  | 0, _, _, _, _ => none
  | n + 1, x1, x2, x3, st =>
    if (st.1 c 1) ≤ x3 then (some (x2, st)) else (if x3 < 0 ∨ 10 ≤ x3.toNatClampNeg then none else (if (st.1 (c + 5 + x3.toNatClampNeg) 1) = x1 then ((some (x2 ||| ((1 : Int32) <<< (x3 &&& 31)))).bind fun z6 => (fX4_knotsOf_4 c n x1 z6 (x3 + (1 : Int32)) st)) else ((some (x2 ||| (0 : Int32))).bind fun z4 => (fX4_knotsOf_4 c n x1 z4 (x3 + (1 : Int32)) st))))
def fX4_knotsOf (c : Nat) (v1 : Int32) (st : kM) : Option (Int32 × kM) :=
  fX4_knotsOf_4 c kfu v1 (0 : Int32) (0 : Int32) st
set_option maxRecDepth 100000 in
theorem tX4_knotsOf_4 {Z : kZ} (C : kC Z cX4_knotsOf RX4 4 rmX4_knotsOf) {c : Nat} (hc : yd c) {res : Int32 × kM} (K : kEnd Z (some .int) (some (.int res.1)) res.2) : ∀ (n : Nat) (x1 : Int32) (x2 : Int32) (x3 : Int32) (st : kM), fX4_knotsOf_4 c n x1 x2 x3 st = some res → kV Z 4 4 [(0, kr Z c), (1, .int x1), (2, .int x2), (3, .int x3)] [] st := by
  intro n
  induction n with
  | zero => intro x1 x2 x3 st hf; cases hf
  | succ n ih =>
    intro x1 x2 x3 st hf
    unfold fX4_knotsOf_4 at hf
    refine k_iload_n C 3 dX4_knotsOf_4 rfl rfl rfl ?_
    refine k_aload_n C 0 dX4_knotsOf_5 rfl rfl rfl ?_
    refine g_X4_count C (yd_4 hc) kw_1_66 dX4_knotsOf_6 rfl ?_
    refine k_icmp_ge C 41 dX4_knotsOf_9 rfl rfl (fun b1 => ?_) (fun b1 => ?_)
    · replace hf := kf_t hf b1
      refine k_iload_n C 2 dX4_knotsOf_41 rfl rfl rfl ?_
      exact k_iret C K hf dX4_knotsOf_42
    · replace hf := kf_f hf b1
      refine k_iload_n C 2 dX4_knotsOf_12 rfl rfl rfl ?_
      refine k_aload_n C 0 dX4_knotsOf_13 rfl rfl rfl ?_
      refine g_X4_knots C (yd_4 hc) kw_1_77 dX4_knotsOf_14 rfl ?_
      refine k_iload_n C 3 dX4_knotsOf_17 rfl rfl rfl ?_
      obtain ⟨g2, hf⟩ := kf_g hf
      refine k_aldK C hc g2 dX4_knotsOf_18 rfl ?_
      refine g_X0_mast C (yd_n hc (vi_lt g2)) kw_1_40 dX4_knotsOf_19 rfl ?_
      refine k_iload_n C 1 dX4_knotsOf_22 rfl rfl rfl ?_
      refine k_icmp_ne C 32 dX4_knotsOf_23 rfl rfl (fun b3 => ?_) (fun b3 => ?_)
      · replace hf := kf_f hf b3
        refine k_iconst C (0 : Int32) dX4_knotsOf_32 (by decide) rfl ?_
        refine k_ior C dX4_knotsOf_33 rfl ?_
        obtain ⟨z4, e5, hf⟩ := kf_b hf
        refine k_topi e5 ?_
        refine k_istore_n (lv' := [(2, .int z4), (0, kr Z c), (1, .int x1), (3, .int x3)]) C dX4_knotsOf_34 rfl (by decide) rfl rfl ?_
        refine k_iinc (lv' := [(3, .int (x3 + (1 : Int32))), (2, .int z4), (0, kr Z c), (1, .int x1)]) C (x3 + (1 : Int32)) 3 dX4_knotsOf_35 rfl rfl (by decide) rfl rfl ?_
        refine k_goto C 4 dX4_knotsOf_38 rfl ?_
        refine k_lv (lv' := [(0, kr Z c), (1, .int x1), (2, .int z4), (3, .int (x3 + (1 : Int32)))]) [2, 3, 1, 0] rfl ?_
        exact ih x1 z4 (x3 + (1 : Int32)) st  hf
      · replace hf := kf_t hf b3
        refine k_iconst C (1 : Int32) dX4_knotsOf_26 (by decide) rfl ?_
        refine k_iload_n C 3 dX4_knotsOf_27 rfl rfl rfl ?_
        refine k_ishl C dX4_knotsOf_28 rfl ?_
        refine k_goto C 33 dX4_knotsOf_29 rfl ?_
        refine k_ior C dX4_knotsOf_33 rfl ?_
        obtain ⟨z6, e7, hf⟩ := kf_b hf
        refine k_topi e7 ?_
        refine k_istore_n (lv' := [(2, .int z6), (0, kr Z c), (1, .int x1), (3, .int x3)]) C dX4_knotsOf_34 rfl (by decide) rfl rfl ?_
        refine k_iinc (lv' := [(3, .int (x3 + (1 : Int32))), (2, .int z6), (0, kr Z c), (1, .int x1)]) C (x3 + (1 : Int32)) 3 dX4_knotsOf_35 rfl rfl (by decide) rfl rfl ?_
        refine k_goto C 4 dX4_knotsOf_38 rfl ?_
        refine k_lv (lv' := [(0, kr Z c), (1, .int x1), (2, .int z6), (3, .int (x3 + (1 : Int32)))]) [2, 3, 1, 0] rfl ?_
        exact ih x1 z6 (x3 + (1 : Int32)) st  hf
set_option maxRecDepth 100000 in
theorem tX4_knotsOf {Z : kZ} (C : kC Z cX4_knotsOf RX4 4 rmX4_knotsOf) {c : Nat} {v1 : Int32} (hc : yd c) {st : kM} {res : Int32 × kM} (hf : fX4_knotsOf c v1 st = some res) (K : kEnd Z (some .int) (some (.int res.1)) res.2) : kV Z 4 0 [(0, kr Z c), (1, .int v1)] [] st := by
  unfold fX4_knotsOf at hf
  refine k_iconst C (0 : Int32) dX4_knotsOf_0 (by decide) rfl ?_
  refine k_istore_n (lv' := [(2, .int (0 : Int32)), (0, kr Z c), (1, .int v1)]) C dX4_knotsOf_1 rfl (by decide) rfl rfl ?_
  refine k_iconst C (0 : Int32) dX4_knotsOf_2 (by decide) rfl ?_
  refine k_istore_n (lv' := [(3, .int (0 : Int32)), (2, .int (0 : Int32)), (0, kr Z c), (1, .int v1)]) C dX4_knotsOf_3 rfl (by decide) rfl rfl ?_
  refine k_lv (lv' := [(0, kr Z c), (1, .int v1), (2, .int (0 : Int32)), (3, .int (0 : Int32))]) [2, 3, 1, 0] rfl ?_
  exact tX4_knotsOf_4 C hc K _ v1 (0 : Int32) (0 : Int32) st hf
theorem mX4_knotsOf {G : kG} {c : Nat} {v1 : Int32} (hc : yd c) {st : kM} {res : Int32 × kM} (hf : fX4_knotsOf c v1 st = some res) : kCt G yX4_knotsOf cX4_knotsOf 4 (some .int) rmX4_knotsOf [.ref (G.2.1 c), .int v1] st (some (.int res.1)) res.2 := kMet (by decide) (Nat.le_of_ble_eq_true rfl) ⟨rfl, rfl⟩ (fun X A Q C K => tX4_knotsOf C hc hf K)
theorem qX4_knotsOf : yX4_knotsOf.cls = RX4 ∧ yX4_knotsOf.cls ≠ "java/lang/invoke/MethodHandle" ∧ yX4_knotsOf.cls ≠ "java/lang/invoke/VarHandle" ∧ (parseMethodDescriptor yX4_knotsOf.desc).map (fun d => d.parameters.length) = some 1 := ⟨rfl, by decide, by decide, by decide +kernel⟩
-- TalkKnots$Yard.fastKnots()I
def rmX4_fastKnots : Room := { frames := 0, cells := 0, slots := 0, locals := 0 }
def fX4_fastKnots_4 (c : Nat) : Nat → Int32 → Int32 → kM → Option (Int32 × kM)
  | 0, _, _, _ => none
  | n + 1, x1, x2, st =>
    if (st.1 c 1) ≤ x2 then (some (x1, st)) else (if x2 < 0 ∨ 10 ≤ x2.toNatClampNeg then none else (if (st.1 (c + 5 + x2.toNatClampNeg) 4) = 0 then ((some (x1 ||| (0 : Int32))).bind fun z4 => (fX4_fastKnots_4 c n z4 (x2 + (1 : Int32)) st)) else ((some (x1 ||| ((1 : Int32) <<< (x2 &&& 31)))).bind fun z6 => (fX4_fastKnots_4 c n z6 (x2 + (1 : Int32)) st))))
def fX4_fastKnots (c : Nat) (st : kM) : Option (Int32 × kM) :=
  fX4_fastKnots_4 c kfu (0 : Int32) (0 : Int32) st
set_option maxRecDepth 100000 in
theorem tX4_fastKnots_4 {Z : kZ} (C : kC Z cX4_fastKnots RX4 3 rmX4_fastKnots) {c : Nat} (hc : yd c) {res : Int32 × kM} (K : kEnd Z (some .int) (some (.int res.1)) res.2) : ∀ (n : Nat) (x1 : Int32) (x2 : Int32) (st : kM), fX4_fastKnots_4 c n x1 x2 st = some res → kV Z 3 4 [(0, kr Z c), (1, .int x1), (2, .int x2)] [] st := by
  intro n
  induction n with
  | zero => intro x1 x2 st hf; cases hf
  | succ n ih =>
    intro x1 x2 st hf
    unfold fX4_fastKnots_4 at hf
    refine k_iload_n C 2 dX4_fastKnots_4 rfl rfl rfl ?_
    refine k_aload_n C 0 dX4_fastKnots_5 rfl rfl rfl ?_
    refine g_X4_count C (yd_4 hc) kw_1_66 dX4_fastKnots_6 rfl ?_
    refine k_icmp_ge C 40 dX4_fastKnots_9 rfl rfl (fun b1 => ?_) (fun b1 => ?_)
    · replace hf := kf_t hf b1
      refine k_iload_n C 1 dX4_fastKnots_40 rfl rfl rfl ?_
      exact k_iret C K hf dX4_fastKnots_41
    · replace hf := kf_f hf b1
      refine k_iload_n C 1 dX4_fastKnots_12 rfl rfl rfl ?_
      refine k_aload_n C 0 dX4_fastKnots_13 rfl rfl rfl ?_
      refine g_X4_knots C (yd_4 hc) kw_1_77 dX4_fastKnots_14 rfl ?_
      refine k_iload_n C 2 dX4_fastKnots_17 rfl rfl rfl ?_
      obtain ⟨g2, hf⟩ := kf_g hf
      refine k_aldK C hc g2 dX4_fastKnots_18 rfl ?_
      refine g_X0_fast C (yd_n hc (vi_lt g2)) kw_1_51 dX4_fastKnots_19 rfl ?_
      refine k_if_eq C 31 dX4_fastKnots_22 rfl rfl (fun b3 => ?_) (fun b3 => ?_)
      · replace hf := kf_t hf b3
        refine k_iconst C (0 : Int32) dX4_fastKnots_31 (by decide) rfl ?_
        refine k_ior C dX4_fastKnots_32 rfl ?_
        obtain ⟨z4, e5, hf⟩ := kf_b hf
        refine k_topi e5 ?_
        refine k_istore_n (lv' := [(1, .int z4), (0, kr Z c), (2, .int x2)]) C dX4_fastKnots_33 rfl (by decide) rfl rfl ?_
        refine k_iinc (lv' := [(2, .int (x2 + (1 : Int32))), (1, .int z4), (0, kr Z c)]) C (x2 + (1 : Int32)) 2 dX4_fastKnots_34 rfl rfl (by decide) rfl rfl ?_
        refine k_goto C 4 dX4_fastKnots_37 rfl ?_
        refine k_lv (lv' := [(0, kr Z c), (1, .int z4), (2, .int (x2 + (1 : Int32)))]) [2, 1, 0] rfl ?_
        exact ih z4 (x2 + (1 : Int32)) st  hf
      · replace hf := kf_f hf b3
        refine k_iconst C (1 : Int32) dX4_fastKnots_25 (by decide) rfl ?_
        refine k_iload_n C 2 dX4_fastKnots_26 rfl rfl rfl ?_
        refine k_ishl C dX4_fastKnots_27 rfl ?_
        refine k_goto C 32 dX4_fastKnots_28 rfl ?_
        refine k_ior C dX4_fastKnots_32 rfl ?_
        obtain ⟨z6, e7, hf⟩ := kf_b hf
        refine k_topi e7 ?_
        refine k_istore_n (lv' := [(1, .int z6), (0, kr Z c), (2, .int x2)]) C dX4_fastKnots_33 rfl (by decide) rfl rfl ?_
        refine k_iinc (lv' := [(2, .int (x2 + (1 : Int32))), (1, .int z6), (0, kr Z c)]) C (x2 + (1 : Int32)) 2 dX4_fastKnots_34 rfl rfl (by decide) rfl rfl ?_
        refine k_goto C 4 dX4_fastKnots_37 rfl ?_
        refine k_lv (lv' := [(0, kr Z c), (1, .int z6), (2, .int (x2 + (1 : Int32)))]) [2, 1, 0] rfl ?_
        exact ih z6 (x2 + (1 : Int32)) st  hf
set_option maxRecDepth 100000 in
theorem tX4_fastKnots {Z : kZ} (C : kC Z cX4_fastKnots RX4 3 rmX4_fastKnots) {c : Nat} (hc : yd c) {st : kM} {res : Int32 × kM} (hf : fX4_fastKnots c st = some res) (K : kEnd Z (some .int) (some (.int res.1)) res.2) : kV Z 3 0 [(0, kr Z c)] [] st := by
  unfold fX4_fastKnots at hf
  refine k_iconst C (0 : Int32) dX4_fastKnots_0 (by decide) rfl ?_
  refine k_istore_n (lv' := [(1, .int (0 : Int32)), (0, kr Z c)]) C dX4_fastKnots_1 rfl (by decide) rfl rfl ?_
  refine k_iconst C (0 : Int32) dX4_fastKnots_2 (by decide) rfl ?_
  refine k_istore_n (lv' := [(2, .int (0 : Int32)), (1, .int (0 : Int32)), (0, kr Z c)]) C dX4_fastKnots_3 rfl (by decide) rfl rfl ?_
  refine k_lv (lv' := [(0, kr Z c), (1, .int (0 : Int32)), (2, .int (0 : Int32))]) [2, 1, 0] rfl ?_
  exact tX4_fastKnots_4 C hc K _ (0 : Int32) (0 : Int32) st hf
theorem mX4_fastKnots {G : kG} {c : Nat} (hc : yd c) {st : kM} {res : Int32 × kM} (hf : fX4_fastKnots c st = some res) : kCt G yX4_fastKnots cX4_fastKnots 3 (some .int) rmX4_fastKnots [.ref (G.2.1 c)] st (some (.int res.1)) res.2 := kMet (by decide) (Nat.le_of_ble_eq_true rfl) ⟨rfl, rfl⟩ (fun X A Q C K => tX4_fastKnots C hc hf K)
theorem qX4_fastKnots : yX4_fastKnots.cls = RX4 ∧ yX4_fastKnots.cls ≠ "java/lang/invoke/MethodHandle" ∧ yX4_fastKnots.cls ≠ "java/lang/invoke/VarHandle" ∧ (parseMethodDescriptor yX4_fastKnots.desc).map (fun d => d.parameters.length) = some 0 := ⟨rfl, by decide, by decide, by decide +kernel⟩
-- TalkKnots$Yard.allOpen()I
def rmX4_allOpen : Room := { frames := 0, cells := 0, slots := 0, locals := 0 }
def fX4_allOpen_4 (c : Nat) : Nat → Int32 → Int32 → kM → Option (Int32 × kM)
  | 0, _, _, _ => none
  | n + 1, x1, x2, st =>
    if (st.1 c 1) ≤ x2 then (some (x1, st)) else (if x2 < 0 ∨ 10 ≤ x2.toNatClampNeg then none else ((some (x1 + (st.1 (c + 5 + x2.toNatClampNeg) 2))).bind fun z3 => (fX4_allOpen_4 c n z3 (x2 + (1 : Int32)) st)))
def fX4_allOpen (c : Nat) (st : kM) : Option (Int32 × kM) :=
  fX4_allOpen_4 c kfu (0 : Int32) (0 : Int32) st
set_option maxRecDepth 100000 in
theorem tX4_allOpen_4 {Z : kZ} (C : kC Z cX4_allOpen RX4 3 rmX4_allOpen) {c : Nat} (hc : yd c) {res : Int32 × kM} (K : kEnd Z (some .int) (some (.int res.1)) res.2) : ∀ (n : Nat) (x1 : Int32) (x2 : Int32) (st : kM), fX4_allOpen_4 c n x1 x2 st = some res → kV Z 3 4 [(0, kr Z c), (1, .int x1), (2, .int x2)] [] st := by
  intro n
  induction n with
  | zero => intro x1 x2 st hf; cases hf
  | succ n ih =>
    intro x1 x2 st hf
    unfold fX4_allOpen_4 at hf
    refine k_iload_n C 2 dX4_allOpen_4 rfl rfl rfl ?_
    refine k_aload_n C 0 dX4_allOpen_5 rfl rfl rfl ?_
    refine g_X4_count C (yd_4 hc) kw_1_66 dX4_allOpen_6 rfl ?_
    refine k_icmp_ge C 30 dX4_allOpen_9 rfl rfl (fun b1 => ?_) (fun b1 => ?_)
    · replace hf := kf_t hf b1
      refine k_iload_n C 1 dX4_allOpen_30 rfl rfl rfl ?_
      exact k_iret C K hf dX4_allOpen_31
    · replace hf := kf_f hf b1
      refine k_iload_n C 1 dX4_allOpen_12 rfl rfl rfl ?_
      refine k_aload_n C 0 dX4_allOpen_13 rfl rfl rfl ?_
      refine g_X4_knots C (yd_4 hc) kw_1_77 dX4_allOpen_14 rfl ?_
      refine k_iload_n C 2 dX4_allOpen_17 rfl rfl rfl ?_
      obtain ⟨g2, hf⟩ := kf_g hf
      refine k_aldK C hc g2 dX4_allOpen_18 rfl ?_
      refine g_X0_open C (yd_n hc (vi_lt g2)) kw_1_44 dX4_allOpen_19 rfl ?_
      refine k_iadd C dX4_allOpen_22 rfl ?_
      obtain ⟨z3, e4, hf⟩ := kf_b hf
      refine k_topi e4 ?_
      refine k_istore_n (lv' := [(1, .int z3), (0, kr Z c), (2, .int x2)]) C dX4_allOpen_23 rfl (by decide) rfl rfl ?_
      refine k_iinc (lv' := [(2, .int (x2 + (1 : Int32))), (1, .int z3), (0, kr Z c)]) C (x2 + (1 : Int32)) 2 dX4_allOpen_24 rfl rfl (by decide) rfl rfl ?_
      refine k_goto C 4 dX4_allOpen_27 rfl ?_
      refine k_lv (lv' := [(0, kr Z c), (1, .int z3), (2, .int (x2 + (1 : Int32)))]) [2, 1, 0] rfl ?_
      exact ih z3 (x2 + (1 : Int32)) st  hf
set_option maxRecDepth 100000 in
theorem tX4_allOpen {Z : kZ} (C : kC Z cX4_allOpen RX4 3 rmX4_allOpen) {c : Nat} (hc : yd c) {st : kM} {res : Int32 × kM} (hf : fX4_allOpen c st = some res) (K : kEnd Z (some .int) (some (.int res.1)) res.2) : kV Z 3 0 [(0, kr Z c)] [] st := by
  unfold fX4_allOpen at hf
  refine k_iconst C (0 : Int32) dX4_allOpen_0 (by decide) rfl ?_
  refine k_istore_n (lv' := [(1, .int (0 : Int32)), (0, kr Z c)]) C dX4_allOpen_1 rfl (by decide) rfl rfl ?_
  refine k_iconst C (0 : Int32) dX4_allOpen_2 (by decide) rfl ?_
  refine k_istore_n (lv' := [(2, .int (0 : Int32)), (1, .int (0 : Int32)), (0, kr Z c)]) C dX4_allOpen_3 rfl (by decide) rfl rfl ?_
  refine k_lv (lv' := [(0, kr Z c), (1, .int (0 : Int32)), (2, .int (0 : Int32))]) [2, 1, 0] rfl ?_
  exact tX4_allOpen_4 C hc K _ (0 : Int32) (0 : Int32) st hf
theorem mX4_allOpen {G : kG} {c : Nat} (hc : yd c) {st : kM} {res : Int32 × kM} (hf : fX4_allOpen c st = some res) : kCt G yX4_allOpen cX4_allOpen 3 (some .int) rmX4_allOpen [.ref (G.2.1 c)] st (some (.int res.1)) res.2 := kMet (by decide) (Nat.le_of_ble_eq_true rfl) ⟨rfl, rfl⟩ (fun X A Q C K => tX4_allOpen C hc hf K)
theorem qX4_allOpen : yX4_allOpen.cls = RX4 ∧ yX4_allOpen.cls ≠ "java/lang/invoke/MethodHandle" ∧ yX4_allOpen.cls ≠ "java/lang/invoke/VarHandle" ∧ (parseMethodDescriptor yX4_allOpen.desc).map (fun d => d.parameters.length) = some 0 := ⟨rfl, by decide, by decide, by decide +kernel⟩
-- TalkKnots$Yard.allAges()I
def rmX4_allAges : Room := { frames := 0, cells := 0, slots := 0, locals := 0 }
def fX4_allAges_4 (c : Nat) : Nat → Int32 → Int32 → kM → Option (Int32 × kM)
  | 0, _, _, _ => none
  | n + 1, x1, x2, st =>
    if (st.1 c 1) ≤ x2 then (some (x1, st)) else (if x2 < 0 ∨ 10 ≤ x2.toNatClampNeg then none else ((some (x1 + (st.1 (c + 5 + x2.toNatClampNeg) 3))).bind fun z3 => (fX4_allAges_4 c n z3 (x2 + (1 : Int32)) st)))
def fX4_allAges (c : Nat) (st : kM) : Option (Int32 × kM) :=
  fX4_allAges_4 c kfu (0 : Int32) (0 : Int32) st
set_option maxRecDepth 100000 in
theorem tX4_allAges_4 {Z : kZ} (C : kC Z cX4_allAges RX4 3 rmX4_allAges) {c : Nat} (hc : yd c) {res : Int32 × kM} (K : kEnd Z (some .int) (some (.int res.1)) res.2) : ∀ (n : Nat) (x1 : Int32) (x2 : Int32) (st : kM), fX4_allAges_4 c n x1 x2 st = some res → kV Z 3 4 [(0, kr Z c), (1, .int x1), (2, .int x2)] [] st := by
  intro n
  induction n with
  | zero => intro x1 x2 st hf; cases hf
  | succ n ih =>
    intro x1 x2 st hf
    unfold fX4_allAges_4 at hf
    refine k_iload_n C 2 dX4_allAges_4 rfl rfl rfl ?_
    refine k_aload_n C 0 dX4_allAges_5 rfl rfl rfl ?_
    refine g_X4_count C (yd_4 hc) kw_1_66 dX4_allAges_6 rfl ?_
    refine k_icmp_ge C 30 dX4_allAges_9 rfl rfl (fun b1 => ?_) (fun b1 => ?_)
    · replace hf := kf_t hf b1
      refine k_iload_n C 1 dX4_allAges_30 rfl rfl rfl ?_
      exact k_iret C K hf dX4_allAges_31
    · replace hf := kf_f hf b1
      refine k_iload_n C 1 dX4_allAges_12 rfl rfl rfl ?_
      refine k_aload_n C 0 dX4_allAges_13 rfl rfl rfl ?_
      refine g_X4_knots C (yd_4 hc) kw_1_77 dX4_allAges_14 rfl ?_
      refine k_iload_n C 2 dX4_allAges_17 rfl rfl rfl ?_
      obtain ⟨g2, hf⟩ := kf_g hf
      refine k_aldK C hc g2 dX4_allAges_18 rfl ?_
      refine g_X0_age C (yd_n hc (vi_lt g2)) kw_1_47 dX4_allAges_19 rfl ?_
      refine k_iadd C dX4_allAges_22 rfl ?_
      obtain ⟨z3, e4, hf⟩ := kf_b hf
      refine k_topi e4 ?_
      refine k_istore_n (lv' := [(1, .int z3), (0, kr Z c), (2, .int x2)]) C dX4_allAges_23 rfl (by decide) rfl rfl ?_
      refine k_iinc (lv' := [(2, .int (x2 + (1 : Int32))), (1, .int z3), (0, kr Z c)]) C (x2 + (1 : Int32)) 2 dX4_allAges_24 rfl rfl (by decide) rfl rfl ?_
      refine k_goto C 4 dX4_allAges_27 rfl ?_
      refine k_lv (lv' := [(0, kr Z c), (1, .int z3), (2, .int (x2 + (1 : Int32)))]) [2, 1, 0] rfl ?_
      exact ih z3 (x2 + (1 : Int32)) st  hf
set_option maxRecDepth 100000 in
theorem tX4_allAges {Z : kZ} (C : kC Z cX4_allAges RX4 3 rmX4_allAges) {c : Nat} (hc : yd c) {st : kM} {res : Int32 × kM} (hf : fX4_allAges c st = some res) (K : kEnd Z (some .int) (some (.int res.1)) res.2) : kV Z 3 0 [(0, kr Z c)] [] st := by
  unfold fX4_allAges at hf
  refine k_iconst C (0 : Int32) dX4_allAges_0 (by decide) rfl ?_
  refine k_istore_n (lv' := [(1, .int (0 : Int32)), (0, kr Z c)]) C dX4_allAges_1 rfl (by decide) rfl rfl ?_
  refine k_iconst C (0 : Int32) dX4_allAges_2 (by decide) rfl ?_
  refine k_istore_n (lv' := [(2, .int (0 : Int32)), (1, .int (0 : Int32)), (0, kr Z c)]) C dX4_allAges_3 rfl (by decide) rfl rfl ?_
  refine k_lv (lv' := [(0, kr Z c), (1, .int (0 : Int32)), (2, .int (0 : Int32))]) [2, 1, 0] rfl ?_
  exact tX4_allAges_4 C hc K _ (0 : Int32) (0 : Int32) st hf
theorem mX4_allAges {G : kG} {c : Nat} (hc : yd c) {st : kM} {res : Int32 × kM} (hf : fX4_allAges c st = some res) : kCt G yX4_allAges cX4_allAges 3 (some .int) rmX4_allAges [.ref (G.2.1 c)] st (some (.int res.1)) res.2 := kMet (by decide) (Nat.le_of_ble_eq_true rfl) ⟨rfl, rfl⟩ (fun X A Q C K => tX4_allAges C hc hf K)
theorem qX4_allAges : yX4_allAges.cls = RX4 ∧ yX4_allAges.cls ≠ "java/lang/invoke/MethodHandle" ∧ yX4_allAges.cls ≠ "java/lang/invoke/VarHandle" ∧ (parseMethodDescriptor yX4_allAges.desc).map (fun d => d.parameters.length) = some 0 := ⟨rfl, by decide, by decide, by decide +kernel⟩
-- TalkKnots$Yard.allWeights()I
def rmX4_allWeights : Room := { frames := 0, cells := 0, slots := 0, locals := 0 }
def fX4_allWeights_4 (c : Nat) : Nat → Int32 → Int32 → kM → Option (Int32 × kM)
  | 0, _, _, _ => none
  | n + 1, x1, x2, st =>
    if (4 : Int32) ≤ x2 then (some (x1, st)) else (if x2 < 0 ∨ 4 ≤ x2.toNatClampNeg then none else ((some (x1 + (st.1 (c + 2) x2.toNatClampNeg))).bind fun z3 => (fX4_allWeights_4 c n z3 (x2 + (1 : Int32)) st)))
def fX4_allWeights (c : Nat) (st : kM) : Option (Int32 × kM) :=
  fX4_allWeights_4 c kfu (0 : Int32) (0 : Int32) st
set_option maxRecDepth 100000 in
theorem tX4_allWeights_4 {Z : kZ} (C : kC Z cX4_allWeights RX4 3 rmX4_allWeights) {c : Nat} (hc : yd c) {res : Int32 × kM} (K : kEnd Z (some .int) (some (.int res.1)) res.2) : ∀ (n : Nat) (x1 : Int32) (x2 : Int32) (st : kM), fX4_allWeights_4 c n x1 x2 st = some res → kV Z 3 4 [(0, kr Z c), (1, .int x1), (2, .int x2)] [] st := by
  intro n
  induction n with
  | zero => intro x1 x2 st hf; cases hf
  | succ n ih =>
    intro x1 x2 st hf
    unfold fX4_allWeights_4 at hf
    refine k_iload_n C 2 dX4_allWeights_4 rfl rfl rfl ?_
    refine k_iconst C (4 : Int32) dX4_allWeights_5 (by decide) rfl ?_
    refine k_icmp_ge C 24 dX4_allWeights_6 rfl rfl (fun b1 => ?_) (fun b1 => ?_)
    · replace hf := kf_t hf b1
      refine k_iload_n C 1 dX4_allWeights_24 rfl rfl rfl ?_
      exact k_iret C K hf dX4_allWeights_25
    · replace hf := kf_f hf b1
      refine k_iload_n C 1 dX4_allWeights_9 rfl rfl rfl ?_
      refine k_aload_n C 0 dX4_allWeights_10 rfl rfl rfl ?_
      refine g_X4_weights C (yd_4 hc) kw_1_74 dX4_allWeights_11 rfl ?_
      refine k_iload_n C 2 dX4_allWeights_14 rfl rfl rfl ?_
      obtain ⟨g2, hf⟩ := kf_g hf
      refine k_iald (j := x2.toNatClampNeg) C (yd_g hc) g2 rfl dX4_allWeights_15 rfl ?_
      refine k_iadd C dX4_allWeights_16 rfl ?_
      obtain ⟨z3, e4, hf⟩ := kf_b hf
      refine k_topi e4 ?_
      refine k_istore_n (lv' := [(1, .int z3), (0, kr Z c), (2, .int x2)]) C dX4_allWeights_17 rfl (by decide) rfl rfl ?_
      refine k_iinc (lv' := [(2, .int (x2 + (1 : Int32))), (1, .int z3), (0, kr Z c)]) C (x2 + (1 : Int32)) 2 dX4_allWeights_18 rfl rfl (by decide) rfl rfl ?_
      refine k_goto C 4 dX4_allWeights_21 rfl ?_
      refine k_lv (lv' := [(0, kr Z c), (1, .int z3), (2, .int (x2 + (1 : Int32)))]) [2, 1, 0] rfl ?_
      exact ih z3 (x2 + (1 : Int32)) st  hf
set_option maxRecDepth 100000 in
theorem tX4_allWeights {Z : kZ} (C : kC Z cX4_allWeights RX4 3 rmX4_allWeights) {c : Nat} (hc : yd c) {st : kM} {res : Int32 × kM} (hf : fX4_allWeights c st = some res) (K : kEnd Z (some .int) (some (.int res.1)) res.2) : kV Z 3 0 [(0, kr Z c)] [] st := by
  unfold fX4_allWeights at hf
  refine k_iconst C (0 : Int32) dX4_allWeights_0 (by decide) rfl ?_
  refine k_istore_n (lv' := [(1, .int (0 : Int32)), (0, kr Z c)]) C dX4_allWeights_1 rfl (by decide) rfl rfl ?_
  refine k_iconst C (0 : Int32) dX4_allWeights_2 (by decide) rfl ?_
  refine k_istore_n (lv' := [(2, .int (0 : Int32)), (1, .int (0 : Int32)), (0, kr Z c)]) C dX4_allWeights_3 rfl (by decide) rfl rfl ?_
  refine k_lv (lv' := [(0, kr Z c), (1, .int (0 : Int32)), (2, .int (0 : Int32))]) [2, 1, 0] rfl ?_
  exact tX4_allWeights_4 C hc K _ (0 : Int32) (0 : Int32) st hf
theorem mX4_allWeights {G : kG} {c : Nat} (hc : yd c) {st : kM} {res : Int32 × kM} (hf : fX4_allWeights c st = some res) : kCt G yX4_allWeights cX4_allWeights 3 (some .int) rmX4_allWeights [.ref (G.2.1 c)] st (some (.int res.1)) res.2 := kMet (by decide) (Nat.le_of_ble_eq_true rfl) ⟨rfl, rfl⟩ (fun X A Q C K => tX4_allWeights C hc hf K)
theorem qX4_allWeights : yX4_allWeights.cls = RX4 ∧ yX4_allWeights.cls ≠ "java/lang/invoke/MethodHandle" ∧ yX4_allWeights.cls ≠ "java/lang/invoke/VarHandle" ∧ (parseMethodDescriptor yX4_allWeights.desc).map (fun d => d.parameters.length) = some 0 := ⟨rfl, by decide, by decide, by decide +kernel⟩
-- TalkKnots$Yard.countFast()V
def rmX4_countFast : Room := { frames := 0, cells := 0, slots := 0, locals := 0 }
def fX4_countFast_22 (c : Nat) : Nat → Int32 → kM → Option (kM)
  | 0, _, _ => none
  | n + 1, x1, st =>
    if (st.1 c 1) ≤ x1 then (some st) else (if x1 < 0 ∨ 10 ≤ x1.toNatClampNeg then none else (if (st.1 (c + 5 + x1.toNatClampNeg) 4) = 0 then (fX4_countFast_22 c n (x1 + (1 : Int32)) st) else (if (st.1 (c + 5 + x1.toNatClampNeg) 1) < 0 ∨ 4 ≤ (st.1 (c + 5 + x1.toNatClampNeg) 1).toNatClampNeg then none else ((some (kwr st (c + 4) ((st.1 (c + 5 + x1.toNatClampNeg) 1).toNatClampNeg) ((st.1 (c + 4) ((st.1 (c + 5 + x1.toNatClampNeg) 1).toNatClampNeg)) + (1 : Int32)))).bind fun s5 => (fX4_countFast_22 c n (x1 + (1 : Int32)) s5)))))
def fX4_countFast_2 (c : Nat) : Nat → Int32 → kM → Option (kM)
  | 0, _, _ => none
  | n + 1, x1, st =>
    if (4 : Int32) ≤ x1 then (fX4_countFast_22 c kfu (0 : Int32) st) else (if x1 < 0 ∨ 4 ≤ x1.toNatClampNeg then none else ((some (kwr st (c + 4) x1.toNatClampNeg (0 : Int32))).bind fun s3 => (fX4_countFast_2 c n (x1 + (1 : Int32)) s3)))
def fX4_countFast (c : Nat) (st : kM) : Option (kM) :=
  fX4_countFast_2 c kfu (0 : Int32) st
set_option maxRecDepth 100000 in
theorem tX4_countFast_22 {Z : kZ} (C : kC Z cX4_countFast RX4 2 rmX4_countFast) {c : Nat} (hc : yd c) {res : kM} (K : kEnd Z none none res) : ∀ (n : Nat) (x1 : Int32) (st : kM), fX4_countFast_22 c n x1 st = some res → kV Z 2 22 [(0, kr Z c), (1, .int x1)] [] st := by
  intro n
  induction n with
  | zero => intro x1 st hf; cases hf
  | succ n ih =>
    intro x1 st hf
    unfold fX4_countFast_22 at hf
    refine k_iload_n C 1 dX4_countFast_22 rfl rfl rfl ?_
    refine k_aload_n C 0 dX4_countFast_23 rfl rfl rfl ?_
    refine g_X4_count C (yd_4 hc) kw_1_66 dX4_countFast_24 rfl ?_
    refine k_icmp_ge C 66 dX4_countFast_27 rfl rfl (fun b1 => ?_) (fun b1 => ?_)
    · replace hf := kf_t hf b1
      exact k_vret C K hf dX4_countFast_66
    · replace hf := kf_f hf b1
      refine k_aload_n C 0 dX4_countFast_30 rfl rfl rfl ?_
      refine g_X4_knots C (yd_4 hc) kw_1_77 dX4_countFast_31 rfl ?_
      refine k_iload_n C 1 dX4_countFast_34 rfl rfl rfl ?_
      obtain ⟨g2, hf⟩ := kf_g hf
      refine k_aldK C hc g2 dX4_countFast_35 rfl ?_
      refine g_X0_fast C (yd_n hc (vi_lt g2)) kw_1_51 dX4_countFast_36 rfl ?_
      refine k_if_eq C 60 dX4_countFast_39 rfl rfl (fun b3 => ?_) (fun b3 => ?_)
      · replace hf := kf_t hf b3
        refine k_iinc (lv' := [(1, .int (x1 + (1 : Int32))), (0, kr Z c)]) C (x1 + (1 : Int32)) 1 dX4_countFast_60 rfl rfl (by decide) rfl rfl ?_
        refine k_goto C 22 dX4_countFast_63 rfl ?_
        refine k_lv (lv' := [(0, kr Z c), (1, .int (x1 + (1 : Int32)))]) [1, 0] rfl ?_
        exact ih (x1 + (1 : Int32)) st  hf
      · replace hf := kf_f hf b3
        refine k_aload_n C 0 dX4_countFast_42 rfl rfl rfl ?_
        refine g_X4_fastOn C (yd_4 hc) kw_1_80 dX4_countFast_43 rfl ?_
        refine k_aload_n C 0 dX4_countFast_46 rfl rfl rfl ?_
        refine g_X4_knots C (yd_4 hc) kw_1_77 dX4_countFast_47 rfl ?_
        refine k_iload_n C 1 dX4_countFast_50 rfl rfl rfl ?_
        refine k_aldK C hc g2 dX4_countFast_51 rfl ?_
        refine g_X0_mast C (yd_n hc (vi_lt g2)) kw_1_40 dX4_countFast_52 rfl ?_
        refine k_dup2 C rfl rfl dX4_countFast_55 rfl ?_
        obtain ⟨g4, hf⟩ := kf_g hf
        refine k_iald (j := (st.1 (c + 5 + x1.toNatClampNeg) 1).toNatClampNeg) C (yd_f hc) g4 rfl dX4_countFast_56 rfl ?_
        refine k_iconst C (1 : Int32) dX4_countFast_57 (by decide) rfl ?_
        refine k_iadd C dX4_countFast_58 rfl ?_
        refine k_iast (j := (st.1 (c + 5 + x1.toNatClampNeg) 1).toNatClampNeg) C (yd_f hc) g4 rfl dX4_countFast_59 rfl ?_
        obtain ⟨s5, e6, hf⟩ := kf_b hf
        refine k_st e6 ?_
        refine k_iinc (lv' := [(1, .int (x1 + (1 : Int32))), (0, kr Z c)]) C (x1 + (1 : Int32)) 1 dX4_countFast_60 rfl rfl (by decide) rfl rfl ?_
        refine k_goto C 22 dX4_countFast_63 rfl ?_
        refine k_lv (lv' := [(0, kr Z c), (1, .int (x1 + (1 : Int32)))]) [1, 0] rfl ?_
        exact ih (x1 + (1 : Int32)) s5  hf
set_option maxRecDepth 100000 in
theorem tX4_countFast_2 {Z : kZ} (C : kC Z cX4_countFast RX4 2 rmX4_countFast) {c : Nat} (hc : yd c) {res : kM} (K : kEnd Z none none res) : ∀ (n : Nat) (x1 : Int32) (st : kM), fX4_countFast_2 c n x1 st = some res → kV Z 2 2 [(0, kr Z c), (1, .int x1)] [] st := by
  intro n
  induction n with
  | zero => intro x1 st hf; cases hf
  | succ n ih =>
    intro x1 st hf
    unfold fX4_countFast_2 at hf
    refine k_iload_n C 1 dX4_countFast_2 rfl rfl rfl ?_
    refine k_iconst C (4 : Int32) dX4_countFast_3 (by decide) rfl ?_
    refine k_icmp_ge C 20 dX4_countFast_4 rfl rfl (fun b1 => ?_) (fun b1 => ?_)
    · replace hf := kf_t hf b1
      refine k_iconst C (0 : Int32) dX4_countFast_20 (by decide) rfl ?_
      refine k_istore_n (lv' := [(1, .int (0 : Int32)), (0, kr Z c)]) C dX4_countFast_21 rfl (by decide) rfl rfl ?_
      refine k_lv (lv' := [(0, kr Z c), (1, .int (0 : Int32))]) [1, 0] rfl ?_
      exact tX4_countFast_22 C hc K _ (0 : Int32) st hf
    · replace hf := kf_f hf b1
      refine k_aload_n C 0 dX4_countFast_7 rfl rfl rfl ?_
      refine g_X4_fastOn C (yd_4 hc) kw_1_80 dX4_countFast_8 rfl ?_
      refine k_iload_n C 1 dX4_countFast_11 rfl rfl rfl ?_
      refine k_iconst C (0 : Int32) dX4_countFast_12 (by decide) rfl ?_
      obtain ⟨g2, hf⟩ := kf_g hf
      refine k_iast (j := x1.toNatClampNeg) C (yd_f hc) g2 rfl dX4_countFast_13 rfl ?_
      obtain ⟨s3, e4, hf⟩ := kf_b hf
      refine k_st e4 ?_
      refine k_iinc (lv' := [(1, .int (x1 + (1 : Int32))), (0, kr Z c)]) C (x1 + (1 : Int32)) 1 dX4_countFast_14 rfl rfl (by decide) rfl rfl ?_
      refine k_goto C 2 dX4_countFast_17 rfl ?_
      refine k_lv (lv' := [(0, kr Z c), (1, .int (x1 + (1 : Int32)))]) [1, 0] rfl ?_
      exact ih (x1 + (1 : Int32)) s3  hf
set_option maxRecDepth 100000 in
theorem tX4_countFast {Z : kZ} (C : kC Z cX4_countFast RX4 2 rmX4_countFast) {c : Nat} (hc : yd c) {st : kM} {res : kM} (hf : fX4_countFast c st = some res) (K : kEnd Z none none res) : kV Z 2 0 [(0, kr Z c)] [] st := by
  unfold fX4_countFast at hf
  refine k_iconst C (0 : Int32) dX4_countFast_0 (by decide) rfl ?_
  refine k_istore_n (lv' := [(1, .int (0 : Int32)), (0, kr Z c)]) C dX4_countFast_1 rfl (by decide) rfl rfl ?_
  refine k_lv (lv' := [(0, kr Z c), (1, .int (0 : Int32))]) [1, 0] rfl ?_
  exact tX4_countFast_2 C hc K _ (0 : Int32) st hf
theorem mX4_countFast {G : kG} {c : Nat} (hc : yd c) {st : kM} {res : kM} (hf : fX4_countFast c st = some res) : kCt G yX4_countFast cX4_countFast 2 none rmX4_countFast [.ref (G.2.1 c)] st none res := kMet (by decide) (Nat.le_of_ble_eq_true rfl) ⟨rfl, rfl⟩ (fun X A Q C K => tX4_countFast C hc hf K)
theorem qX4_countFast : yX4_countFast.cls = RX4 ∧ yX4_countFast.cls ≠ "java/lang/invoke/MethodHandle" ∧ yX4_countFast.cls ≠ "java/lang/invoke/VarHandle" ∧ (parseMethodDescriptor yX4_countFast.desc).map (fun d => d.parameters.length) = some 0 := ⟨rfl, by decide, by decide, by decide +kernel⟩
-- TalkKnots$Yard.strain(II)I
def rmX4_strain : Room := { frames := 0, cells := 0, slots := 0, locals := 0 }
def fX4_strain (c : Nat) (v1 : Int32) (v2 : Int32) (st : kM) : Option (Int32 × kM) :=
  if v1 < 0 ∨ 4 ≤ v1.toNatClampNeg then none else ((some (st.1 (c + 4) v1.toNatClampNeg)).bind fun z2 => (if z2 = 0 then (some ((0 : Int32), st)) else (if z2 = 0 then none else (some ((((st.1 (c + 2) v1.toNatClampNeg) + ((3 : Int32) * v2)) / z2), st)))))
set_option maxRecDepth 100000 in
theorem tX4_strain {Z : kZ} (C : kC Z cX4_strain RX4 4 rmX4_strain) {c : Nat} {v1 : Int32} {v2 : Int32} (hc : yd c) {st : kM} {res : Int32 × kM} (hf : fX4_strain c v1 v2 st = some res) (K : kEnd Z (some .int) (some (.int res.1)) res.2) : kV Z 4 0 [(0, kr Z c), (1, .int v1), (2, .int v2)] [] st := by
  unfold fX4_strain at hf
  refine k_aload_n C 0 dX4_strain_0 rfl rfl rfl ?_
  refine g_X4_fastOn C (yd_4 hc) kw_1_80 dX4_strain_1 rfl ?_
  refine k_iload_n C 1 dX4_strain_4 rfl rfl rfl ?_
  obtain ⟨g1, hf⟩ := kf_g hf
  refine k_iald (j := v1.toNatClampNeg) C (yd_f hc) g1 rfl dX4_strain_5 rfl ?_
  obtain ⟨z2, e3, hf⟩ := kf_b hf
  refine k_topi e3 ?_
  refine k_istore_n (lv' := [(3, .int z2), (0, kr Z c), (1, .int v1), (2, .int v2)]) C dX4_strain_6 rfl (by decide) rfl rfl ?_
  refine k_iload_n C 0 dX4_strain_7 rfl rfl rfl ?_
  refine k_if_ne C 15 dX4_strain_8 rfl rfl (fun b4 => ?_) (fun b4 => ?_)
  · replace hf := kf_f hf b4
    refine k_aload_n C 1 dX4_strain_15 rfl rfl rfl ?_
    refine g_X4_weights C (yd_4 hc) kw_1_74 dX4_strain_16 rfl ?_
    refine k_iload_n C 2 dX4_strain_19 rfl rfl rfl ?_
    refine k_iald (j := v1.toNatClampNeg) C (yd_g hc) g1 rfl dX4_strain_20 rfl ?_
    refine k_iconst C (3 : Int32) dX4_strain_21 (by decide) rfl ?_
    refine k_iload_n C 3 dX4_strain_22 rfl rfl rfl ?_
    refine k_imul C dX4_strain_23 rfl ?_
    refine k_iadd C dX4_strain_24 rfl ?_
    refine k_iload_n C 0 dX4_strain_25 rfl rfl rfl ?_
    obtain ⟨g5, hf⟩ := kf_g hf
    refine k_idiv C g5 dX4_strain_26 rfl ?_
    exact k_iret C K hf dX4_strain_27
  · replace hf := kf_t hf b4
    refine k_iconst C (0 : Int32) dX4_strain_11 (by decide) rfl ?_
    refine k_goto C 27 dX4_strain_12 rfl ?_
    exact k_iret C K hf dX4_strain_27
theorem mX4_strain {G : kG} {c : Nat} {v1 : Int32} {v2 : Int32} (hc : yd c) {st : kM} {res : Int32 × kM} (hf : fX4_strain c v1 v2 st = some res) : kCt G yX4_strain cX4_strain 4 (some .int) rmX4_strain [.ref (G.2.1 c), .int v1, .int v2] st (some (.int res.1)) res.2 := kMet (by decide) (Nat.le_of_ble_eq_true rfl) ⟨rfl, rfl⟩ (fun X A Q C K => tX4_strain C hc hf K)
theorem qX4_strain : yX4_strain.cls = RX4 ∧ yX4_strain.cls ≠ "java/lang/invoke/MethodHandle" ∧ yX4_strain.cls ≠ "java/lang/invoke/VarHandle" ∧ (parseMethodDescriptor yX4_strain.desc).map (fun d => d.parameters.length) = some 2 := ⟨rfl, by decide, by decide, by decide +kernel⟩
-- TalkKnots$Yard.strainOn(I)I
def rmX4_strainOn : Room := { frames := 2, cells := 0, slots := 0, locals := 40 }
def fX4_strainOn (c : Nat) (v1 : Int32) (st : kM) : Option (Int32 × kM) :=
  (fX4_countFast c st).bind fun s1 => ((fX4_windNow c s1).bind fun q3 => ((fX4_strain c v1 q3.1 q3.2).bind fun q5 => (some (q5.1, q5.2))))
set_option maxRecDepth 100000 in
theorem tX4_strainOn {Z : kZ} (C : kC Z cX4_strainOn RX4 2 rmX4_strainOn) {c : Nat} {v1 : Int32} (hc : yd c) {st : kM} {res : Int32 × kM} (hf : fX4_strainOn c v1 st = some res) (K : kEnd Z (some .int) (some (.int res.1)) res.2) : kV Z 2 0 [(0, kr Z c), (1, .int v1)] [] st := by
  unfold fX4_strainOn at hf
  refine k_aload_n C 0 dX4_strainOn_0 rfl rfl rfl ?_
  obtain ⟨s1, e2, hf⟩ := kf_b hf
  refine k_callV C [] (mX4_countFast hc e2) (yd_4 hc) (by decide) rfl kw_1_232 kw_1_234 kw_0_1 kw_1_2 kw_1_235 qX4_countFast rfl ⟨by decide, by decide⟩ ⟨rfl, rfl⟩ (Nat.le_of_ble_eq_true rfl) dX4_strainOn_1 rfl ?_ rfl
  refine (show kV Z 2 4 [(0, kr Z c), (1, .int v1)] [] s1 from ?_)
  refine k_aload_n C 0 dX4_strainOn_4 rfl rfl rfl ?_
  refine k_iload_n C 1 dX4_strainOn_5 rfl rfl rfl ?_
  refine k_aload_n C 0 dX4_strainOn_6 rfl rfl rfl ?_
  obtain ⟨q3, e4, hf⟩ := kf_b hf
  refine k_callV C [] (mX4_windNow hc e4) (yd_4 hc) (by decide) rfl kw_1_236 kw_1_237 kw_1_238 kw_1_2 kw_1_239 qX4_windNow rfl ⟨by decide, by decide⟩ ⟨rfl, rfl⟩ (Nat.le_of_ble_eq_true rfl) dX4_strainOn_7 rfl ?_ rfl
  refine (show kV Z 2 10 [(0, kr Z c), (1, .int v1)] [.int q3.1, .int v1, kr Z c] q3.2 from ?_)
  obtain ⟨q5, e6, hf⟩ := kf_b hf
  refine k_callV C [.int v1, .int q3.1] (mX4_strain hc e6) (yd_4 hc) (by decide) rfl kw_2_4 kw_2_6 kw_0_2 kw_1_2 kw_2_7 qX4_strain rfl ⟨by decide, by decide⟩ ⟨rfl, rfl⟩ (Nat.le_of_ble_eq_true rfl) dX4_strainOn_10 rfl ?_ rfl
  refine (show kV Z 2 13 [(0, kr Z c), (1, .int v1)] [.int q5.1] q5.2 from ?_)
  exact k_iret C K hf dX4_strainOn_13
theorem mX4_strainOn {G : kG} {c : Nat} {v1 : Int32} (hc : yd c) {st : kM} {res : Int32 × kM} (hf : fX4_strainOn c v1 st = some res) : kCt G yX4_strainOn cX4_strainOn 2 (some .int) rmX4_strainOn [.ref (G.2.1 c), .int v1] st (some (.int res.1)) res.2 := kMet (by decide) (Nat.le_of_ble_eq_true rfl) ⟨rfl, rfl⟩ (fun X A Q C K => tX4_strainOn C hc hf K)
theorem qX4_strainOn : yX4_strainOn.cls = RX4 ∧ yX4_strainOn.cls ≠ "java/lang/invoke/MethodHandle" ∧ yX4_strainOn.cls ≠ "java/lang/invoke/VarHandle" ∧ (parseMethodDescriptor yX4_strainOn.desc).map (fun d => d.parameters.length) = some 1 := ⟨rfl, by decide, by decide, by decide +kernel⟩
-- TalkKnots$Yard.heldBy(LTalkKnots$Knot;I)I
def rmX4_heldBy : Room := { frames := 2, cells := 0, slots := 0, locals := 43 }
def fX4_heldBy (c : Nat) (c1 : Nat) (v2 : Int32) (st : kM) : Option (Int32 × kM) :=
  if (st.1 c1 1) < 0 ∨ 4 ≤ (st.1 c1 1).toNatClampNeg then none else ((fX0_holding c1 v2 ((st.1 (c + 4) ((st.1 c1 1).toNatClampNeg)) - (1 : Int32)) st).bind fun q2 => (some (q2.1, q2.2)))
set_option maxRecDepth 100000 in
theorem tX4_heldBy {Z : kZ} (C : kC Z cX4_heldBy RX4 3 rmX4_heldBy) {c : Nat} {c1 : Nat} {v2 : Int32} (hc : yd c) (hc1 : kd c1 = 0) {st : kM} {res : Int32 × kM} (hf : fX4_heldBy c c1 v2 st = some res) (K : kEnd Z (some .int) (some (.int res.1)) res.2) : kV Z 3 0 [(0, kr Z c), (1, kr Z c1), (2, .int v2)] [] st := by
  unfold fX4_heldBy at hf
  refine k_aload_n C 1 dX4_heldBy_0 rfl rfl rfl ?_
  refine k_iload_n C 2 dX4_heldBy_1 rfl rfl rfl ?_
  refine k_aload_n C 0 dX4_heldBy_2 rfl rfl rfl ?_
  refine g_X4_fastOn C (yd_4 hc) kw_1_80 dX4_heldBy_3 rfl ?_
  refine k_aload_n C 1 dX4_heldBy_6 rfl rfl rfl ?_
  refine g_X0_mast C hc1 kw_1_40 dX4_heldBy_7 rfl ?_
  obtain ⟨g1, hf⟩ := kf_g hf
  refine k_iald (j := (st.1 c1 1).toNatClampNeg) C (yd_f hc) g1 rfl dX4_heldBy_10 rfl ?_
  refine k_iconst C (1 : Int32) dX4_heldBy_11 (by decide) rfl ?_
  refine k_isub C dX4_heldBy_12 rfl ?_
  obtain ⟨q2, e3, hf⟩ := kf_b hf
  refine k_callV C [.int v2, .int ((st.1 (c + 4) ((st.1 c1 1).toNatClampNeg)) - (1 : Int32))] (mX0_holding hc1 e3) hc1 (by decide) rfl kw_2_20 kw_2_21 kw_2_22 kw_1_3 kw_2_23 qX0_holding rfl ⟨by decide, by decide⟩ ⟨rfl, rfl⟩ (Nat.le_of_ble_eq_true rfl) dX4_heldBy_13 rfl ?_ rfl
  refine (show kV Z 3 16 [(0, kr Z c), (1, kr Z c1), (2, .int v2)] [.int q2.1] q2.2 from ?_)
  exact k_iret C K hf dX4_heldBy_16
theorem mX4_heldBy {G : kG} {c : Nat} {c1 : Nat} {v2 : Int32} (hc : yd c) (hc1 : kd c1 = 0) {st : kM} {res : Int32 × kM} (hf : fX4_heldBy c c1 v2 st = some res) : kCt G yX4_heldBy cX4_heldBy 3 (some .int) rmX4_heldBy [.ref (G.2.1 c), .ref (G.2.1 c1), .int v2] st (some (.int res.1)) res.2 := kMet (by decide) (Nat.le_of_ble_eq_true rfl) ⟨rfl, rfl⟩ (fun X A Q C K => tX4_heldBy C hc hc1 hf K)
theorem qX4_heldBy : yX4_heldBy.cls = RX4 ∧ yX4_heldBy.cls ≠ "java/lang/invoke/MethodHandle" ∧ yX4_heldBy.cls ≠ "java/lang/invoke/VarHandle" ∧ (parseMethodDescriptor yX4_heldBy.desc).map (fun d => d.parameters.length) = some 2 := ⟨rfl, by decide, by decide, by decide +kernel⟩
-- TalkKnots$Yard.holdingOf(LTalkKnots$Knot;)I
def rmX4_holdingOf : Room := { frames := 3, cells := 0, slots := 0, locals := 65 }
def fX4_holdingOf (c : Nat) (c1 : Nat) (st : kM) : Option (Int32 × kM) :=
  (fX4_countFast c st).bind fun s1 => ((fX4_windNow c s1).bind fun q3 => ((fX4_heldBy c c1 q3.1 q3.2).bind fun q5 => (some (q5.1, q5.2))))
set_option maxRecDepth 100000 in
theorem tX4_holdingOf {Z : kZ} (C : kC Z cX4_holdingOf RX4 2 rmX4_holdingOf) {c : Nat} {c1 : Nat} (hc : yd c) (hc1 : kd c1 = 0) {st : kM} {res : Int32 × kM} (hf : fX4_holdingOf c c1 st = some res) (K : kEnd Z (some .int) (some (.int res.1)) res.2) : kV Z 2 0 [(0, kr Z c), (1, kr Z c1)] [] st := by
  unfold fX4_holdingOf at hf
  refine k_aload_n C 0 dX4_holdingOf_0 rfl rfl rfl ?_
  obtain ⟨s1, e2, hf⟩ := kf_b hf
  refine k_callV C [] (mX4_countFast hc e2) (yd_4 hc) (by decide) rfl kw_1_232 kw_1_234 kw_0_1 kw_1_2 kw_1_235 qX4_countFast rfl ⟨by decide, by decide⟩ ⟨rfl, rfl⟩ (Nat.le_of_ble_eq_true rfl) dX4_holdingOf_1 rfl ?_ rfl
  refine (show kV Z 2 4 [(0, kr Z c), (1, kr Z c1)] [] s1 from ?_)
  refine k_aload_n C 0 dX4_holdingOf_4 rfl rfl rfl ?_
  refine k_aload_n C 1 dX4_holdingOf_5 rfl rfl rfl ?_
  refine k_aload_n C 0 dX4_holdingOf_6 rfl rfl rfl ?_
  obtain ⟨q3, e4, hf⟩ := kf_b hf
  refine k_callV C [] (mX4_windNow hc e4) (yd_4 hc) (by decide) rfl kw_1_236 kw_1_237 kw_1_238 kw_1_2 kw_1_239 qX4_windNow rfl ⟨by decide, by decide⟩ ⟨rfl, rfl⟩ (Nat.le_of_ble_eq_true rfl) dX4_holdingOf_7 rfl ?_ rfl
  refine (show kV Z 2 10 [(0, kr Z c), (1, kr Z c1)] [.int q3.1, kr Z c1, kr Z c] q3.2 from ?_)
  obtain ⟨q5, e6, hf⟩ := kf_b hf
  refine k_callV C [kr Z c1, .int q3.1] (mX4_heldBy hc hc1 e6) (yd_4 hc) (by decide) rfl kw_2_16 kw_2_18 kw_0_3 kw_1_2 kw_2_19 qX4_heldBy rfl ⟨by decide, by decide⟩ ⟨rfl, rfl⟩ (Nat.le_of_ble_eq_true rfl) dX4_holdingOf_10 rfl ?_ rfl
  refine (show kV Z 2 13 [(0, kr Z c), (1, kr Z c1)] [.int q5.1] q5.2 from ?_)
  exact k_iret C K hf dX4_holdingOf_13
theorem mX4_holdingOf {G : kG} {c : Nat} {c1 : Nat} (hc : yd c) (hc1 : kd c1 = 0) {st : kM} {res : Int32 × kM} (hf : fX4_holdingOf c c1 st = some res) : kCt G yX4_holdingOf cX4_holdingOf 2 (some .int) rmX4_holdingOf [.ref (G.2.1 c), .ref (G.2.1 c1)] st (some (.int res.1)) res.2 := kMet (by decide) (Nat.le_of_ble_eq_true rfl) ⟨rfl, rfl⟩ (fun X A Q C K => tX4_holdingOf C hc hc1 hf K)
theorem qX4_holdingOf : yX4_holdingOf.cls = RX4 ∧ yX4_holdingOf.cls ≠ "java/lang/invoke/MethodHandle" ∧ yX4_holdingOf.cls ≠ "java/lang/invoke/VarHandle" ∧ (parseMethodDescriptor yX4_holdingOf.desc).map (fun d => d.parameters.length) = some 1 := ⟨rfl, by decide, by decide, by decide +kernel⟩
-- TalkKnots$Yard.allHolding(I)I
def rmX4_allHolding : Room := { frames := 4, cells := 0, slots := 0, locals := 86 }
def fX4_allHolding_4 (c : Nat) : Nat → Int32 → Int32 → Int32 → kM → Option (Int32 × kM)
  | 0, _, _, _, _ => none
  | n + 1, x1, x2, x3, st =>
    if (st.1 c 1) ≤ x3 then (some (x2, st)) else (if x3 < 0 ∨ 10 ≤ x3.toNatClampNeg then none else (if (st.1 (c + 5 + x3.toNatClampNeg) 1) = x1 then ((fX4_holdingOf c (c + 5 + x3.toNatClampNeg) st).bind fun q6 => ((some (x2 + q6.1)).bind fun z8 => (fX4_allHolding_4 c n x1 z8 (x3 + (1 : Int32)) q6.2))) else ((some (x2 + (0 : Int32))).bind fun z4 => (fX4_allHolding_4 c n x1 z4 (x3 + (1 : Int32)) st))))
def fX4_allHolding (c : Nat) (v1 : Int32) (st : kM) : Option (Int32 × kM) :=
  fX4_allHolding_4 c kfu v1 (0 : Int32) (0 : Int32) st
set_option maxRecDepth 100000 in
theorem tX4_allHolding_4 {Z : kZ} (C : kC Z cX4_allHolding RX4 4 rmX4_allHolding) {c : Nat} (hc : yd c) {res : Int32 × kM} (K : kEnd Z (some .int) (some (.int res.1)) res.2) : ∀ (n : Nat) (x1 : Int32) (x2 : Int32) (x3 : Int32) (st : kM), fX4_allHolding_4 c n x1 x2 x3 st = some res → kV Z 4 4 [(0, kr Z c), (1, .int x1), (2, .int x2), (3, .int x3)] [] st := by
  intro n
  induction n with
  | zero => intro x1 x2 x3 st hf; cases hf
  | succ n ih =>
    intro x1 x2 x3 st hf
    unfold fX4_allHolding_4 at hf
    refine k_iload_n C 3 dX4_allHolding_4 rfl rfl rfl ?_
    refine k_aload_n C 0 dX4_allHolding_5 rfl rfl rfl ?_
    refine g_X4_count C (yd_4 hc) kw_1_66 dX4_allHolding_6 rfl ?_
    refine k_icmp_ge C 48 dX4_allHolding_9 rfl rfl (fun b1 => ?_) (fun b1 => ?_)
    · replace hf := kf_t hf b1
      refine k_iload_n C 2 dX4_allHolding_48 rfl rfl rfl ?_
      exact k_iret C K hf dX4_allHolding_49
    · replace hf := kf_f hf b1
      refine k_iload_n C 2 dX4_allHolding_12 rfl rfl rfl ?_
      refine k_aload_n C 0 dX4_allHolding_13 rfl rfl rfl ?_
      refine g_X4_knots C (yd_4 hc) kw_1_77 dX4_allHolding_14 rfl ?_
      refine k_iload_n C 3 dX4_allHolding_17 rfl rfl rfl ?_
      obtain ⟨g2, hf⟩ := kf_g hf
      refine k_aldK C hc g2 dX4_allHolding_18 rfl ?_
      refine g_X0_mast C (yd_n hc (vi_lt g2)) kw_1_40 dX4_allHolding_19 rfl ?_
      refine k_iload_n C 1 dX4_allHolding_22 rfl rfl rfl ?_
      refine k_icmp_ne C 39 dX4_allHolding_23 rfl rfl (fun b3 => ?_) (fun b3 => ?_)
      · replace hf := kf_f hf b3
        refine k_iconst C (0 : Int32) dX4_allHolding_39 (by decide) rfl ?_
        refine k_iadd C dX4_allHolding_40 rfl ?_
        obtain ⟨z4, e5, hf⟩ := kf_b hf
        refine k_topi e5 ?_
        refine k_istore_n (lv' := [(2, .int z4), (0, kr Z c), (1, .int x1), (3, .int x3)]) C dX4_allHolding_41 rfl (by decide) rfl rfl ?_
        refine k_iinc (lv' := [(3, .int (x3 + (1 : Int32))), (2, .int z4), (0, kr Z c), (1, .int x1)]) C (x3 + (1 : Int32)) 3 dX4_allHolding_42 rfl rfl (by decide) rfl rfl ?_
        refine k_goto C 4 dX4_allHolding_45 rfl ?_
        refine k_lv (lv' := [(0, kr Z c), (1, .int x1), (2, .int z4), (3, .int (x3 + (1 : Int32)))]) [2, 3, 1, 0] rfl ?_
        exact ih x1 z4 (x3 + (1 : Int32)) st  hf
      · replace hf := kf_t hf b3
        refine k_aload_n C 0 dX4_allHolding_26 rfl rfl rfl ?_
        refine k_aload_n C 0 dX4_allHolding_27 rfl rfl rfl ?_
        refine g_X4_knots C (yd_4 hc) kw_1_77 dX4_allHolding_28 rfl ?_
        refine k_iload_n C 3 dX4_allHolding_31 rfl rfl rfl ?_
        refine k_aldK C hc g2 dX4_allHolding_32 rfl ?_
        obtain ⟨q6, e7, hf⟩ := kf_b hf
        refine k_callV C [kr Z (c + 5 + x3.toNatClampNeg)] (mX4_holdingOf hc (yd_n hc (vi_lt g2)) e7) (yd_4 hc) (by decide) rfl kw_2_12 kw_2_13 kw_2_14 kw_1_2 kw_2_15 qX4_holdingOf rfl ⟨by decide, by decide⟩ ⟨rfl, rfl⟩ (Nat.le_of_ble_eq_true rfl) dX4_allHolding_33 rfl ?_ rfl
        refine (show kV Z 4 36 [(0, kr Z c), (1, .int x1), (2, .int x2), (3, .int x3)] [.int q6.1, .int x2] q6.2 from ?_)
        refine k_goto C 40 dX4_allHolding_36 rfl ?_
        refine k_iadd C dX4_allHolding_40 rfl ?_
        obtain ⟨z8, e9, hf⟩ := kf_b hf
        refine k_topi e9 ?_
        refine k_istore_n (lv' := [(2, .int z8), (0, kr Z c), (1, .int x1), (3, .int x3)]) C dX4_allHolding_41 rfl (by decide) rfl rfl ?_
        refine k_iinc (lv' := [(3, .int (x3 + (1 : Int32))), (2, .int z8), (0, kr Z c), (1, .int x1)]) C (x3 + (1 : Int32)) 3 dX4_allHolding_42 rfl rfl (by decide) rfl rfl ?_
        refine k_goto C 4 dX4_allHolding_45 rfl ?_
        refine k_lv (lv' := [(0, kr Z c), (1, .int x1), (2, .int z8), (3, .int (x3 + (1 : Int32)))]) [2, 3, 1, 0] rfl ?_
        exact ih x1 z8 (x3 + (1 : Int32)) q6.2  hf
set_option maxRecDepth 100000 in
theorem tX4_allHolding {Z : kZ} (C : kC Z cX4_allHolding RX4 4 rmX4_allHolding) {c : Nat} {v1 : Int32} (hc : yd c) {st : kM} {res : Int32 × kM} (hf : fX4_allHolding c v1 st = some res) (K : kEnd Z (some .int) (some (.int res.1)) res.2) : kV Z 4 0 [(0, kr Z c), (1, .int v1)] [] st := by
  unfold fX4_allHolding at hf
  refine k_iconst C (0 : Int32) dX4_allHolding_0 (by decide) rfl ?_
  refine k_istore_n (lv' := [(2, .int (0 : Int32)), (0, kr Z c), (1, .int v1)]) C dX4_allHolding_1 rfl (by decide) rfl rfl ?_
  refine k_iconst C (0 : Int32) dX4_allHolding_2 (by decide) rfl ?_
  refine k_istore_n (lv' := [(3, .int (0 : Int32)), (2, .int (0 : Int32)), (0, kr Z c), (1, .int v1)]) C dX4_allHolding_3 rfl (by decide) rfl rfl ?_
  refine k_lv (lv' := [(0, kr Z c), (1, .int v1), (2, .int (0 : Int32)), (3, .int (0 : Int32))]) [2, 3, 1, 0] rfl ?_
  exact tX4_allHolding_4 C hc K _ v1 (0 : Int32) (0 : Int32) st hf
theorem mX4_allHolding {G : kG} {c : Nat} {v1 : Int32} (hc : yd c) {st : kM} {res : Int32 × kM} (hf : fX4_allHolding c v1 st = some res) : kCt G yX4_allHolding cX4_allHolding 4 (some .int) rmX4_allHolding [.ref (G.2.1 c), .int v1] st (some (.int res.1)) res.2 := kMet (by decide) (Nat.le_of_ble_eq_true rfl) ⟨rfl, rfl⟩ (fun X A Q C K => tX4_allHolding C hc hf K)
theorem qX4_allHolding : yX4_allHolding.cls = RX4 ∧ yX4_allHolding.cls ≠ "java/lang/invoke/MethodHandle" ∧ yX4_allHolding.cls ≠ "java/lang/invoke/VarHandle" ∧ (parseMethodDescriptor yX4_allHolding.desc).map (fun d => d.parameters.length) = some 1 := ⟨rfl, by decide, by decide, by decide +kernel⟩
