-- TalkKnots$Yard.wouldGive(LTalkKnots$Knot;)Z
def rmX4_wouldGive : Room := { frames := 3, cells := 0, slots := 0, locals := 65 }
def fX4_wouldGive (c : Nat) (c1 : Nat) (st : kM) : Option (Int32 × kM) :=
  (fX4_windNow c st).bind fun q1 => ((fX4_countFast c q1.2).bind fun s3 => (if (s3.1 c1 4) = 0 then (some ((0 : Int32), s3)) else ((fX4_strain c (s3.1 c1 1) q1.1 s3).bind fun q6 => ((fX4_heldBy c c1 q1.1 q6.2).bind fun q8 => ((fX0_givesWay c1 q6.1 q8.1 q8.2).bind fun q10 => (if q10.1 = 0 then (some ((0 : Int32), q10.2)) else (some ((1 : Int32), q10.2))))))))
set_option maxRecDepth 100000 in
theorem tX4_wouldGive {Z : kZ} (C : kC Z cX4_wouldGive RX4 3 rmX4_wouldGive) {c : Nat} {c1 : Nat} (hc : yd c) (hc1 : kd c1 = 0) {st : kM} {res : Int32 × kM} (hf : fX4_wouldGive c c1 st = some res) (K : kEnd Z (some .boolean) (some (.int res.1)) res.2) : kV Z 3 0 [(0, kr Z c), (1, kr Z c1)] [] st := by
  unfold fX4_wouldGive at hf
  refine k_aload_n C 0 dX4_wouldGive_0 rfl rfl rfl ?_
  obtain ⟨q1, e2, hf⟩ := kf_b hf
  refine k_callV C [] (mX4_windNow hc e2) (yd_4 hc) (by decide) rfl kw_1_236 kw_1_237 kw_1_238 kw_1_2 kw_1_239 qX4_windNow rfl ⟨by decide, by decide⟩ ⟨rfl, rfl⟩ (Nat.le_of_ble_eq_true rfl) dX4_wouldGive_1 rfl ?_ rfl
  refine (show kV Z 3 4 [(0, kr Z c), (1, kr Z c1)] [.int q1.1] q1.2 from ?_)
  refine k_istore_n (lv' := [(2, .int q1.1), (0, kr Z c), (1, kr Z c1)]) C dX4_wouldGive_4 rfl (by decide) rfl rfl ?_
  refine k_aload_n C 1 dX4_wouldGive_5 rfl rfl rfl ?_
  obtain ⟨s3, e4, hf⟩ := kf_b hf
  refine k_callV C [] (mX4_countFast hc e4) (yd_4 hc) (by decide) rfl kw_1_232 kw_1_234 kw_0_1 kw_1_2 kw_1_235 qX4_countFast rfl ⟨by decide, by decide⟩ ⟨rfl, rfl⟩ (Nat.le_of_ble_eq_true rfl) dX4_wouldGive_6 rfl ?_ rfl
  refine (show kV Z 3 9 [(2, .int q1.1), (0, kr Z c), (1, kr Z c1)] [] s3 from ?_)
  refine k_aload_n C 2 dX4_wouldGive_9 rfl rfl rfl ?_
  refine g_X0_fast C hc1 kw_1_51 dX4_wouldGive_10 rfl ?_
  refine k_if_eq C 42 dX4_wouldGive_13 rfl rfl (fun b5 => ?_) (fun b5 => ?_)
  · replace hf := kf_t hf b5
    refine k_iconst C (0 : Int32) dX4_wouldGive_42 (by decide) rfl ?_
    exact k_zret C K hf rfl dX4_wouldGive_43
  · replace hf := kf_f hf b5
    refine k_aload_n C 2 dX4_wouldGive_16 rfl rfl rfl ?_
    refine k_aload_n C 1 dX4_wouldGive_17 rfl rfl rfl ?_
    refine k_aload_n C 2 dX4_wouldGive_18 rfl rfl rfl ?_
    refine g_X0_mast C hc1 kw_1_40 dX4_wouldGive_19 rfl ?_
    refine k_iload_n C 0 dX4_wouldGive_22 rfl rfl rfl ?_
    obtain ⟨q6, e7, hf⟩ := kf_b hf
    refine k_callV C [.int (s3.1 c1 1), .int q1.1] (mX4_strain hc e7) (yd_4 hc) (by decide) rfl kw_2_4 kw_2_6 kw_0_2 kw_1_2 kw_2_7 qX4_strain rfl ⟨by decide, by decide⟩ ⟨rfl, rfl⟩ (Nat.le_of_ble_eq_true rfl) dX4_wouldGive_23 rfl ?_ rfl
    refine (show kV Z 3 26 [(2, .int q1.1), (0, kr Z c), (1, kr Z c1)] [.int q6.1, kr Z c1] q6.2 from ?_)
    refine k_aload_n C 1 dX4_wouldGive_26 rfl rfl rfl ?_
    refine k_aload_n C 2 dX4_wouldGive_27 rfl rfl rfl ?_
    refine k_iload_n C 0 dX4_wouldGive_28 rfl rfl rfl ?_
    obtain ⟨q8, e9, hf⟩ := kf_b hf
    refine k_callV C [kr Z c1, .int q1.1] (mX4_heldBy hc hc1 e9) (yd_4 hc) (by decide) rfl kw_2_16 kw_2_18 kw_0_3 kw_1_2 kw_2_19 qX4_heldBy rfl ⟨by decide, by decide⟩ ⟨rfl, rfl⟩ (Nat.le_of_ble_eq_true rfl) dX4_wouldGive_29 rfl ?_ rfl
    refine (show kV Z 3 32 [(2, .int q1.1), (0, kr Z c), (1, kr Z c1)] [.int q8.1, .int q6.1, kr Z c1] q8.2 from ?_)
    obtain ⟨q10, e11, hf⟩ := kf_b hf
    refine k_callV C [.int q6.1, .int q8.1] (mX0_givesWay hc1 e11) hc1 (by decide) rfl kw_2_82 kw_2_83 kw_2_84 kw_1_3 kw_2_85 qX0_givesWay rfl ⟨by decide, by decide⟩ ⟨rfl, rfl⟩ (Nat.le_of_ble_eq_true rfl) dX4_wouldGive_32 rfl ?_ rfl
    refine (show kV Z 3 35 [(2, .int q1.1), (0, kr Z c), (1, kr Z c1)] [.int q10.1] q10.2 from ?_)
    refine k_if_eq C 42 dX4_wouldGive_35 rfl rfl (fun b12 => ?_) (fun b12 => ?_)
    · replace hf := kf_t hf b12
      refine k_iconst C (0 : Int32) dX4_wouldGive_42 (by decide) rfl ?_
      exact k_zret C K hf rfl dX4_wouldGive_43
    · replace hf := kf_f hf b12
      refine k_iconst C (1 : Int32) dX4_wouldGive_38 (by decide) rfl ?_
      refine k_goto C 43 dX4_wouldGive_39 rfl ?_
      exact k_zret C K hf rfl dX4_wouldGive_43
theorem mX4_wouldGive {G : kG} {c : Nat} {c1 : Nat} (hc : yd c) (hc1 : kd c1 = 0) {st : kM} {res : Int32 × kM} (hf : fX4_wouldGive c c1 st = some res) : kCt G yX4_wouldGive cX4_wouldGive 3 (some .boolean) rmX4_wouldGive [.ref (G.2.1 c), .ref (G.2.1 c1)] st (some (.int res.1)) res.2 := kMet (by decide) (Nat.le_of_ble_eq_true rfl) ⟨rfl, rfl⟩ (fun X A Q C K => tX4_wouldGive C hc hc1 hf K)
theorem qX4_wouldGive : yX4_wouldGive.cls = RX4 ∧ yX4_wouldGive.cls ≠ "java/lang/invoke/MethodHandle" ∧ yX4_wouldGive.cls ≠ "java/lang/invoke/VarHandle" ∧ (parseMethodDescriptor yX4_wouldGive.desc).map (fun d => d.parameters.length) = some 1 := ⟨rfl, by decide, by decide, by decide +kernel⟩
-- TalkKnots$Yard.dropMasts()V
def rmX4_dropMasts : Room := { frames := 1, cells := 0, slots := 0, locals := 23 }
def fX4_dropMasts_2 (c : Nat) : Nat → Int32 → kM → Option (kM)
  | 0, _, _ => none
  | n + 1, x1, st =>
    if (4 : Int32) ≤ x1 then (some st) else (if x1 < 0 ∨ 4 ≤ x1.toNatClampNeg then none else (if (st.1 (c + 4) x1.toNatClampNeg) = 0 then ((fX4_putUp c x1 (0 : Int32) st).bind fun s4 => (fX4_dropMasts_2 c n (x1 + (1 : Int32)) s4)) else (fX4_dropMasts_2 c n (x1 + (1 : Int32)) st)))
def fX4_dropMasts (c : Nat) (st : kM) : Option (kM) :=
  fX4_dropMasts_2 c kfu (0 : Int32) st
set_option maxRecDepth 100000 in
theorem tX4_dropMasts_2 {Z : kZ} (C : kC Z cX4_dropMasts RX4 2 rmX4_dropMasts) {c : Nat} (hc : yd c) {res : kM} (K : kEnd Z none none res) : ∀ (n : Nat) (x1 : Int32) (st : kM), fX4_dropMasts_2 c n x1 st = some res → kV Z 2 2 [(0, kr Z c), (1, .int x1)] [] st := by
  intro n
  induction n with
  | zero => intro x1 st hf; cases hf
  | succ n ih =>
    intro x1 st hf
    unfold fX4_dropMasts_2 at hf
    refine k_iload_n C 1 dX4_dropMasts_2 rfl rfl rfl ?_
    refine k_iconst C (4 : Int32) dX4_dropMasts_3 (by decide) rfl ?_
    refine k_icmp_ge C 28 dX4_dropMasts_4 rfl rfl (fun b1 => ?_) (fun b1 => ?_)
    · replace hf := kf_t hf b1
      exact k_vret C K hf dX4_dropMasts_28
    · replace hf := kf_f hf b1
      refine k_aload_n C 0 dX4_dropMasts_7 rfl rfl rfl ?_
      refine g_X4_fastOn C (yd_4 hc) kw_1_80 dX4_dropMasts_8 rfl ?_
      refine k_iload_n C 1 dX4_dropMasts_11 rfl rfl rfl ?_
      obtain ⟨g2, hf⟩ := kf_g hf
      refine k_iald (j := x1.toNatClampNeg) C (yd_f hc) g2 rfl dX4_dropMasts_12 rfl ?_
      refine k_if_ne C 22 dX4_dropMasts_13 rfl rfl (fun b3 => ?_) (fun b3 => ?_)
      · replace hf := kf_f hf b3
        refine k_iinc (lv' := [(1, .int (x1 + (1 : Int32))), (0, kr Z c)]) C (x1 + (1 : Int32)) 1 dX4_dropMasts_22 rfl rfl (by decide) rfl rfl ?_
        refine k_goto C 2 dX4_dropMasts_25 rfl ?_
        refine k_lv (lv' := [(0, kr Z c), (1, .int (x1 + (1 : Int32)))]) [1, 0] rfl ?_
        exact ih (x1 + (1 : Int32)) st  hf
      · replace hf := kf_t hf b3
        refine k_aload_n C 0 dX4_dropMasts_16 rfl rfl rfl ?_
        refine k_iload_n C 1 dX4_dropMasts_17 rfl rfl rfl ?_
        refine k_iconst C (0 : Int32) dX4_dropMasts_18 (by decide) rfl ?_
        obtain ⟨s4, e5, hf⟩ := kf_b hf
        refine k_callV C [.int x1, .int (0 : Int32)] (mX4_putUp hc e5) (yd_4 hc) (by decide) rfl kw_2_150 kw_1_213 kw_1_214 kw_1_2 kw_1_215 qX4_putUp rfl ⟨by decide, by decide⟩ ⟨rfl, rfl⟩ (Nat.le_of_ble_eq_true rfl) dX4_dropMasts_19 rfl ?_ rfl
        refine (show kV Z 2 22 [(0, kr Z c), (1, .int x1)] [] s4 from ?_)
        refine k_iinc (lv' := [(1, .int (x1 + (1 : Int32))), (0, kr Z c)]) C (x1 + (1 : Int32)) 1 dX4_dropMasts_22 rfl rfl (by decide) rfl rfl ?_
        refine k_goto C 2 dX4_dropMasts_25 rfl ?_
        refine k_lv (lv' := [(0, kr Z c), (1, .int (x1 + (1 : Int32)))]) [1, 0] rfl ?_
        exact ih (x1 + (1 : Int32)) s4  hf
set_option maxRecDepth 100000 in
theorem tX4_dropMasts {Z : kZ} (C : kC Z cX4_dropMasts RX4 2 rmX4_dropMasts) {c : Nat} (hc : yd c) {st : kM} {res : kM} (hf : fX4_dropMasts c st = some res) (K : kEnd Z none none res) : kV Z 2 0 [(0, kr Z c)] [] st := by
  unfold fX4_dropMasts at hf
  refine k_iconst C (0 : Int32) dX4_dropMasts_0 (by decide) rfl ?_
  refine k_istore_n (lv' := [(1, .int (0 : Int32)), (0, kr Z c)]) C dX4_dropMasts_1 rfl (by decide) rfl rfl ?_
  refine k_lv (lv' := [(0, kr Z c), (1, .int (0 : Int32))]) [1, 0] rfl ?_
  exact tX4_dropMasts_2 C hc K _ (0 : Int32) st hf
theorem mX4_dropMasts {G : kG} {c : Nat} (hc : yd c) {st : kM} {res : kM} (hf : fX4_dropMasts c st = some res) : kCt G yX4_dropMasts cX4_dropMasts 2 none rmX4_dropMasts [.ref (G.2.1 c)] st none res := kMet (by decide) (Nat.le_of_ble_eq_true rfl) ⟨rfl, rfl⟩ (fun X A Q C K => tX4_dropMasts C hc hf K)
theorem qX4_dropMasts : yX4_dropMasts.cls = RX4 ∧ yX4_dropMasts.cls ≠ "java/lang/invoke/MethodHandle" ∧ yX4_dropMasts.cls ≠ "java/lang/invoke/VarHandle" ∧ (parseMethodDescriptor yX4_dropMasts.desc).map (fun d => d.parameters.length) = some 0 := ⟨rfl, by decide, by decide, by decide +kernel⟩
-- TalkKnots$Yard.letGo(I)V
def rmX4_letGo : Room := { frames := 3, cells := 0, slots := 0, locals := 65 }
def fX4_letGo_2 (c : Nat) : Nat → Int32 → Int32 → kM → Option (kM)
  | 0, _, _, _ => none
  | n + 1, x1, x2, st =>
    if (st.1 c 1) ≤ x2 then (some st) else (if x2 < 0 ∨ 10 ≤ x2.toNatClampNeg then none else (if (st.1 (c + 5 + x2.toNatClampNeg) 4) = 0 then (fX4_letGo_2 c n x1 (x2 + (1 : Int32)) st) else ((fX4_isUp c (st.1 (c + 5 + x2.toNatClampNeg) 1) st).bind fun q4 => (if q4.1 = 0 then (fX4_letGo_2 c n x1 (x2 + (1 : Int32)) q4.2) else ((fX4_strain c (q4.2.1 (c + 5 + x2.toNatClampNeg) 1) x1 q4.2).bind fun q7 => ((fX4_heldBy c (c + 5 + x2.toNatClampNeg) x1 q7.2).bind fun q9 => ((fX0_givesWay (c + 5 + x2.toNatClampNeg) q7.1 q9.1 q9.2).bind fun q11 => (if q11.1 = 0 then (fX4_letGo_2 c n x1 (x2 + (1 : Int32)) q11.2) else ((some (kwr q11.2 (c + 5 + x2.toNatClampNeg) 4 (0 : Int32))).bind fun s14 => (fX4_letGo_2 c n x1 (x2 + (1 : Int32)) s14))))))))))
def fX4_letGo (c : Nat) (v1 : Int32) (st : kM) : Option (kM) :=
  fX4_letGo_2 c kfu v1 (0 : Int32) st
set_option maxRecDepth 100000 in
theorem tX4_letGo_2 {Z : kZ} (C : kC Z cX4_letGo RX4 4 rmX4_letGo) {c : Nat} (hc : yd c) {res : kM} (K : kEnd Z none none res) : ∀ (n : Nat) (x1 : Int32) (x2 : Int32) (st : kM), fX4_letGo_2 c n x1 x2 st = some res → kV Z 4 2 [(0, kr Z c), (1, .int x1), (2, .int x2)] [] st := by
  intro n
  induction n with
  | zero => intro x1 x2 st hf; cases hf
  | succ n ih =>
    intro x1 x2 st hf
    unfold fX4_letGo_2 at hf
    refine k_iload_n C 2 dX4_letGo_2 rfl rfl rfl ?_
    refine k_aload_n C 0 dX4_letGo_3 rfl rfl rfl ?_
    refine g_X4_count C (yd_4 hc) kw_1_66 dX4_letGo_4 rfl ?_
    refine k_icmp_ge C 68 dX4_letGo_7 rfl rfl (fun b1 => ?_) (fun b1 => ?_)
    · replace hf := kf_t hf b1
      exact k_vret C K hf dX4_letGo_68
    · replace hf := kf_f hf b1
      refine k_aload_n C 0 dX4_letGo_10 rfl rfl rfl ?_
      refine g_X4_knots C (yd_4 hc) kw_1_77 dX4_letGo_11 rfl ?_
      refine k_iload_n C 2 dX4_letGo_14 rfl rfl rfl ?_
      obtain ⟨g2, hf⟩ := kf_g hf
      refine k_aldK C hc g2 dX4_letGo_15 rfl ?_
      refine k_astore_n (lv' := [(3, kr Z (c + 5 + x2.toNatClampNeg)), (0, kr Z c), (1, .int x1), (2, .int x2)]) C dX4_letGo_16 rfl (by decide) rfl rfl ?_
      refine k_aload_n C 0 dX4_letGo_17 rfl rfl rfl ?_
      refine g_X0_fast C (yd_n hc (vi_lt g2)) kw_1_51 dX4_letGo_18 rfl ?_
      refine k_if_eq C 62 dX4_letGo_21 rfl rfl (fun b3 => ?_) (fun b3 => ?_)
      · replace hf := kf_t hf b3
        refine k_iinc (lv' := [(2, .int (x2 + (1 : Int32))), (3, kr Z (c + 5 + x2.toNatClampNeg)), (0, kr Z c), (1, .int x1)]) C (x2 + (1 : Int32)) 3 dX4_letGo_62 rfl rfl (by decide) rfl rfl ?_
        refine k_goto C 2 dX4_letGo_65 rfl ?_
        refine k_lv (lv' := [(0, kr Z c), (1, .int x1), (2, .int (x2 + (1 : Int32)))]) [2, 3, 0] rfl ?_
        exact ih x1 (x2 + (1 : Int32)) st  hf
      · replace hf := kf_f hf b3
        refine k_aload_n C 1 dX4_letGo_24 rfl rfl rfl ?_
        refine k_aload_n C 0 dX4_letGo_25 rfl rfl rfl ?_
        refine g_X0_mast C (yd_n hc (vi_lt g2)) kw_1_40 dX4_letGo_26 rfl ?_
        obtain ⟨q4, e5, hf⟩ := kf_b hf
        refine k_callV C [.int (st.1 (c + 5 + x2.toNatClampNeg) 1)] (mX4_isUp hc e5) (yd_4 hc) (by decide) rfl kw_2_145 kw_1_209 kw_1_210 kw_1_2 kw_1_211 qX4_isUp rfl ⟨by decide, by decide⟩ ⟨rfl, rfl⟩ (Nat.le_of_ble_eq_true rfl) dX4_letGo_29 rfl ?_ rfl
        refine (show kV Z 4 32 [(3, kr Z (c + 5 + x2.toNatClampNeg)), (0, kr Z c), (1, .int x1), (2, .int x2)] [.int q4.1] q4.2 from ?_)
        refine k_if_eq C 62 dX4_letGo_32 rfl rfl (fun b6 => ?_) (fun b6 => ?_)
        · replace hf := kf_t hf b6
          refine k_iinc (lv' := [(2, .int (x2 + (1 : Int32))), (3, kr Z (c + 5 + x2.toNatClampNeg)), (0, kr Z c), (1, .int x1)]) C (x2 + (1 : Int32)) 3 dX4_letGo_62 rfl rfl (by decide) rfl rfl ?_
          refine k_goto C 2 dX4_letGo_65 rfl ?_
          refine k_lv (lv' := [(0, kr Z c), (1, .int x1), (2, .int (x2 + (1 : Int32)))]) [2, 3, 0] rfl ?_
          exact ih x1 (x2 + (1 : Int32)) q4.2  hf
        · replace hf := kf_f hf b6
          refine k_aload_n C 0 dX4_letGo_35 rfl rfl rfl ?_
          refine k_aload_n C 1 dX4_letGo_36 rfl rfl rfl ?_
          refine k_aload_n C 0 dX4_letGo_37 rfl rfl rfl ?_
          refine g_X0_mast C (yd_n hc (vi_lt g2)) kw_1_40 dX4_letGo_38 rfl ?_
          refine k_iload_n C 2 dX4_letGo_41 rfl rfl rfl ?_
          obtain ⟨q7, e8, hf⟩ := kf_b hf
          refine k_callV C [.int (q4.2.1 (c + 5 + x2.toNatClampNeg) 1), .int x1] (mX4_strain hc e8) (yd_4 hc) (by decide) rfl kw_2_4 kw_2_6 kw_0_2 kw_1_2 kw_2_7 qX4_strain rfl ⟨by decide, by decide⟩ ⟨rfl, rfl⟩ (Nat.le_of_ble_eq_true rfl) dX4_letGo_42 rfl ?_ rfl
          refine (show kV Z 4 45 [(3, kr Z (c + 5 + x2.toNatClampNeg)), (0, kr Z c), (1, .int x1), (2, .int x2)] [.int q7.1, kr Z (c + 5 + x2.toNatClampNeg)] q7.2 from ?_)
          refine k_aload_n C 1 dX4_letGo_45 rfl rfl rfl ?_
          refine k_aload_n C 0 dX4_letGo_46 rfl rfl rfl ?_
          refine k_iload_n C 2 dX4_letGo_47 rfl rfl rfl ?_
          obtain ⟨q9, e10, hf⟩ := kf_b hf
          refine k_callV C [kr Z (c + 5 + x2.toNatClampNeg), .int x1] (mX4_heldBy hc (yd_n hc (vi_lt g2)) e10) (yd_4 hc) (by decide) rfl kw_2_16 kw_2_18 kw_0_3 kw_1_2 kw_2_19 qX4_heldBy rfl ⟨by decide, by decide⟩ ⟨rfl, rfl⟩ (Nat.le_of_ble_eq_true rfl) dX4_letGo_48 rfl ?_ rfl
          refine (show kV Z 4 51 [(3, kr Z (c + 5 + x2.toNatClampNeg)), (0, kr Z c), (1, .int x1), (2, .int x2)] [.int q9.1, .int q7.1, kr Z (c + 5 + x2.toNatClampNeg)] q9.2 from ?_)
          obtain ⟨q11, e12, hf⟩ := kf_b hf
          refine k_callV C [.int q7.1, .int q9.1] (mX0_givesWay (yd_n hc (vi_lt g2)) e12) (yd_n hc (vi_lt g2)) (by decide) rfl kw_2_82 kw_2_83 kw_2_84 kw_1_3 kw_2_85 qX0_givesWay rfl ⟨by decide, by decide⟩ ⟨rfl, rfl⟩ (Nat.le_of_ble_eq_true rfl) dX4_letGo_51 rfl ?_ rfl
          refine (show kV Z 4 54 [(3, kr Z (c + 5 + x2.toNatClampNeg)), (0, kr Z c), (1, .int x1), (2, .int x2)] [.int q11.1] q11.2 from ?_)
          refine k_if_eq C 62 dX4_letGo_54 rfl rfl (fun b13 => ?_) (fun b13 => ?_)
          · replace hf := kf_t hf b13
            refine k_iinc (lv' := [(2, .int (x2 + (1 : Int32))), (3, kr Z (c + 5 + x2.toNatClampNeg)), (0, kr Z c), (1, .int x1)]) C (x2 + (1 : Int32)) 3 dX4_letGo_62 rfl rfl (by decide) rfl rfl ?_
            refine k_goto C 2 dX4_letGo_65 rfl ?_
            refine k_lv (lv' := [(0, kr Z c), (1, .int x1), (2, .int (x2 + (1 : Int32)))]) [2, 3, 0] rfl ?_
            exact ih x1 (x2 + (1 : Int32)) q11.2  hf
          · replace hf := kf_f hf b13
            refine k_aload_n C 0 dX4_letGo_57 rfl rfl rfl ?_
            refine k_iconst C (0 : Int32) dX4_letGo_58 (by decide) rfl ?_
            refine p_X0_fast C (by decide) (yd_n hc (vi_lt g2)) kw_1_51 dX4_letGo_59 rfl ?_
            obtain ⟨s14, e15, hf⟩ := kf_b hf
            refine k_st e15 ?_
            refine k_iinc (lv' := [(2, .int (x2 + (1 : Int32))), (3, kr Z (c + 5 + x2.toNatClampNeg)), (0, kr Z c), (1, .int x1)]) C (x2 + (1 : Int32)) 3 dX4_letGo_62 rfl rfl (by decide) rfl rfl ?_
            refine k_goto C 2 dX4_letGo_65 rfl ?_
            refine k_lv (lv' := [(0, kr Z c), (1, .int x1), (2, .int (x2 + (1 : Int32)))]) [2, 3, 0] rfl ?_
            exact ih x1 (x2 + (1 : Int32)) s14  hf
set_option maxRecDepth 100000 in
theorem tX4_letGo {Z : kZ} (C : kC Z cX4_letGo RX4 4 rmX4_letGo) {c : Nat} {v1 : Int32} (hc : yd c) {st : kM} {res : kM} (hf : fX4_letGo c v1 st = some res) (K : kEnd Z none none res) : kV Z 4 0 [(0, kr Z c), (1, .int v1)] [] st := by
  unfold fX4_letGo at hf
  refine k_iconst C (0 : Int32) dX4_letGo_0 (by decide) rfl ?_
  refine k_istore_n (lv' := [(2, .int (0 : Int32)), (0, kr Z c), (1, .int v1)]) C dX4_letGo_1 rfl (by decide) rfl rfl ?_
  refine k_lv (lv' := [(0, kr Z c), (1, .int v1), (2, .int (0 : Int32))]) [1, 2, 0] rfl ?_
  exact tX4_letGo_2 C hc K _ v1 (0 : Int32) st hf
theorem mX4_letGo {G : kG} {c : Nat} {v1 : Int32} (hc : yd c) {st : kM} {res : kM} (hf : fX4_letGo c v1 st = some res) : kCt G yX4_letGo cX4_letGo 4 none rmX4_letGo [.ref (G.2.1 c), .int v1] st none res := kMet (by decide) (Nat.le_of_ble_eq_true rfl) ⟨rfl, rfl⟩ (fun X A Q C K => tX4_letGo C hc hf K)
theorem qX4_letGo : yX4_letGo.cls = RX4 ∧ yX4_letGo.cls ≠ "java/lang/invoke/MethodHandle" ∧ yX4_letGo.cls ≠ "java/lang/invoke/VarHandle" ∧ (parseMethodDescriptor yX4_letGo.desc).map (fun d => d.parameters.length) = some 1 := ⟨rfl, by decide, by decide, by decide +kernel⟩
-- TalkKnots$Yard.settleKnots(I)V
def rmX4_settleKnots : Room := { frames := 3, cells := 0, slots := 0, locals := 63 }
def fX4_settleKnots_2 (c : Nat) : Nat → Int32 → Int32 → kM → Option (kM)
  | 0, _, _, _ => none
  | n + 1, x1, x2, st =>
    if (st.1 c 1) ≤ x2 then (some st) else (if x2 < 0 ∨ 10 ≤ x2.toNatClampNeg then none else (if (st.1 (c + 5 + x2.toNatClampNeg) 4) = 0 then (fX4_settleKnots_2 c n x1 (x2 + (1 : Int32)) st) else ((fX0_settle (c + 5 + x2.toNatClampNeg) x1 st).bind fun s4 => (fX4_settleKnots_2 c n x1 (x2 + (1 : Int32)) s4))))
def fX4_settleKnots (c : Nat) (v1 : Int32) (st : kM) : Option (kM) :=
  fX4_settleKnots_2 c kfu v1 (0 : Int32) st
set_option maxRecDepth 100000 in
theorem tX4_settleKnots_2 {Z : kZ} (C : kC Z cX4_settleKnots RX4 3 rmX4_settleKnots) {c : Nat} (hc : yd c) {res : kM} (K : kEnd Z none none res) : ∀ (n : Nat) (x1 : Int32) (x2 : Int32) (st : kM), fX4_settleKnots_2 c n x1 x2 st = some res → kV Z 3 2 [(0, kr Z c), (1, .int x1), (2, .int x2)] [] st := by
  intro n
  induction n with
  | zero => intro x1 x2 st hf; cases hf
  | succ n ih =>
    intro x1 x2 st hf
    unfold fX4_settleKnots_2 at hf
    refine k_iload_n C 2 dX4_settleKnots_2 rfl rfl rfl ?_
    refine k_aload_n C 0 dX4_settleKnots_3 rfl rfl rfl ?_
    refine g_X4_count C (yd_4 hc) kw_1_66 dX4_settleKnots_4 rfl ?_
    refine k_icmp_ge C 38 dX4_settleKnots_7 rfl rfl (fun b1 => ?_) (fun b1 => ?_)
    · replace hf := kf_t hf b1
      exact k_vret C K hf dX4_settleKnots_38
    · replace hf := kf_f hf b1
      refine k_aload_n C 0 dX4_settleKnots_10 rfl rfl rfl ?_
      refine g_X4_knots C (yd_4 hc) kw_1_77 dX4_settleKnots_11 rfl ?_
      refine k_iload_n C 2 dX4_settleKnots_14 rfl rfl rfl ?_
      obtain ⟨g2, hf⟩ := kf_g hf
      refine k_aldK C hc g2 dX4_settleKnots_15 rfl ?_
      refine g_X0_fast C (yd_n hc (vi_lt g2)) kw_1_51 dX4_settleKnots_16 rfl ?_
      refine k_if_eq C 32 dX4_settleKnots_19 rfl rfl (fun b3 => ?_) (fun b3 => ?_)
      · replace hf := kf_t hf b3
        refine k_iinc (lv' := [(2, .int (x2 + (1 : Int32))), (0, kr Z c), (1, .int x1)]) C (x2 + (1 : Int32)) 2 dX4_settleKnots_32 rfl rfl (by decide) rfl rfl ?_
        refine k_goto C 2 dX4_settleKnots_35 rfl ?_
        refine k_lv (lv' := [(0, kr Z c), (1, .int x1), (2, .int (x2 + (1 : Int32)))]) [1, 2, 0] rfl ?_
        exact ih x1 (x2 + (1 : Int32)) st  hf
      · replace hf := kf_f hf b3
        refine k_aload_n C 0 dX4_settleKnots_22 rfl rfl rfl ?_
        refine g_X4_knots C (yd_4 hc) kw_1_77 dX4_settleKnots_23 rfl ?_
        refine k_iload_n C 2 dX4_settleKnots_26 rfl rfl rfl ?_
        refine k_aldK C hc g2 dX4_settleKnots_27 rfl ?_
        refine k_iload_n C 1 dX4_settleKnots_28 rfl rfl rfl ?_
        obtain ⟨s4, e5, hf⟩ := kf_b hf
        refine k_callV C [.int x1] (mX0_settle (yd_n hc (vi_lt g2)) e5) (yd_n hc (vi_lt g2)) (by decide) rfl kw_2_155 kw_2_156 kw_2_157 kw_1_3 kw_2_158 qX0_settle rfl ⟨by decide, by decide⟩ ⟨rfl, rfl⟩ (Nat.le_of_ble_eq_true rfl) dX4_settleKnots_29 rfl ?_ rfl
        refine (show kV Z 3 32 [(0, kr Z c), (1, .int x1), (2, .int x2)] [] s4 from ?_)
        refine k_iinc (lv' := [(2, .int (x2 + (1 : Int32))), (0, kr Z c), (1, .int x1)]) C (x2 + (1 : Int32)) 2 dX4_settleKnots_32 rfl rfl (by decide) rfl rfl ?_
        refine k_goto C 2 dX4_settleKnots_35 rfl ?_
        refine k_lv (lv' := [(0, kr Z c), (1, .int x1), (2, .int (x2 + (1 : Int32)))]) [1, 2, 0] rfl ?_
        exact ih x1 (x2 + (1 : Int32)) s4  hf
set_option maxRecDepth 100000 in
theorem tX4_settleKnots {Z : kZ} (C : kC Z cX4_settleKnots RX4 3 rmX4_settleKnots) {c : Nat} {v1 : Int32} (hc : yd c) {st : kM} {res : kM} (hf : fX4_settleKnots c v1 st = some res) (K : kEnd Z none none res) : kV Z 3 0 [(0, kr Z c), (1, .int v1)] [] st := by
  unfold fX4_settleKnots at hf
  refine k_iconst C (0 : Int32) dX4_settleKnots_0 (by decide) rfl ?_
  refine k_istore_n (lv' := [(2, .int (0 : Int32)), (0, kr Z c), (1, .int v1)]) C dX4_settleKnots_1 rfl (by decide) rfl rfl ?_
  refine k_lv (lv' := [(0, kr Z c), (1, .int v1), (2, .int (0 : Int32))]) [1, 2, 0] rfl ?_
  exact tX4_settleKnots_2 C hc K _ v1 (0 : Int32) st hf
theorem mX4_settleKnots {G : kG} {c : Nat} {v1 : Int32} (hc : yd c) {st : kM} {res : kM} (hf : fX4_settleKnots c v1 st = some res) : kCt G yX4_settleKnots cX4_settleKnots 3 none rmX4_settleKnots [.ref (G.2.1 c), .int v1] st none res := kMet (by decide) (Nat.le_of_ble_eq_true rfl) ⟨rfl, rfl⟩ (fun X A Q C K => tX4_settleKnots C hc hf K)
theorem qX4_settleKnots : yX4_settleKnots.cls = RX4 ∧ yX4_settleKnots.cls ≠ "java/lang/invoke/MethodHandle" ∧ yX4_settleKnots.cls ≠ "java/lang/invoke/VarHandle" ∧ (parseMethodDescriptor yX4_settleKnots.desc).map (fun d => d.parameters.length) = some 1 := ⟨rfl, by decide, by decide, by decide +kernel⟩
-- TalkKnots$Yard.passHour()V
def rmX4_passHour : Room := { frames := 4, cells := 0, slots := 0, locals := 88 }
def fX4_passHour (c : Nat) (st : kM) : Option (kM) :=
  (fX4_windNow c st).bind fun q1 => ((fX4_countFast c q1.2).bind fun s3 => ((fX4_letGo c q1.1 s3).bind fun s5 => ((fX4_countFast c s5).bind fun s7 => ((fX4_dropMasts c s7).bind fun s9 => ((fX4_settleKnots c q1.1 s9).bind fun s11 => ((some (kwr s11 c 0 ((s11.1 c 0) + (1 : Int32)))).bind fun s13 => (some s13)))))))
set_option maxRecDepth 100000 in
theorem tX4_passHour {Z : kZ} (C : kC Z cX4_passHour RX4 2 rmX4_passHour) {c : Nat} (hc : yd c) {st : kM} {res : kM} (hf : fX4_passHour c st = some res) (K : kEnd Z none none res) : kV Z 2 0 [(0, kr Z c)] [] st := by
  unfold fX4_passHour at hf
  refine k_aload_n C 0 dX4_passHour_0 rfl rfl rfl ?_
  obtain ⟨q1, e2, hf⟩ := kf_b hf
  refine k_callV C [] (mX4_windNow hc e2) (yd_4 hc) (by decide) rfl kw_1_236 kw_1_237 kw_1_238 kw_1_2 kw_1_239 qX4_windNow rfl ⟨by decide, by decide⟩ ⟨rfl, rfl⟩ (Nat.le_of_ble_eq_true rfl) dX4_passHour_1 rfl ?_ rfl
  refine (show kV Z 2 4 [(0, kr Z c)] [.int q1.1] q1.2 from ?_)
  refine k_istore_n (lv' := [(1, .int q1.1), (0, kr Z c)]) C dX4_passHour_4 rfl (by decide) rfl rfl ?_
  refine k_aload_n C 1 dX4_passHour_5 rfl rfl rfl ?_
  obtain ⟨s3, e4, hf⟩ := kf_b hf
  refine k_callV C [] (mX4_countFast hc e4) (yd_4 hc) (by decide) rfl kw_1_232 kw_1_234 kw_0_1 kw_1_2 kw_1_235 qX4_countFast rfl ⟨by decide, by decide⟩ ⟨rfl, rfl⟩ (Nat.le_of_ble_eq_true rfl) dX4_passHour_6 rfl ?_ rfl
  refine (show kV Z 2 9 [(1, .int q1.1), (0, kr Z c)] [] s3 from ?_)
  refine k_aload_n C 1 dX4_passHour_9 rfl rfl rfl ?_
  refine k_iload_n C 0 dX4_passHour_10 rfl rfl rfl ?_
  obtain ⟨s5, e6, hf⟩ := kf_b hf
  refine k_callV C [.int q1.1] (mX4_letGo hc e6) (yd_4 hc) (by decide) rfl kw_2_141 kw_2_143 kw_0_7 kw_1_2 kw_2_144 qX4_letGo rfl ⟨by decide, by decide⟩ ⟨rfl, rfl⟩ (Nat.le_of_ble_eq_true rfl) dX4_passHour_11 rfl ?_ rfl
  refine (show kV Z 2 14 [(1, .int q1.1), (0, kr Z c)] [] s5 from ?_)
  refine k_aload_n C 1 dX4_passHour_14 rfl rfl rfl ?_
  obtain ⟨s7, e8, hf⟩ := kf_b hf
  refine k_callV C [] (mX4_countFast hc e8) (yd_4 hc) (by decide) rfl kw_1_232 kw_1_234 kw_0_1 kw_1_2 kw_1_235 qX4_countFast rfl ⟨by decide, by decide⟩ ⟨rfl, rfl⟩ (Nat.le_of_ble_eq_true rfl) dX4_passHour_15 rfl ?_ rfl
  refine (show kV Z 2 18 [(1, .int q1.1), (0, kr Z c)] [] s7 from ?_)
  refine k_aload_n C 1 dX4_passHour_18 rfl rfl rfl ?_
  obtain ⟨s9, e10, hf⟩ := kf_b hf
  refine k_callV C [] (mX4_dropMasts hc e10) (yd_4 hc) (by decide) rfl kw_2_146 kw_2_148 kw_0_8 kw_1_2 kw_2_149 qX4_dropMasts rfl ⟨by decide, by decide⟩ ⟨rfl, rfl⟩ (Nat.le_of_ble_eq_true rfl) dX4_passHour_19 rfl ?_ rfl
  refine (show kV Z 2 22 [(1, .int q1.1), (0, kr Z c)] [] s9 from ?_)
  refine k_aload_n C 1 dX4_passHour_22 rfl rfl rfl ?_
  refine k_iload_n C 0 dX4_passHour_23 rfl rfl rfl ?_
  obtain ⟨s11, e12, hf⟩ := kf_b hf
  refine k_callV C [.int q1.1] (mX4_settleKnots hc e12) (yd_4 hc) (by decide) rfl kw_2_151 kw_2_153 kw_0_9 kw_1_2 kw_2_154 qX4_settleKnots rfl ⟨by decide, by decide⟩ ⟨rfl, rfl⟩ (Nat.le_of_ble_eq_true rfl) dX4_passHour_24 rfl ?_ rfl
  refine (show kV Z 2 27 [(1, .int q1.1), (0, kr Z c)] [] s11 from ?_)
  refine k_aload_n C 1 dX4_passHour_27 rfl rfl rfl ?_
  refine k_dup C rfl dX4_passHour_28 rfl ?_
  refine g_X4_hour C (yd_4 hc) kw_1_64 dX4_passHour_29 rfl ?_
  refine k_iconst C (1 : Int32) dX4_passHour_32 (by decide) rfl ?_
  refine k_iadd C dX4_passHour_33 rfl ?_
  refine p_X4_hour C (yd_4 hc) kw_1_64 dX4_passHour_34 rfl ?_
  obtain ⟨s13, e14, hf⟩ := kf_b hf
  refine k_st e14 ?_
  exact k_vret C K hf dX4_passHour_37
theorem mX4_passHour {G : kG} {c : Nat} (hc : yd c) {st : kM} {res : kM} (hf : fX4_passHour c st = some res) : kCt G yX4_passHour cX4_passHour 2 none rmX4_passHour [.ref (G.2.1 c)] st none res := kMet (by decide) (Nat.le_of_ble_eq_true rfl) ⟨rfl, rfl⟩ (fun X A Q C K => tX4_passHour C hc hf K)
theorem qX4_passHour : yX4_passHour.cls = RX4 ∧ yX4_passHour.cls ≠ "java/lang/invoke/MethodHandle" ∧ yX4_passHour.cls ≠ "java/lang/invoke/VarHandle" ∧ (parseMethodDescriptor yX4_passHour.desc).map (fun d => d.parameters.length) = some 0 := ⟨rfl, by decide, by decide, by decide +kernel⟩
-- TalkKnots$Yard.passHours(I)V
def rmX4_passHours : Room := { frames := 5, cells := 0, slots := 0, locals := 109 }
def fX4_passHours_2 (c : Nat) : Nat → Int32 → Int32 → kM → Option (kM)
  | 0, _, _, _ => none
  | n + 1, x1, x2, st =>
    if x1 ≤ x2 then (some st) else ((fX4_passHour c st).bind fun s2 => (fX4_passHours_2 c n x1 (x2 + (1 : Int32)) s2))
def fX4_passHours (c : Nat) (v1 : Int32) (st : kM) : Option (kM) :=
  fX4_passHours_2 c kfu v1 (0 : Int32) st
set_option maxRecDepth 100000 in
theorem tX4_passHours_2 {Z : kZ} (C : kC Z cX4_passHours RX4 3 rmX4_passHours) {c : Nat} (hc : yd c) {res : kM} (K : kEnd Z none none res) : ∀ (n : Nat) (x1 : Int32) (x2 : Int32) (st : kM), fX4_passHours_2 c n x1 x2 st = some res → kV Z 3 2 [(0, kr Z c), (1, .int x1), (2, .int x2)] [] st := by
  intro n
  induction n with
  | zero => intro x1 x2 st hf; cases hf
  | succ n ih =>
    intro x1 x2 st hf
    unfold fX4_passHours_2 at hf
    refine k_iload_n C 2 dX4_passHours_2 rfl rfl rfl ?_
    refine k_iload_n C 1 dX4_passHours_3 rfl rfl rfl ?_
    refine k_icmp_ge C 17 dX4_passHours_4 rfl rfl (fun b1 => ?_) (fun b1 => ?_)
    · replace hf := kf_t hf b1
      exact k_vret C K hf dX4_passHours_17
    · replace hf := kf_f hf b1
      refine k_aload_n C 0 dX4_passHours_7 rfl rfl rfl ?_
      obtain ⟨s2, e3, hf⟩ := kf_b hf
      refine k_callV C [] (mX4_passHour hc e3) (yd_4 hc) (by decide) rfl kw_2_137 kw_2_138 kw_2_139 kw_1_2 kw_2_140 qX4_passHour rfl ⟨by decide, by decide⟩ ⟨rfl, rfl⟩ (Nat.le_of_ble_eq_true rfl) dX4_passHours_8 rfl ?_ rfl
      refine (show kV Z 3 11 [(0, kr Z c), (1, .int x1), (2, .int x2)] [] s2 from ?_)
      refine k_iinc (lv' := [(2, .int (x2 + (1 : Int32))), (0, kr Z c), (1, .int x1)]) C (x2 + (1 : Int32)) 2 dX4_passHours_11 rfl rfl (by decide) rfl rfl ?_
      refine k_goto C 2 dX4_passHours_14 rfl ?_
      refine k_lv (lv' := [(0, kr Z c), (1, .int x1), (2, .int (x2 + (1 : Int32)))]) [1, 2, 0] rfl ?_
      exact ih x1 (x2 + (1 : Int32)) s2  hf
set_option maxRecDepth 100000 in
theorem tX4_passHours {Z : kZ} (C : kC Z cX4_passHours RX4 3 rmX4_passHours) {c : Nat} {v1 : Int32} (hc : yd c) {st : kM} {res : kM} (hf : fX4_passHours c v1 st = some res) (K : kEnd Z none none res) : kV Z 3 0 [(0, kr Z c), (1, .int v1)] [] st := by
  unfold fX4_passHours at hf
  refine k_iconst C (0 : Int32) dX4_passHours_0 (by decide) rfl ?_
  refine k_istore_n (lv' := [(2, .int (0 : Int32)), (0, kr Z c), (1, .int v1)]) C dX4_passHours_1 rfl (by decide) rfl rfl ?_
  refine k_lv (lv' := [(0, kr Z c), (1, .int v1), (2, .int (0 : Int32))]) [1, 2, 0] rfl ?_
  exact tX4_passHours_2 C hc K _ v1 (0 : Int32) st hf
theorem mX4_passHours {G : kG} {c : Nat} {v1 : Int32} (hc : yd c) {st : kM} {res : kM} (hf : fX4_passHours c v1 st = some res) : kCt G yX4_passHours cX4_passHours 3 none rmX4_passHours [.ref (G.2.1 c), .int v1] st none res := kMet (by decide) (Nat.le_of_ble_eq_true rfl) ⟨rfl, rfl⟩ (fun X A Q C K => tX4_passHours C hc hf K)
theorem qX4_passHours : yX4_passHours.cls = RX4 ∧ yX4_passHours.cls ≠ "java/lang/invoke/MethodHandle" ∧ yX4_passHours.cls ≠ "java/lang/invoke/VarHandle" ∧ (parseMethodDescriptor yX4_passHours.desc).map (fun d => d.parameters.length) = some 1 := ⟨rfl, by decide, by decide, by decide +kernel⟩
-- TalkKnots$Yard.staysUp(II)Z
def rmX4_staysUp : Room := { frames := 5, cells := 0, slots := 0, locals := 109 }
def fX4_staysUp_2 (c : Nat) : Nat → Int32 → Int32 → Int32 → kM → Option (Int32 × kM)
  | 0, _, _, _, _ => none
  | n + 1, x1, x2, x3, st =>
    if x2 ≤ x3 then ((fX4_isUp c x1 st).bind fun q2 => (if q2.1 = 0 ∨ q2.1 = 1 then some (q2.1, q2.2) else none)) else ((fX4_isUp c x1 st).bind fun q4 => (if q4.1 = 0 then ((fX4_isUp c x1 q4.2).bind fun q7 => (if q7.1 = 0 ∨ q7.1 = 1 then some (q7.1, q7.2) else none)) else ((fX4_passHour c q4.2).bind fun s9 => (fX4_staysUp_2 c n x1 x2 (x3 + (1 : Int32)) s9))))
def fX4_staysUp (c : Nat) (v1 : Int32) (v2 : Int32) (st : kM) : Option (Int32 × kM) :=
  fX4_staysUp_2 c kfu v1 v2 (0 : Int32) st
set_option maxRecDepth 100000 in
theorem tX4_staysUp_2 {Z : kZ} (C : kC Z cX4_staysUp RX4 4 rmX4_staysUp) {c : Nat} (hc : yd c) {res : Int32 × kM} (K : kEnd Z (some .boolean) (some (.int res.1)) res.2) : ∀ (n : Nat) (x1 : Int32) (x2 : Int32) (x3 : Int32) (st : kM), fX4_staysUp_2 c n x1 x2 x3 st = some res → kV Z 4 2 [(0, kr Z c), (1, .int x1), (2, .int x2), (3, .int x3)] [] st := by
  intro n
  induction n with
  | zero => intro x1 x2 x3 st hf; cases hf
  | succ n ih =>
    intro x1 x2 x3 st hf
    unfold fX4_staysUp_2 at hf
    refine k_iload_n C 3 dX4_staysUp_2 rfl rfl rfl ?_
    refine k_iload_n C 2 dX4_staysUp_3 rfl rfl rfl ?_
    refine k_icmp_ge C 25 dX4_staysUp_4 rfl rfl (fun b1 => ?_) (fun b1 => ?_)
    · replace hf := kf_t hf b1
      refine k_aload_n C 0 dX4_staysUp_25 rfl rfl rfl ?_
      refine k_iload_n C 1 dX4_staysUp_26 rfl rfl rfl ?_
      obtain ⟨q2, e3, hf⟩ := kf_b hf
      refine k_callV C [.int x1] (mX4_isUp hc e3) (yd_4 hc) (by decide) rfl kw_2_145 kw_1_209 kw_1_210 kw_1_2 kw_1_211 qX4_isUp rfl ⟨by decide, by decide⟩ ⟨rfl, rfl⟩ (Nat.le_of_ble_eq_true rfl) dX4_staysUp_27 rfl ?_ rfl
      refine (show kV Z 4 30 [(0, kr Z c), (1, .int x1), (2, .int x2), (3, .int x3)] [.int q2.1] q2.2 from ?_)
      obtain ⟨g0, hf⟩ := kf_y hf
      exact k_zret C K hf (kb_n g0) dX4_staysUp_30
    · replace hf := kf_f hf b1
      refine k_aload_n C 0 dX4_staysUp_7 rfl rfl rfl ?_
      refine k_iload_n C 1 dX4_staysUp_8 rfl rfl rfl ?_
      obtain ⟨q4, e5, hf⟩ := kf_b hf
      refine k_callV C [.int x1] (mX4_isUp hc e5) (yd_4 hc) (by decide) rfl kw_2_145 kw_1_209 kw_1_210 kw_1_2 kw_1_211 qX4_isUp rfl ⟨by decide, by decide⟩ ⟨rfl, rfl⟩ (Nat.le_of_ble_eq_true rfl) dX4_staysUp_9 rfl ?_ rfl
      refine (show kV Z 4 12 [(0, kr Z c), (1, .int x1), (2, .int x2), (3, .int x3)] [.int q4.1] q4.2 from ?_)
      refine k_if_eq C 25 dX4_staysUp_12 rfl rfl (fun b6 => ?_) (fun b6 => ?_)
      · replace hf := kf_t hf b6
        refine k_aload_n C 0 dX4_staysUp_25 rfl rfl rfl ?_
        refine k_iload_n C 1 dX4_staysUp_26 rfl rfl rfl ?_
        obtain ⟨q7, e8, hf⟩ := kf_b hf
        refine k_callV C [.int x1] (mX4_isUp hc e8) (yd_4 hc) (by decide) rfl kw_2_145 kw_1_209 kw_1_210 kw_1_2 kw_1_211 qX4_isUp rfl ⟨by decide, by decide⟩ ⟨rfl, rfl⟩ (Nat.le_of_ble_eq_true rfl) dX4_staysUp_27 rfl ?_ rfl
        refine (show kV Z 4 30 [(0, kr Z c), (1, .int x1), (2, .int x2), (3, .int x3)] [.int q7.1] q7.2 from ?_)
        obtain ⟨g0, hf⟩ := kf_y hf
        exact k_zret C K hf (kb_n g0) dX4_staysUp_30
      · replace hf := kf_f hf b6
        refine k_aload_n C 0 dX4_staysUp_15 rfl rfl rfl ?_
        obtain ⟨s9, e10, hf⟩ := kf_b hf
        refine k_callV C [] (mX4_passHour hc e10) (yd_4 hc) (by decide) rfl kw_2_137 kw_2_138 kw_2_139 kw_1_2 kw_2_140 qX4_passHour rfl ⟨by decide, by decide⟩ ⟨rfl, rfl⟩ (Nat.le_of_ble_eq_true rfl) dX4_staysUp_16 rfl ?_ rfl
        refine (show kV Z 4 19 [(0, kr Z c), (1, .int x1), (2, .int x2), (3, .int x3)] [] s9 from ?_)
        refine k_iinc (lv' := [(3, .int (x3 + (1 : Int32))), (0, kr Z c), (1, .int x1), (2, .int x2)]) C (x3 + (1 : Int32)) 3 dX4_staysUp_19 rfl rfl (by decide) rfl rfl ?_
        refine k_goto C 2 dX4_staysUp_22 rfl ?_
        refine k_lv (lv' := [(0, kr Z c), (1, .int x1), (2, .int x2), (3, .int (x3 + (1 : Int32)))]) [1, 2, 3, 0] rfl ?_
        exact ih x1 x2 (x3 + (1 : Int32)) s9  hf
set_option maxRecDepth 100000 in
theorem tX4_staysUp {Z : kZ} (C : kC Z cX4_staysUp RX4 4 rmX4_staysUp) {c : Nat} {v1 : Int32} {v2 : Int32} (hc : yd c) {st : kM} {res : Int32 × kM} (hf : fX4_staysUp c v1 v2 st = some res) (K : kEnd Z (some .boolean) (some (.int res.1)) res.2) : kV Z 4 0 [(0, kr Z c), (1, .int v1), (2, .int v2)] [] st := by
  unfold fX4_staysUp at hf
  refine k_iconst C (0 : Int32) dX4_staysUp_0 (by decide) rfl ?_
  refine k_istore_n (lv' := [(3, .int (0 : Int32)), (0, kr Z c), (1, .int v1), (2, .int v2)]) C dX4_staysUp_1 rfl (by decide) rfl rfl ?_
  refine k_lv (lv' := [(0, kr Z c), (1, .int v1), (2, .int v2), (3, .int (0 : Int32))]) [1, 2, 3, 0] rfl ?_
  exact tX4_staysUp_2 C hc K _ v1 v2 (0 : Int32) st hf
theorem mX4_staysUp {G : kG} {c : Nat} {v1 : Int32} {v2 : Int32} (hc : yd c) {st : kM} {res : Int32 × kM} (hf : fX4_staysUp c v1 v2 st = some res) : kCt G yX4_staysUp cX4_staysUp 4 (some .boolean) rmX4_staysUp [.ref (G.2.1 c), .int v1, .int v2] st (some (.int res.1)) res.2 := kMet (by decide) (Nat.le_of_ble_eq_true rfl) ⟨rfl, rfl⟩ (fun X A Q C K => tX4_staysUp C hc hf K)
theorem qX4_staysUp : yX4_staysUp.cls = RX4 ∧ yX4_staysUp.cls ≠ "java/lang/invoke/MethodHandle" ∧ yX4_staysUp.cls ≠ "java/lang/invoke/VarHandle" ∧ (parseMethodDescriptor yX4_staysUp.desc).map (fun d => d.parameters.length) = some 2 := ⟨rfl, by decide, by decide, by decide +kernel⟩
-- TalkKnots$Yard.staysFast(LTalkKnots$Knot;I)Z
def rmX4_staysFast : Room := { frames := 5, cells := 0, slots := 0, locals := 109 }
def fX4_staysFast_2 (c : Nat) : Nat → Nat → Int32 → Int32 → kM → Option (Int32 × kM)
  | 0, _, _, _, _ => none
  | n + 1, x1, x2, x3, st =>
    if x2 ≤ x3 then (if (st.1 x1 4) = 0 ∨ (st.1 x1 4) = 1 then some ((st.1 x1 4), st) else none) else (if (st.1 x1 4) = 0 then (if (st.1 x1 4) = 0 ∨ (st.1 x1 4) = 1 then some ((st.1 x1 4), st) else none) else ((fX4_passHour c st).bind fun s3 => (fX4_staysFast_2 c n x1 x2 (x3 + (1 : Int32)) s3)))
def fX4_staysFast (c : Nat) (c1 : Nat) (v2 : Int32) (st : kM) : Option (Int32 × kM) :=
  fX4_staysFast_2 c kfu c1 v2 (0 : Int32) st
set_option maxRecDepth 100000 in
theorem tX4_staysFast_2 {Z : kZ} (C : kC Z cX4_staysFast RX4 4 rmX4_staysFast) {c : Nat} (hc : yd c) {res : Int32 × kM} (K : kEnd Z (some .boolean) (some (.int res.1)) res.2) : ∀ (n : Nat) (x1 : Nat) (x2 : Int32) (x3 : Int32) (st : kM), (hx1 : kd x1 = 0) → fX4_staysFast_2 c n x1 x2 x3 st = some res → kV Z 4 2 [(0, kr Z c), (1, kr Z x1), (2, .int x2), (3, .int x3)] [] st := by
  intro n
  induction n with
  | zero => intro x1 x2 x3 st hx1 hf; cases hf
  | succ n ih =>
    intro x1 x2 x3 st hx1 hf
    unfold fX4_staysFast_2 at hf
    refine k_iload_n C 3 dX4_staysFast_2 rfl rfl rfl ?_
    refine k_iload_n C 2 dX4_staysFast_3 rfl rfl rfl ?_
    refine k_icmp_ge C 24 dX4_staysFast_4 rfl rfl (fun b1 => ?_) (fun b1 => ?_)
    · replace hf := kf_t hf b1
      refine k_aload_n C 1 dX4_staysFast_24 rfl rfl rfl ?_
      refine g_X0_fast C hx1 kw_1_51 dX4_staysFast_25 rfl ?_
      obtain ⟨g0, hf⟩ := kf_y hf
      exact k_zret C K hf (kb_n g0) dX4_staysFast_28
    · replace hf := kf_f hf b1
      refine k_aload_n C 1 dX4_staysFast_7 rfl rfl rfl ?_
      refine g_X0_fast C hx1 kw_1_51 dX4_staysFast_8 rfl ?_
      refine k_if_eq C 24 dX4_staysFast_11 rfl rfl (fun b2 => ?_) (fun b2 => ?_)
      · replace hf := kf_t hf b2
        refine k_aload_n C 1 dX4_staysFast_24 rfl rfl rfl ?_
        refine g_X0_fast C hx1 kw_1_51 dX4_staysFast_25 rfl ?_
        obtain ⟨g0, hf⟩ := kf_y hf
        exact k_zret C K hf (kb_n g0) dX4_staysFast_28
      · replace hf := kf_f hf b2
        refine k_aload_n C 0 dX4_staysFast_14 rfl rfl rfl ?_
        obtain ⟨s3, e4, hf⟩ := kf_b hf
        refine k_callV C [] (mX4_passHour hc e4) (yd_4 hc) (by decide) rfl kw_2_137 kw_2_138 kw_2_139 kw_1_2 kw_2_140 qX4_passHour rfl ⟨by decide, by decide⟩ ⟨rfl, rfl⟩ (Nat.le_of_ble_eq_true rfl) dX4_staysFast_15 rfl ?_ rfl
        refine (show kV Z 4 18 [(0, kr Z c), (1, kr Z x1), (2, .int x2), (3, .int x3)] [] s3 from ?_)
        refine k_iinc (lv' := [(3, .int (x3 + (1 : Int32))), (0, kr Z c), (1, kr Z x1), (2, .int x2)]) C (x3 + (1 : Int32)) 3 dX4_staysFast_18 rfl rfl (by decide) rfl rfl ?_
        refine k_goto C 2 dX4_staysFast_21 rfl ?_
        refine k_lv (lv' := [(0, kr Z c), (1, kr Z x1), (2, .int x2), (3, .int (x3 + (1 : Int32)))]) [1, 2, 3, 0] rfl ?_
        exact ih x1 x2 (x3 + (1 : Int32)) s3 hx1 hf
set_option maxRecDepth 100000 in
theorem tX4_staysFast {Z : kZ} (C : kC Z cX4_staysFast RX4 4 rmX4_staysFast) {c : Nat} {c1 : Nat} {v2 : Int32} (hc : yd c) (hc1 : kd c1 = 0) {st : kM} {res : Int32 × kM} (hf : fX4_staysFast c c1 v2 st = some res) (K : kEnd Z (some .boolean) (some (.int res.1)) res.2) : kV Z 4 0 [(0, kr Z c), (1, kr Z c1), (2, .int v2)] [] st := by
  unfold fX4_staysFast at hf
  refine k_iconst C (0 : Int32) dX4_staysFast_0 (by decide) rfl ?_
  refine k_istore_n (lv' := [(3, .int (0 : Int32)), (0, kr Z c), (1, kr Z c1), (2, .int v2)]) C dX4_staysFast_1 rfl (by decide) rfl rfl ?_
  refine k_lv (lv' := [(0, kr Z c), (1, kr Z c1), (2, .int v2), (3, .int (0 : Int32))]) [1, 2, 3, 0] rfl ?_
  exact tX4_staysFast_2 C hc K _ c1 v2 (0 : Int32) st hc1 hf
theorem mX4_staysFast {G : kG} {c : Nat} {c1 : Nat} {v2 : Int32} (hc : yd c) (hc1 : kd c1 = 0) {st : kM} {res : Int32 × kM} (hf : fX4_staysFast c c1 v2 st = some res) : kCt G yX4_staysFast cX4_staysFast 4 (some .boolean) rmX4_staysFast [.ref (G.2.1 c), .ref (G.2.1 c1), .int v2] st (some (.int res.1)) res.2 := kMet (by decide) (Nat.le_of_ble_eq_true rfl) ⟨rfl, rfl⟩ (fun X A Q C K => tX4_staysFast C hc hc1 hf K)
theorem qX4_staysFast : yX4_staysFast.cls = RX4 ∧ yX4_staysFast.cls ≠ "java/lang/invoke/MethodHandle" ∧ yX4_staysFast.cls ≠ "java/lang/invoke/VarHandle" ∧ (parseMethodDescriptor yX4_staysFast.desc).map (fun d => d.parameters.length) = some 2 := ⟨rfl, by decide, by decide, by decide +kernel⟩
-- TalkKnots$Yard.hoursTillFallen(I)I
def rmX4_hoursTillFallen : Room := { frames := 5, cells := 0, slots := 0, locals := 109 }
def fX4_hoursTillFallen_2 (c : Nat) : Nat → Int32 → Int32 → kM → Option (Int32 × kM)
  | 0, _, _, _ => none
  | n + 1, x1, x2, st =>
    if (200 : Int32) < x2 then (some (x2, st)) else ((fX4_isUp c x1 st).bind fun q2 => (if q2.1 = 0 then (some (x2, q2.2)) else ((fX4_passHour c q2.2).bind fun s5 => (fX4_hoursTillFallen_2 c n x1 (x2 + (1 : Int32)) s5))))
def fX4_hoursTillFallen (c : Nat) (v1 : Int32) (st : kM) : Option (Int32 × kM) :=
  fX4_hoursTillFallen_2 c kfu v1 (0 : Int32) st
set_option maxRecDepth 100000 in
theorem tX4_hoursTillFallen_2 {Z : kZ} (C : kC Z cX4_hoursTillFallen RX4 3 rmX4_hoursTillFallen) {c : Nat} (hc : yd c) {res : Int32 × kM} (K : kEnd Z (some .int) (some (.int res.1)) res.2) : ∀ (n : Nat) (x1 : Int32) (x2 : Int32) (st : kM), fX4_hoursTillFallen_2 c n x1 x2 st = some res → kV Z 3 2 [(0, kr Z c), (1, .int x1), (2, .int x2)] [] st := by
  intro n
  induction n with
  | zero => intro x1 x2 st hf; cases hf
  | succ n ih =>
    intro x1 x2 st hf
    unfold fX4_hoursTillFallen_2 at hf
    refine k_iload_n C 2 dX4_hoursTillFallen_2 rfl rfl rfl ?_
    refine k_sipush C (200 : Int32) dX4_hoursTillFallen_3 (by decide) rfl ?_
    refine k_icmp_gt C 27 dX4_hoursTillFallen_6 rfl rfl (fun b1 => ?_) (fun b1 => ?_)
    · replace hf := kf_t hf b1
      refine k_iload_n C 2 dX4_hoursTillFallen_27 rfl rfl rfl ?_
      exact k_iret C K hf dX4_hoursTillFallen_28
    · replace hf := kf_f hf b1
      refine k_aload_n C 0 dX4_hoursTillFallen_9 rfl rfl rfl ?_
      refine k_iload_n C 1 dX4_hoursTillFallen_10 rfl rfl rfl ?_
      obtain ⟨q2, e3, hf⟩ := kf_b hf
      refine k_callV C [.int x1] (mX4_isUp hc e3) (yd_4 hc) (by decide) rfl kw_2_145 kw_1_209 kw_1_210 kw_1_2 kw_1_211 qX4_isUp rfl ⟨by decide, by decide⟩ ⟨rfl, rfl⟩ (Nat.le_of_ble_eq_true rfl) dX4_hoursTillFallen_11 rfl ?_ rfl
      refine (show kV Z 3 14 [(0, kr Z c), (1, .int x1), (2, .int x2)] [.int q2.1] q2.2 from ?_)
      refine k_if_eq C 27 dX4_hoursTillFallen_14 rfl rfl (fun b4 => ?_) (fun b4 => ?_)
      · replace hf := kf_t hf b4
        refine k_iload_n C 2 dX4_hoursTillFallen_27 rfl rfl rfl ?_
        exact k_iret C K hf dX4_hoursTillFallen_28
      · replace hf := kf_f hf b4
        refine k_aload_n C 0 dX4_hoursTillFallen_17 rfl rfl rfl ?_
        obtain ⟨s5, e6, hf⟩ := kf_b hf
        refine k_callV C [] (mX4_passHour hc e6) (yd_4 hc) (by decide) rfl kw_2_137 kw_2_138 kw_2_139 kw_1_2 kw_2_140 qX4_passHour rfl ⟨by decide, by decide⟩ ⟨rfl, rfl⟩ (Nat.le_of_ble_eq_true rfl) dX4_hoursTillFallen_18 rfl ?_ rfl
        refine (show kV Z 3 21 [(0, kr Z c), (1, .int x1), (2, .int x2)] [] s5 from ?_)
        refine k_iinc (lv' := [(2, .int (x2 + (1 : Int32))), (0, kr Z c), (1, .int x1)]) C (x2 + (1 : Int32)) 2 dX4_hoursTillFallen_21 rfl rfl (by decide) rfl rfl ?_
        refine k_goto C 2 dX4_hoursTillFallen_24 rfl ?_
        refine k_lv (lv' := [(0, kr Z c), (1, .int x1), (2, .int (x2 + (1 : Int32)))]) [1, 2, 0] rfl ?_
        exact ih x1 (x2 + (1 : Int32)) s5  hf
set_option maxRecDepth 100000 in
theorem tX4_hoursTillFallen {Z : kZ} (C : kC Z cX4_hoursTillFallen RX4 3 rmX4_hoursTillFallen) {c : Nat} {v1 : Int32} (hc : yd c) {st : kM} {res : Int32 × kM} (hf : fX4_hoursTillFallen c v1 st = some res) (K : kEnd Z (some .int) (some (.int res.1)) res.2) : kV Z 3 0 [(0, kr Z c), (1, .int v1)] [] st := by
  unfold fX4_hoursTillFallen at hf
  refine k_iconst C (0 : Int32) dX4_hoursTillFallen_0 (by decide) rfl ?_
  refine k_istore_n (lv' := [(2, .int (0 : Int32)), (0, kr Z c), (1, .int v1)]) C dX4_hoursTillFallen_1 rfl (by decide) rfl rfl ?_
  refine k_lv (lv' := [(0, kr Z c), (1, .int v1), (2, .int (0 : Int32))]) [1, 2, 0] rfl ?_
  exact tX4_hoursTillFallen_2 C hc K _ v1 (0 : Int32) st hf
theorem mX4_hoursTillFallen {G : kG} {c : Nat} {v1 : Int32} (hc : yd c) {st : kM} {res : Int32 × kM} (hf : fX4_hoursTillFallen c v1 st = some res) : kCt G yX4_hoursTillFallen cX4_hoursTillFallen 3 (some .int) rmX4_hoursTillFallen [.ref (G.2.1 c), .int v1] st (some (.int res.1)) res.2 := kMet (by decide) (Nat.le_of_ble_eq_true rfl) ⟨rfl, rfl⟩ (fun X A Q C K => tX4_hoursTillFallen C hc hf K)
theorem qX4_hoursTillFallen : yX4_hoursTillFallen.cls = RX4 ∧ yX4_hoursTillFallen.cls ≠ "java/lang/invoke/MethodHandle" ∧ yX4_hoursTillFallen.cls ≠ "java/lang/invoke/VarHandle" ∧ (parseMethodDescriptor yX4_hoursTillFallen.desc).map (fun d => d.parameters.length) = some 1 := ⟨rfl, by decide, by decide, by decide +kernel⟩
-- TalkKnots$Yard.hoursTillLoose(LTalkKnots$Knot;)I
def rmX4_hoursTillLoose : Room := { frames := 5, cells := 0, slots := 0, locals := 109 }
def fX4_hoursTillLoose_2 (c : Nat) : Nat → Nat → Int32 → kM → Option (Int32 × kM)
  | 0, _, _, _ => none
  | n + 1, x1, x2, st =>
    if (200 : Int32) < x2 then (some (x2, st)) else (if (st.1 x1 4) = 0 then (some (x2, st)) else ((fX4_passHour c st).bind fun s3 => (fX4_hoursTillLoose_2 c n x1 (x2 + (1 : Int32)) s3)))
def fX4_hoursTillLoose (c : Nat) (c1 : Nat) (st : kM) : Option (Int32 × kM) :=
  fX4_hoursTillLoose_2 c kfu c1 (0 : Int32) st
set_option maxRecDepth 100000 in
theorem tX4_hoursTillLoose_2 {Z : kZ} (C : kC Z cX4_hoursTillLoose RX4 3 rmX4_hoursTillLoose) {c : Nat} (hc : yd c) {res : Int32 × kM} (K : kEnd Z (some .int) (some (.int res.1)) res.2) : ∀ (n : Nat) (x1 : Nat) (x2 : Int32) (st : kM), (hx1 : kd x1 = 0) → fX4_hoursTillLoose_2 c n x1 x2 st = some res → kV Z 3 2 [(0, kr Z c), (1, kr Z x1), (2, .int x2)] [] st := by
  intro n
  induction n with
  | zero => intro x1 x2 st hx1 hf; cases hf
  | succ n ih =>
    intro x1 x2 st hx1 hf
    unfold fX4_hoursTillLoose_2 at hf
    refine k_iload_n C 2 dX4_hoursTillLoose_2 rfl rfl rfl ?_
    refine k_sipush C (200 : Int32) dX4_hoursTillLoose_3 (by decide) rfl ?_
    refine k_icmp_gt C 26 dX4_hoursTillLoose_6 rfl rfl (fun b1 => ?_) (fun b1 => ?_)
    · replace hf := kf_t hf b1
      refine k_iload_n C 2 dX4_hoursTillLoose_26 rfl rfl rfl ?_
      exact k_iret C K hf dX4_hoursTillLoose_27
    · replace hf := kf_f hf b1
      refine k_aload_n C 1 dX4_hoursTillLoose_9 rfl rfl rfl ?_
      refine g_X0_fast C hx1 kw_1_51 dX4_hoursTillLoose_10 rfl ?_
      refine k_if_eq C 26 dX4_hoursTillLoose_13 rfl rfl (fun b2 => ?_) (fun b2 => ?_)
      · replace hf := kf_t hf b2
        refine k_iload_n C 2 dX4_hoursTillLoose_26 rfl rfl rfl ?_
        exact k_iret C K hf dX4_hoursTillLoose_27
      · replace hf := kf_f hf b2
        refine k_aload_n C 0 dX4_hoursTillLoose_16 rfl rfl rfl ?_
        obtain ⟨s3, e4, hf⟩ := kf_b hf
        refine k_callV C [] (mX4_passHour hc e4) (yd_4 hc) (by decide) rfl kw_2_137 kw_2_138 kw_2_139 kw_1_2 kw_2_140 qX4_passHour rfl ⟨by decide, by decide⟩ ⟨rfl, rfl⟩ (Nat.le_of_ble_eq_true rfl) dX4_hoursTillLoose_17 rfl ?_ rfl
        refine (show kV Z 3 20 [(0, kr Z c), (1, kr Z x1), (2, .int x2)] [] s3 from ?_)
        refine k_iinc (lv' := [(2, .int (x2 + (1 : Int32))), (0, kr Z c), (1, kr Z x1)]) C (x2 + (1 : Int32)) 2 dX4_hoursTillLoose_20 rfl rfl (by decide) rfl rfl ?_
        refine k_goto C 2 dX4_hoursTillLoose_23 rfl ?_
        refine k_lv (lv' := [(0, kr Z c), (1, kr Z x1), (2, .int (x2 + (1 : Int32)))]) [1, 2, 0] rfl ?_
        exact ih x1 (x2 + (1 : Int32)) s3 hx1 hf
set_option maxRecDepth 100000 in
theorem tX4_hoursTillLoose {Z : kZ} (C : kC Z cX4_hoursTillLoose RX4 3 rmX4_hoursTillLoose) {c : Nat} {c1 : Nat} (hc : yd c) (hc1 : kd c1 = 0) {st : kM} {res : Int32 × kM} (hf : fX4_hoursTillLoose c c1 st = some res) (K : kEnd Z (some .int) (some (.int res.1)) res.2) : kV Z 3 0 [(0, kr Z c), (1, kr Z c1)] [] st := by
  unfold fX4_hoursTillLoose at hf
  refine k_iconst C (0 : Int32) dX4_hoursTillLoose_0 (by decide) rfl ?_
  refine k_istore_n (lv' := [(2, .int (0 : Int32)), (0, kr Z c), (1, kr Z c1)]) C dX4_hoursTillLoose_1 rfl (by decide) rfl rfl ?_
  refine k_lv (lv' := [(0, kr Z c), (1, kr Z c1), (2, .int (0 : Int32))]) [1, 2, 0] rfl ?_
  exact tX4_hoursTillLoose_2 C hc K _ c1 (0 : Int32) st hc1 hf
theorem mX4_hoursTillLoose {G : kG} {c : Nat} {c1 : Nat} (hc : yd c) (hc1 : kd c1 = 0) {st : kM} {res : Int32 × kM} (hf : fX4_hoursTillLoose c c1 st = some res) : kCt G yX4_hoursTillLoose cX4_hoursTillLoose 3 (some .int) rmX4_hoursTillLoose [.ref (G.2.1 c), .ref (G.2.1 c1)] st (some (.int res.1)) res.2 := kMet (by decide) (Nat.le_of_ble_eq_true rfl) ⟨rfl, rfl⟩ (fun X A Q C K => tX4_hoursTillLoose C hc hc1 hf K)
theorem qX4_hoursTillLoose : yX4_hoursTillLoose.cls = RX4 ∧ yX4_hoursTillLoose.cls ≠ "java/lang/invoke/MethodHandle" ∧ yX4_hoursTillLoose.cls ≠ "java/lang/invoke/VarHandle" ∧ (parseMethodDescriptor yX4_hoursTillLoose.desc).map (fun d => d.parameters.length) = some 1 := ⟨rfl, by decide, by decide, by decide +kernel⟩
-- java/lang/Integer.bitCount(I)I
def rmJ6_bitCount_0f7a4 : Room := { frames := 0, cells := 0, slots := 0, locals := 0 }
def fJ6_bitCount_0f7a4 (v0 : Int32) (st : kM) : Option (Int32 × kM) :=
  (some (v0 - (((v0.toUInt32 >>> ((1 : Int32).toUInt32 &&& Int32.toUInt32 31)).toInt32) &&& (1431655765 : Int32)))).bind fun z1 => ((some ((z1 &&& (858993459 : Int32)) + (((z1.toUInt32 >>> ((2 : Int32).toUInt32 &&& Int32.toUInt32 31)).toInt32) &&& (858993459 : Int32)))).bind fun z3 => ((some ((z3 + ((z3.toUInt32 >>> ((4 : Int32).toUInt32 &&& Int32.toUInt32 31)).toInt32)) &&& (252645135 : Int32))).bind fun z5 => ((some (z5 + ((z5.toUInt32 >>> ((8 : Int32).toUInt32 &&& Int32.toUInt32 31)).toInt32))).bind fun z7 => ((some (z7 + ((z7.toUInt32 >>> ((16 : Int32).toUInt32 &&& Int32.toUInt32 31)).toInt32))).bind fun z9 => (some ((z9 &&& (63 : Int32)), st))))))
set_option maxRecDepth 100000 in
theorem tJ6_bitCount_0f7a4 {Z : kZ} (C : kC Z cJ6_bitCount_0f7a4 RJ6 1 rmJ6_bitCount_0f7a4) {v0 : Int32}  {st : kM} {res : Int32 × kM} (hf : fJ6_bitCount_0f7a4 v0 st = some res) (K : kEnd Z (some .int) (some (.int res.1)) res.2) : kV Z 1 0 [(0, .int v0)] [] st := by
  unfold fJ6_bitCount_0f7a4 at hf
  refine k_iload_n C 0 dJ6_bitCount_0f7a4_0 rfl rfl rfl ?_
  refine k_iload_n C 0 dJ6_bitCount_0f7a4_1 rfl rfl rfl ?_
  refine k_iconst C (1 : Int32) dJ6_bitCount_0f7a4_2 (by decide) rfl ?_
  refine k_iushr C dJ6_bitCount_0f7a4_3 rfl ?_
  refine k_ldcw C (1431655765 : Int32) kw_2_227 dJ6_bitCount_0f7a4_4 rfl ?_
  refine k_iand C dJ6_bitCount_0f7a4_7 rfl ?_
  refine k_isub C dJ6_bitCount_0f7a4_8 rfl ?_
  obtain ⟨z1, e2, hf⟩ := kf_b hf
  refine k_topi e2 ?_
  refine k_istore_n (lv' := [(0, .int z1)]) C dJ6_bitCount_0f7a4_9 rfl (by decide) rfl rfl ?_
  refine k_iload_n C 0 dJ6_bitCount_0f7a4_10 rfl rfl rfl ?_
  refine k_ldcw C (858993459 : Int32) kw_2_228 dJ6_bitCount_0f7a4_11 rfl ?_
  refine k_iand C dJ6_bitCount_0f7a4_14 rfl ?_
  refine k_iload_n C 0 dJ6_bitCount_0f7a4_15 rfl rfl rfl ?_
  refine k_iconst C (2 : Int32) dJ6_bitCount_0f7a4_16 (by decide) rfl ?_
  refine k_iushr C dJ6_bitCount_0f7a4_17 rfl ?_
  refine k_ldcw C (858993459 : Int32) kw_2_228 dJ6_bitCount_0f7a4_18 rfl ?_
  refine k_iand C dJ6_bitCount_0f7a4_21 rfl ?_
  refine k_iadd C dJ6_bitCount_0f7a4_22 rfl ?_
  obtain ⟨z3, e4, hf⟩ := kf_b hf
  refine k_topi e4 ?_
  refine k_istore_n (lv' := [(0, .int z3)]) C dJ6_bitCount_0f7a4_23 rfl (by decide) rfl rfl ?_
  refine k_iload_n C 0 dJ6_bitCount_0f7a4_24 rfl rfl rfl ?_
  refine k_iload_n C 0 dJ6_bitCount_0f7a4_25 rfl rfl rfl ?_
  refine k_iconst C (4 : Int32) dJ6_bitCount_0f7a4_26 (by decide) rfl ?_
  refine k_iushr C dJ6_bitCount_0f7a4_27 rfl ?_
  refine k_iadd C dJ6_bitCount_0f7a4_28 rfl ?_
  refine k_ldcw C (252645135 : Int32) kw_2_229 dJ6_bitCount_0f7a4_29 rfl ?_
  refine k_iand C dJ6_bitCount_0f7a4_32 rfl ?_
  obtain ⟨z5, e6, hf⟩ := kf_b hf
  refine k_topi e6 ?_
  refine k_istore_n (lv' := [(0, .int z5)]) C dJ6_bitCount_0f7a4_33 rfl (by decide) rfl rfl ?_
  refine k_iload_n C 0 dJ6_bitCount_0f7a4_34 rfl rfl rfl ?_
  refine k_iload_n C 0 dJ6_bitCount_0f7a4_35 rfl rfl rfl ?_
  refine k_bipush C (8 : Int32) dJ6_bitCount_0f7a4_36 (by decide) rfl ?_
  refine k_iushr C dJ6_bitCount_0f7a4_38 rfl ?_
  refine k_iadd C dJ6_bitCount_0f7a4_39 rfl ?_
  obtain ⟨z7, e8, hf⟩ := kf_b hf
  refine k_topi e8 ?_
  refine k_istore_n (lv' := [(0, .int z7)]) C dJ6_bitCount_0f7a4_40 rfl (by decide) rfl rfl ?_
  refine k_iload_n C 0 dJ6_bitCount_0f7a4_41 rfl rfl rfl ?_
  refine k_iload_n C 0 dJ6_bitCount_0f7a4_42 rfl rfl rfl ?_
  refine k_bipush C (16 : Int32) dJ6_bitCount_0f7a4_43 (by decide) rfl ?_
  refine k_iushr C dJ6_bitCount_0f7a4_45 rfl ?_
  refine k_iadd C dJ6_bitCount_0f7a4_46 rfl ?_
  obtain ⟨z9, e10, hf⟩ := kf_b hf
  refine k_topi e10 ?_
  refine k_istore_n (lv' := [(0, .int z9)]) C dJ6_bitCount_0f7a4_47 rfl (by decide) rfl rfl ?_
  refine k_iload_n C 0 dJ6_bitCount_0f7a4_48 rfl rfl rfl ?_
  refine k_bipush C (63 : Int32) dJ6_bitCount_0f7a4_49 (by decide) rfl ?_
  refine k_iand C dJ6_bitCount_0f7a4_51 rfl ?_
  exact k_iret C K hf dJ6_bitCount_0f7a4_52
theorem mJ6_bitCount_0f7a4 {G : kG} {v0 : Int32}  {st : kM} {res : Int32 × kM} (hf : fJ6_bitCount_0f7a4 v0 st = some res) : kCt G yJ6_bitCount_0f7a4 cJ6_bitCount_0f7a4 1 (some .int) rmJ6_bitCount_0f7a4 [.int v0] st (some (.int res.1)) res.2 := kMet (by decide) (Nat.le_of_ble_eq_true rfl) ⟨rfl, rfl⟩ (fun X A Q C K => tJ6_bitCount_0f7a4 C  hf K)
theorem qJ6_bitCount_0f7a4 : yJ6_bitCount_0f7a4.cls ≠ "java/lang/invoke/MethodHandle" ∧ yJ6_bitCount_0f7a4.cls ≠ "java/lang/invoke/VarHandle" ∧ (parseMethodDescriptor yJ6_bitCount_0f7a4.desc).map (fun d => d.parameters.length) = some 1 := ⟨by decide, by decide, by decide +kernel⟩
