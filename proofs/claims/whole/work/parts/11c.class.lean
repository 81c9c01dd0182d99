-- TalkKnots.kind(I)I
def rmX5_kind : Room := { frames := 6, cells := 0, slots := 0, locals := 131 }
def fX5_kind_22 : Nat → Int32 → Int32 → Int32 → Int32 → kM → Option (Int32 × kM)
  | 0, _, _, _, _, _ => none
  | n + 1, x1, x2, x3, x4, st =>
    if (6 : Int32) ≤ x4 then (some (x3, st)) else ((fX4_become 16 1 st).bind fun s2 => (if x1 < 0 ∨ 10 ≤ x1.toNatClampNeg then none else ((some (kwr s2 (16 + 5 + x1.toNatClampNeg) 0 x4)).bind fun s5 => ((fX4_hoursTillLoose 16 (16 + 5 + x1.toNatClampNeg) s5).bind fun q7 => (if q7.1 ≤ x2 then (fX5_kind_22 n x1 x2 x3 (x4 + (1 : Int32)) q7.2) else (fX5_kind_22 n x1 q7.1 x4 (x4 + (1 : Int32)) q7.2))))))
def fX5_kind (v1 : Int32) (st : kM) : Option (Int32 × kM) :=
  (fX5_isKnot v1 st).bind fun q1 => (if q1.1 = 0 then ((fX5_tell (-1000000001 : Int32) q1.2).bind fun q4 => (some (q4.1, q4.2))) else (fX5_kind_22 kfu v1 (-1 : Int32) (0 : Int32) (0 : Int32) q1.2))
set_option maxRecDepth 100000 in
theorem tX5_kind_22 {Z : kZ} (C : kC Z cX5_kind RX5 6 rmX5_kind) {res : Int32 × kM} (K : kEnd Z (some .int) (some (.int res.1)) res.2) : ∀ (n : Nat) (x1 : Int32) (x2 : Int32) (x3 : Int32) (x4 : Int32) (st : kM), fX5_kind_22 n x1 x2 x3 x4 st = some res → kV Z 6 22 [(0, kr Z 0), (1, .int x1), (2, .int x2), (3, .int x3), (4, .int x4)] [] st := by
  intro n
  induction n with
  | zero => intro x1 x2 x3 x4 st hf; cases hf
  | succ n ih =>
    intro x1 x2 x3 x4 st hf
    unfold fX5_kind_22 at hf
    refine k_iload C 4 dX5_kind_22 rfl rfl ?_
    refine k_bipush C (6 : Int32) dX5_kind_24 (by decide) rfl ?_
    refine k_icmp_ge C 90 dX5_kind_26 rfl rfl (fun b1 => ?_) (fun b1 => ?_)
    · replace hf := kf_t hf b1
      refine k_iload_n C 3 dX5_kind_90 rfl rfl rfl ?_
      exact k_iret C K hf dX5_kind_91
    · replace hf := kf_f hf b1
      refine k_aload_n C 0 dX5_kind_29 rfl rfl rfl ?_
      refine g_X5_trial C rfl kw_1_161 dX5_kind_30 rfl ?_
      refine k_aload_n C 0 dX5_kind_33 rfl rfl rfl ?_
      refine g_X5_present C rfl kw_1_160 dX5_kind_34 rfl ?_
      obtain ⟨s2, e3, hf⟩ := kf_b hf
      refine k_callV C [kr Z 1] (mX4_become yd_16 yd_1 e3) (yd_4 yd_16) (by decide) rfl kw_2_164 kw_2_165 kw_2_166 kw_1_2 kw_2_167 qX4_become rfl ⟨by decide, by decide⟩ ⟨rfl, rfl⟩ (Nat.le_of_ble_eq_true rfl) dX5_kind_37 rfl ?_ rfl
      refine (show kV Z 6 40 [(0, kr Z 0), (1, .int x1), (2, .int x2), (3, .int x3), (4, .int x4)] [] s2 from ?_)
      refine k_aload_n C 0 dX5_kind_40 rfl rfl rfl ?_
      refine g_X5_trial C rfl kw_1_161 dX5_kind_41 rfl ?_
      refine g_X4_knots C (yd_4 yd_16) kw_1_79 dX5_kind_44 rfl ?_
      refine k_iload_n C 1 dX5_kind_47 rfl rfl rfl ?_
      obtain ⟨g4, hf⟩ := kf_g hf
      refine k_aldK C yd_16 g4 dX5_kind_48 rfl ?_
      refine k_iload C 4 dX5_kind_49 rfl rfl ?_
      refine p_X0_kind C (yd_n yd_16 (vi_lt g4)) kw_1_37 dX5_kind_51 rfl ?_
      obtain ⟨s5, e6, hf⟩ := kf_b hf
      refine k_st e6 ?_
      refine k_aload_n C 0 dX5_kind_54 rfl rfl rfl ?_
      refine g_X5_trial C rfl kw_1_161 dX5_kind_55 rfl ?_
      refine k_aload_n C 0 dX5_kind_58 rfl rfl rfl ?_
      refine g_X5_trial C rfl kw_1_161 dX5_kind_59 rfl ?_
      refine g_X4_knots C (yd_4 yd_16) kw_1_79 dX5_kind_62 rfl ?_
      refine k_iload_n C 1 dX5_kind_65 rfl rfl rfl ?_
      refine k_aldK C yd_16 g4 dX5_kind_66 rfl ?_
      obtain ⟨q7, e8, hf⟩ := kf_b hf
      refine k_callV C [kr Z (16 + 5 + x1.toNatClampNeg)] (mX4_hoursTillLoose yd_16 (yd_n yd_16 (vi_lt g4)) e8) (yd_4 yd_16) (by decide) rfl kw_2_192 kw_2_193 kw_2_194 kw_1_2 kw_2_195 qX4_hoursTillLoose rfl ⟨by decide, by decide⟩ ⟨rfl, rfl⟩ (Nat.le_of_ble_eq_true rfl) dX5_kind_67 rfl ?_ rfl
      refine (show kV Z 6 70 [(0, kr Z 0), (1, .int x1), (2, .int x2), (3, .int x3), (4, .int x4)] [.int q7.1] q7.2 from ?_)
      refine k_istore (lv' := [(5, .int q7.1), (0, kr Z 0), (1, .int x1), (2, .int x2), (3, .int x3), (4, .int x4)]) C dX5_kind_70 (by decide) rfl rfl ?_
      refine k_iload C 0 dX5_kind_72 rfl rfl ?_
      refine k_iload_n C 3 dX5_kind_74 rfl rfl rfl ?_
      refine k_icmp_le C 84 dX5_kind_75 rfl rfl (fun b9 => ?_) (fun b9 => ?_)
      · replace hf := kf_t hf b9
        refine k_iinc (lv' := [(4, .int (x4 + (1 : Int32))), (5, .int q7.1), (0, kr Z 0), (1, .int x1), (2, .int x2), (3, .int x3)]) C (x4 + (1 : Int32)) 5 dX5_kind_84 rfl rfl (by decide) rfl rfl ?_
        refine k_goto C 22 dX5_kind_87 rfl ?_
        refine k_lv (lv' := [(0, kr Z 0), (1, .int x1), (2, .int x2), (3, .int x3), (4, .int (x4 + (1 : Int32)))]) [2, 3, 4, 5, 0] rfl ?_
        exact ih x1 x2 x3 (x4 + (1 : Int32)) q7.2  hf
      · replace hf := kf_f hf b9
        refine k_iload C 0 dX5_kind_78 rfl rfl ?_
        refine k_istore_n (lv' := [(2, .int q7.1), (5, .int q7.1), (0, kr Z 0), (1, .int x1), (3, .int x3), (4, .int x4)]) C dX5_kind_80 rfl (by decide) rfl rfl ?_
        refine k_iload C 5 dX5_kind_81 rfl rfl ?_
        refine k_istore_n (lv' := [(3, .int x4), (2, .int q7.1), (5, .int q7.1), (0, kr Z 0), (1, .int x1), (4, .int x4)]) C dX5_kind_83 rfl (by decide) rfl rfl ?_
        refine k_iinc (lv' := [(4, .int (x4 + (1 : Int32))), (3, .int x4), (2, .int q7.1), (5, .int q7.1), (0, kr Z 0), (1, .int x1)]) C (x4 + (1 : Int32)) 5 dX5_kind_84 rfl rfl (by decide) rfl rfl ?_
        refine k_goto C 22 dX5_kind_87 rfl ?_
        refine k_lv (lv' := [(0, kr Z 0), (1, .int x1), (2, .int q7.1), (3, .int x4), (4, .int (x4 + (1 : Int32)))]) [4, 5, 2, 1, 0] rfl ?_
        exact ih x1 q7.1 x4 (x4 + (1 : Int32)) q7.2  hf
set_option maxRecDepth 100000 in
theorem tX5_kind {Z : kZ} (C : kC Z cX5_kind RX5 6 rmX5_kind) {v1 : Int32}  {st : kM} {res : Int32 × kM} (hf : fX5_kind v1 st = some res) (K : kEnd Z (some .int) (some (.int res.1)) res.2) : kV Z 6 0 [(0, kr Z 0), (1, .int v1)] [] st := by
  unfold fX5_kind at hf
  refine k_aload_n C 0 dX5_kind_0 rfl rfl rfl ?_
  refine k_iload_n C 1 dX5_kind_1 rfl rfl rfl ?_
  obtain ⟨q1, e2, hf⟩ := kf_b hf
  refine k_callV C [.int v1] (mX5_isKnot e2) rfl (by decide) rfl kw_2_65 kw_2_67 kw_0_5 kw_1_1 kw_2_68 qX5_isKnot rfl ⟨by decide, by decide⟩ ⟨rfl, rfl⟩ (Nat.le_of_ble_eq_true rfl) dX5_kind_2 rfl ?_ rfl
  refine (show kV Z 6 5 [(0, kr Z 0), (1, .int v1)] [.int q1.1] q1.2 from ?_)
  refine k_if_ne C 15 dX5_kind_5 rfl rfl (fun b3 => ?_) (fun b3 => ?_)
  · replace hf := kf_f hf b3
    refine k_iconst C (-1 : Int32) dX5_kind_15 (by decide) rfl ?_
    refine k_istore_n (lv' := [(2, .int (-1 : Int32)), (0, kr Z 0), (1, .int v1)]) C dX5_kind_16 rfl (by decide) rfl rfl ?_
    refine k_iconst C (0 : Int32) dX5_kind_17 (by decide) rfl ?_
    refine k_istore_n (lv' := [(3, .int (0 : Int32)), (2, .int (-1 : Int32)), (0, kr Z 0), (1, .int v1)]) C dX5_kind_18 rfl (by decide) rfl rfl ?_
    refine k_iconst C (0 : Int32) dX5_kind_19 (by decide) rfl ?_
    refine k_istore (lv' := [(4, .int (0 : Int32)), (3, .int (0 : Int32)), (2, .int (-1 : Int32)), (0, kr Z 0), (1, .int v1)]) C dX5_kind_20 (by decide) rfl rfl ?_
    refine k_lv (lv' := [(0, kr Z 0), (1, .int v1), (2, .int (-1 : Int32)), (3, .int (0 : Int32)), (4, .int (0 : Int32))]) [3, 4, 2, 1, 0] rfl ?_
    exact tX5_kind_22 C K _ v1 (-1 : Int32) (0 : Int32) (0 : Int32) q1.2 hf
  · replace hf := kf_t hf b3
    refine k_aload_n C 0 dX5_kind_8 rfl rfl rfl ?_
    refine k_ldc C (-1000000001 : Int32) kw_1_192 dX5_kind_9 rfl ?_
    obtain ⟨q4, e5, hf⟩ := kf_b hf
    refine k_callV C [.int (-1000000001 : Int32)] (mX5_tell e5) rfl (by decide) rfl kw_1_193 kw_1_195 kw_0_0 kw_1_1 kw_1_196 qX5_tell rfl ⟨by decide, by decide⟩ ⟨rfl, rfl⟩ (Nat.le_of_ble_eq_true rfl) dX5_kind_11 rfl ?_ rfl
    refine (show kV Z 6 14 [(0, kr Z 0), (1, .int v1)] [.int q4.1] q4.2 from ?_)
    exact k_iret C K hf dX5_kind_14
theorem mX5_kind {G : kG} {v1 : Int32}  {st : kM} {res : Int32 × kM} (hf : fX5_kind v1 st = some res) : kCt G yX5_kind cX5_kind 6 (some .int) rmX5_kind [.ref (G.2.1 0), .int v1] st (some (.int res.1)) res.2 := kMet (by decide) (Nat.le_of_ble_eq_true rfl) ⟨rfl, rfl⟩ (fun X A Q C K => tX5_kind C  hf K)
theorem qX5_kind : yX5_kind.cls = RX5 ∧ yX5_kind.cls ≠ "java/lang/invoke/MethodHandle" ∧ yX5_kind.cls ≠ "java/lang/invoke/VarHandle" ∧ (parseMethodDescriptor yX5_kind.desc).map (fun d => d.parameters.length) = some 1 := ⟨rfl, by decide, by decide, by decide +kernel⟩
-- TalkKnots.open(II)I
def rmX5_open : Room := { frames := 6, cells := 0, slots := 0, locals := 132 }
def fX5_open_27 : Nat → Int32 → Int32 → Int32 → kM → Option (Int32 × kM)
  | 0, _, _, _, _ => none
  | n + 1, x1, x2, x3, st =>
    if (99 : Int32) < x3 then ((fX5_tell (-1000000004 : Int32) st).bind fun q2 => (some (q2.1, q2.2))) else ((fX4_become 16 1 st).bind fun s4 => (if x1 < 0 ∨ 10 ≤ x1.toNatClampNeg then none else ((some (kwr s4 (16 + 5 + x1.toNatClampNeg) 2 x3)).bind fun s7 => ((fX4_staysFast 16 (16 + 5 + x1.toNatClampNeg) x2 s7).bind fun q9 => (if q9.1 = 0 then (fX5_open_27 n x1 x2 (x3 + (1 : Int32)) q9.2) else (some (x3, q9.2)))))))
def fX5_open (v1 : Int32) (v2 : Int32) (st : kM) : Option (Int32 × kM) :=
  (fX5_isKnot v1 st).bind fun q1 => (if q1.1 = 0 then ((fX5_tell (-1000000001 : Int32) q1.2).bind fun q4 => (some (q4.1, q4.2))) else ((fX5_isWithin v2 (0 : Int32) (100 : Int32) q1.2).bind fun q6 => (if q6.1 = 0 then ((fX5_tell (-1000000001 : Int32) q6.2).bind fun q9 => (some (q9.1, q9.2))) else (fX5_open_27 kfu v1 v2 (0 : Int32) q6.2))))
set_option maxRecDepth 100000 in
theorem tX5_open_27 {Z : kZ} (C : kC Z cX5_open RX5 4 rmX5_open) {res : Int32 × kM} (K : kEnd Z (some .int) (some (.int res.1)) res.2) : ∀ (n : Nat) (x1 : Int32) (x2 : Int32) (x3 : Int32) (st : kM), fX5_open_27 n x1 x2 x3 st = some res → kV Z 4 27 [(0, kr Z 0), (1, .int x1), (2, .int x2), (3, .int x3)] [] st := by
  intro n
  induction n with
  | zero => intro x1 x2 x3 st hf; cases hf
  | succ n ih =>
    intro x1 x2 x3 st hf
    unfold fX5_open_27 at hf
    refine k_iload_n C 3 dX5_open_27 rfl rfl rfl ?_
    refine k_bipush C (99 : Int32) dX5_open_28 (by decide) rfl ?_
    refine k_icmp_gt C 85 dX5_open_30 rfl rfl (fun b1 => ?_) (fun b1 => ?_)
    · replace hf := kf_t hf b1
      refine k_aload_n C 0 dX5_open_85 rfl rfl rfl ?_
      refine k_ldc C (-1000000004 : Int32) kw_2_187 dX5_open_86 rfl ?_
      obtain ⟨q2, e3, hf⟩ := kf_b hf
      refine k_callV C [.int (-1000000004 : Int32)] (mX5_tell e3) rfl (by decide) rfl kw_1_193 kw_1_195 kw_0_0 kw_1_1 kw_1_196 qX5_tell rfl ⟨by decide, by decide⟩ ⟨rfl, rfl⟩ (Nat.le_of_ble_eq_true rfl) dX5_open_88 rfl ?_ rfl
      refine (show kV Z 4 91 [(0, kr Z 0), (1, .int x1), (2, .int x2), (3, .int x3)] [.int q2.1] q2.2 from ?_)
      exact k_iret C K hf dX5_open_91
    · replace hf := kf_f hf b1
      refine k_aload_n C 0 dX5_open_33 rfl rfl rfl ?_
      refine g_X5_trial C rfl kw_1_161 dX5_open_34 rfl ?_
      refine k_aload_n C 0 dX5_open_37 rfl rfl rfl ?_
      refine g_X5_present C rfl kw_1_160 dX5_open_38 rfl ?_
      obtain ⟨s4, e5, hf⟩ := kf_b hf
      refine k_callV C [kr Z 1] (mX4_become yd_16 yd_1 e5) (yd_4 yd_16) (by decide) rfl kw_2_164 kw_2_165 kw_2_166 kw_1_2 kw_2_167 qX4_become rfl ⟨by decide, by decide⟩ ⟨rfl, rfl⟩ (Nat.le_of_ble_eq_true rfl) dX5_open_41 rfl ?_ rfl
      refine (show kV Z 4 44 [(0, kr Z 0), (1, .int x1), (2, .int x2), (3, .int x3)] [] s4 from ?_)
      refine k_aload_n C 0 dX5_open_44 rfl rfl rfl ?_
      refine g_X5_trial C rfl kw_1_161 dX5_open_45 rfl ?_
      refine g_X4_knots C (yd_4 yd_16) kw_1_79 dX5_open_48 rfl ?_
      refine k_iload_n C 1 dX5_open_51 rfl rfl rfl ?_
      obtain ⟨g6, hf⟩ := kf_g hf
      refine k_aldK C yd_16 g6 dX5_open_52 rfl ?_
      refine k_iload_n C 3 dX5_open_53 rfl rfl rfl ?_
      refine p_X0_open C (yd_n yd_16 (vi_lt g6)) kw_1_43 dX5_open_54 rfl ?_
      obtain ⟨s7, e8, hf⟩ := kf_b hf
      refine k_st e8 ?_
      refine k_aload_n C 0 dX5_open_57 rfl rfl rfl ?_
      refine g_X5_trial C rfl kw_1_161 dX5_open_58 rfl ?_
      refine k_aload_n C 0 dX5_open_61 rfl rfl rfl ?_
      refine g_X5_trial C rfl kw_1_161 dX5_open_62 rfl ?_
      refine g_X4_knots C (yd_4 yd_16) kw_1_79 dX5_open_65 rfl ?_
      refine k_iload_n C 1 dX5_open_68 rfl rfl rfl ?_
      refine k_aldK C yd_16 g6 dX5_open_69 rfl ?_
      refine k_iload_n C 2 dX5_open_70 rfl rfl rfl ?_
      obtain ⟨q9, e10, hf⟩ := kf_b hf
      refine k_callV C [kr Z (16 + 5 + x1.toNatClampNeg), .int x2] (mX4_staysFast yd_16 (yd_n yd_16 (vi_lt g6)) e10) (yd_4 yd_16) (by decide) rfl kw_2_208 kw_2_209 kw_2_210 kw_1_2 kw_2_211 qX4_staysFast rfl ⟨by decide, by decide⟩ ⟨rfl, rfl⟩ (Nat.le_of_ble_eq_true rfl) dX5_open_71 rfl ?_ rfl
      refine (show kV Z 4 74 [(0, kr Z 0), (1, .int x1), (2, .int x2), (3, .int x3)] [.int q9.1] q9.2 from ?_)
      refine k_if_eq C 79 dX5_open_74 rfl rfl (fun b11 => ?_) (fun b11 => ?_)
      · replace hf := kf_t hf b11
        refine k_iinc (lv' := [(3, .int (x3 + (1 : Int32))), (0, kr Z 0), (1, .int x1), (2, .int x2)]) C (x3 + (1 : Int32)) 3 dX5_open_79 rfl rfl (by decide) rfl rfl ?_
        refine k_goto C 27 dX5_open_82 rfl ?_
        refine k_lv (lv' := [(0, kr Z 0), (1, .int x1), (2, .int x2), (3, .int (x3 + (1 : Int32)))]) [1, 2, 3, 0] rfl ?_
        exact ih x1 x2 (x3 + (1 : Int32)) q9.2  hf
      · replace hf := kf_f hf b11
        refine k_iload_n C 3 dX5_open_77 rfl rfl rfl ?_
        exact k_iret C K hf dX5_open_78
set_option maxRecDepth 100000 in
theorem tX5_open {Z : kZ} (C : kC Z cX5_open RX5 4 rmX5_open) {v1 : Int32} {v2 : Int32}  {st : kM} {res : Int32 × kM} (hf : fX5_open v1 v2 st = some res) (K : kEnd Z (some .int) (some (.int res.1)) res.2) : kV Z 4 0 [(0, kr Z 0), (1, .int v1), (2, .int v2)] [] st := by
  unfold fX5_open at hf
  refine k_aload_n C 0 dX5_open_0 rfl rfl rfl ?_
  refine k_iload_n C 1 dX5_open_1 rfl rfl rfl ?_
  obtain ⟨q1, e2, hf⟩ := kf_b hf
  refine k_callV C [.int v1] (mX5_isKnot e2) rfl (by decide) rfl kw_2_65 kw_2_67 kw_0_5 kw_1_1 kw_2_68 qX5_isKnot rfl ⟨by decide, by decide⟩ ⟨rfl, rfl⟩ (Nat.le_of_ble_eq_true rfl) dX5_open_2 rfl ?_ rfl
  refine (show kV Z 4 5 [(0, kr Z 0), (1, .int v1), (2, .int v2)] [.int q1.1] q1.2 from ?_)
  refine k_if_eq C 18 dX5_open_5 rfl rfl (fun b3 => ?_) (fun b3 => ?_)
  · replace hf := kf_t hf b3
    refine k_aload_n C 0 dX5_open_18 rfl rfl rfl ?_
    refine k_ldc C (-1000000001 : Int32) kw_1_192 dX5_open_19 rfl ?_
    obtain ⟨q4, e5, hf⟩ := kf_b hf
    refine k_callV C [.int (-1000000001 : Int32)] (mX5_tell e5) rfl (by decide) rfl kw_1_193 kw_1_195 kw_0_0 kw_1_1 kw_1_196 qX5_tell rfl ⟨by decide, by decide⟩ ⟨rfl, rfl⟩ (Nat.le_of_ble_eq_true rfl) dX5_open_21 rfl ?_ rfl
    refine (show kV Z 4 24 [(0, kr Z 0), (1, .int v1), (2, .int v2)] [.int q4.1] q4.2 from ?_)
    exact k_iret C K hf dX5_open_24
  · replace hf := kf_f hf b3
    refine k_iload_n C 2 dX5_open_8 rfl rfl rfl ?_
    refine k_iconst C (0 : Int32) dX5_open_9 (by decide) rfl ?_
    refine k_bipush C (100 : Int32) dX5_open_10 (by decide) rfl ?_
    obtain ⟨q6, e7, hf⟩ := kf_b hf
    refine k_callS C [.int v2, .int (0 : Int32), .int (100 : Int32)] (mX5_isWithin e7) kw_1_189 kw_1_190 kw_1_1 kw_1_191 qX5_isWithin rfl ⟨by decide, by decide⟩ ⟨rfl, rfl⟩ (Nat.le_of_ble_eq_true rfl) dX5_open_12 rfl ?_ rfl
    refine (show kV Z 4 15 [(0, kr Z 0), (1, .int v1), (2, .int v2)] [.int q6.1] q6.2 from ?_)
    refine k_if_ne C 25 dX5_open_15 rfl rfl (fun b8 => ?_) (fun b8 => ?_)
    · replace hf := kf_f hf b8
      refine k_iconst C (0 : Int32) dX5_open_25 (by decide) rfl ?_
      refine k_istore_n (lv' := [(3, .int (0 : Int32)), (0, kr Z 0), (1, .int v1), (2, .int v2)]) C dX5_open_26 rfl (by decide) rfl rfl ?_
      refine k_lv (lv' := [(0, kr Z 0), (1, .int v1), (2, .int v2), (3, .int (0 : Int32))]) [1, 2, 3, 0] rfl ?_
      exact tX5_open_27 C K _ v1 v2 (0 : Int32) q6.2 hf
    · replace hf := kf_t hf b8
      refine k_aload_n C 0 dX5_open_18 rfl rfl rfl ?_
      refine k_ldc C (-1000000001 : Int32) kw_1_192 dX5_open_19 rfl ?_
      obtain ⟨q9, e10, hf⟩ := kf_b hf
      refine k_callV C [.int (-1000000001 : Int32)] (mX5_tell e10) rfl (by decide) rfl kw_1_193 kw_1_195 kw_0_0 kw_1_1 kw_1_196 qX5_tell rfl ⟨by decide, by decide⟩ ⟨rfl, rfl⟩ (Nat.le_of_ble_eq_true rfl) dX5_open_21 rfl ?_ rfl
      refine (show kV Z 4 24 [(0, kr Z 0), (1, .int v1), (2, .int v2)] [.int q9.1] q9.2 from ?_)
      exact k_iret C K hf dX5_open_24
theorem mX5_open {G : kG} {v1 : Int32} {v2 : Int32}  {st : kM} {res : Int32 × kM} (hf : fX5_open v1 v2 st = some res) : kCt G yX5_open cX5_open 4 (some .int) rmX5_open [.ref (G.2.1 0), .int v1, .int v2] st (some (.int res.1)) res.2 := kMet (by decide) (Nat.le_of_ble_eq_true rfl) ⟨rfl, rfl⟩ (fun X A Q C K => tX5_open C  hf K)
theorem qX5_open : yX5_open.cls = RX5 ∧ yX5_open.cls ≠ "java/lang/invoke/MethodHandle" ∧ yX5_open.cls ≠ "java/lang/invoke/VarHandle" ∧ (parseMethodDescriptor yX5_open.desc).map (fun d => d.parameters.length) = some 2 := ⟨rfl, by decide, by decide, by decide +kernel⟩
-- TalkKnots.bears(II)I
def rmX5_bears : Room := { frames := 6, cells := 0, slots := 0, locals := 132 }
def fX5_bears_107 (x3 : Int32) (st : kM) : Option (Int32 × kM) :=
  if 0 ≤ x3 then (some (x3, st)) else ((fX5_tell (-1000000004 : Int32) st).bind fun q2 => (some (q2.1, q2.2)))
def fX5_bears_34 : Nat → Int32 → Int32 → Int32 → Int32 → Int32 → kM → Option (Int32 × kM)
  | 0, _, _, _, _, _, _ => none
  | n + 1, x1, x2, x3, x4, x5, st =>
    if (10 : Int32) ≤ x5 then (fX5_bears_107 x3 st) else (if (x4 - x3) ≤ (1 : Int32) then (fX5_bears_107 x3 st) else ((some ((x3 + x4) / (2 : Int32))).bind fun z3 => ((fX4_become 16 1 st).bind fun s5 => (if x1 < 0 ∨ 4 ≤ x1.toNatClampNeg then none else ((some (kwr s5 (16 + 2) x1.toNatClampNeg z3)).bind fun s8 => ((fX4_staysUp 16 x1 x2 s8).bind fun q10 => (if q10.1 = 0 then (fX5_bears_34 n x1 x2 x3 z3 (x5 + (1 : Int32)) q10.2) else (fX5_bears_34 n x1 x2 z3 x4 (x5 + (1 : Int32)) q10.2))))))))
def fX5_bears (v1 : Int32) (v2 : Int32) (st : kM) : Option (Int32 × kM) :=
  (fX5_isMast v1 st).bind fun q1 => (if q1.1 = 0 then ((fX5_tell (-1000000001 : Int32) q1.2).bind fun q4 => (some (q4.1, q4.2))) else ((fX5_isWithin v2 (0 : Int32) (100 : Int32) q1.2).bind fun q6 => (if q6.1 = 0 then ((fX5_tell (-1000000001 : Int32) q6.2).bind fun q9 => (some (q9.1, q9.2))) else (fX5_bears_34 kfu v1 v2 (-1 : Int32) (1000 : Int32) (0 : Int32) q6.2))))
set_option maxRecDepth 100000 in
theorem tX5_bears_107 {Z : kZ} (C : kC Z cX5_bears RX5 7 rmX5_bears) {res : Int32 × kM} (K : kEnd Z (some .int) (some (.int res.1)) res.2) : ∀ (x3 : Int32) (st : kM), fX5_bears_107 x3 st = some res → kV Z 7 107 [(0, kr Z 0), (3, .int x3)] [] st := by
  intro x3 st hf
  unfold fX5_bears_107 at hf
  refine k_iload_n C 1 dX5_bears_107 rfl rfl rfl ?_
  refine k_if_ge C 120 dX5_bears_108 rfl rfl (fun b1 => ?_) (fun b1 => ?_)
  · replace hf := kf_t hf b1
    refine k_iload_n C 1 dX5_bears_120 rfl rfl rfl ?_
    exact k_iret C K hf dX5_bears_121
  · replace hf := kf_f hf b1
    refine k_aload_n C 0 dX5_bears_111 rfl rfl rfl ?_
    refine k_ldc C (-1000000004 : Int32) kw_2_187 dX5_bears_112 rfl ?_
    obtain ⟨q2, e3, hf⟩ := kf_b hf
    refine k_callV C [.int (-1000000004 : Int32)] (mX5_tell e3) rfl (by decide) rfl kw_1_193 kw_1_195 kw_0_0 kw_1_1 kw_1_196 qX5_tell rfl ⟨by decide, by decide⟩ ⟨rfl, rfl⟩ (Nat.le_of_ble_eq_true rfl) dX5_bears_114 rfl ?_ rfl
    refine (show kV Z 7 117 [(0, kr Z 0), (3, .int x3)] [.int q2.1] q2.2 from ?_)
    refine k_goto C 121 dX5_bears_117 rfl ?_
    exact k_iret C K hf dX5_bears_121
set_option maxRecDepth 100000 in
theorem tX5_bears_34 {Z : kZ} (C : kC Z cX5_bears RX5 7 rmX5_bears) {res : Int32 × kM} (K : kEnd Z (some .int) (some (.int res.1)) res.2) : ∀ (n : Nat) (x1 : Int32) (x2 : Int32) (x3 : Int32) (x4 : Int32) (x5 : Int32) (st : kM), fX5_bears_34 n x1 x2 x3 x4 x5 st = some res → kV Z 7 34 [(0, kr Z 0), (1, .int x1), (2, .int x2), (3, .int x3), (4, .int x4), (5, .int x5)] [] st := by
  intro n
  induction n with
  | zero => intro x1 x2 x3 x4 x5 st hf; cases hf
  | succ n ih =>
    intro x1 x2 x3 x4 x5 st hf
    unfold fX5_bears_34 at hf
    refine k_iload C 5 dX5_bears_34 rfl rfl ?_
    refine k_bipush C (10 : Int32) dX5_bears_36 (by decide) rfl ?_
    refine k_icmp_ge C 107 dX5_bears_38 rfl rfl (fun b1 => ?_) (fun b1 => ?_)
    · replace hf := kf_t hf b1
      refine k_lv (lv' := [(0, kr Z 0), (3, .int x3)]) [0, 3] rfl ?_
      exact tX5_bears_107 C K x3 st hf
    · replace hf := kf_f hf b1
      refine k_iload C 4 dX5_bears_41 rfl rfl ?_
      refine k_iload_n C 3 dX5_bears_43 rfl rfl rfl ?_
      refine k_isub C dX5_bears_44 rfl ?_
      refine k_iconst C (1 : Int32) dX5_bears_45 (by decide) rfl ?_
      refine k_icmp_le C 107 dX5_bears_46 rfl rfl (fun b2 => ?_) (fun b2 => ?_)
      · replace hf := kf_t hf b2
        refine k_lv (lv' := [(0, kr Z 0), (3, .int x3)]) [0, 3] rfl ?_
        exact tX5_bears_107 C K x3 st hf
      · replace hf := kf_f hf b2
        refine k_iload_n C 3 dX5_bears_49 rfl rfl rfl ?_
        refine k_iload C 4 dX5_bears_50 rfl rfl ?_
        refine k_iadd C dX5_bears_52 rfl ?_
        refine k_iconst C (2 : Int32) dX5_bears_53 (by decide) rfl ?_
        refine k_idiv C (by decide) dX5_bears_54 rfl ?_
        obtain ⟨z3, e4, hf⟩ := kf_b hf
        refine k_topi e4 ?_
        refine k_istore (lv' := [(6, .int z3), (0, kr Z 0), (1, .int x1), (2, .int x2), (3, .int x3), (4, .int x4), (5, .int x5)]) C dX5_bears_55 (by decide) rfl rfl ?_
        refine k_aload_n C 1 dX5_bears_57 rfl rfl rfl ?_
        refine g_X5_trial C rfl kw_1_161 dX5_bears_58 rfl ?_
        refine k_aload_n C 1 dX5_bears_61 rfl rfl rfl ?_
        refine g_X5_present C rfl kw_1_160 dX5_bears_62 rfl ?_
        obtain ⟨s5, e6, hf⟩ := kf_b hf
        refine k_callV C [kr Z 1] (mX4_become yd_16 yd_1 e6) (yd_4 yd_16) (by decide) rfl kw_2_164 kw_2_165 kw_2_166 kw_1_2 kw_2_167 qX4_become rfl ⟨by decide, by decide⟩ ⟨rfl, rfl⟩ (Nat.le_of_ble_eq_true rfl) dX5_bears_65 rfl ?_ rfl
        refine (show kV Z 7 68 [(6, .int z3), (0, kr Z 0), (1, .int x1), (2, .int x2), (3, .int x3), (4, .int x4), (5, .int x5)] [] s5 from ?_)
        refine k_aload_n C 1 dX5_bears_68 rfl rfl rfl ?_
        refine g_X5_trial C rfl kw_1_161 dX5_bears_69 rfl ?_
        refine g_X4_weights C (yd_4 yd_16) kw_1_75 dX5_bears_72 rfl ?_
        refine k_iload_n C 2 dX5_bears_75 rfl rfl rfl ?_
        refine k_iload C 0 dX5_bears_76 rfl rfl ?_
        obtain ⟨g7, hf⟩ := kf_g hf
        refine k_iast (j := x1.toNatClampNeg) C (yd_g yd_16) g7 rfl dX5_bears_78 rfl ?_
        obtain ⟨s8, e9, hf⟩ := kf_b hf
        refine k_st e9 ?_
        refine k_aload_n C 1 dX5_bears_79 rfl rfl rfl ?_
        refine g_X5_trial C rfl kw_1_161 dX5_bears_80 rfl ?_
        refine k_iload_n C 2 dX5_bears_83 rfl rfl rfl ?_
        refine k_iload_n C 3 dX5_bears_84 rfl rfl rfl ?_
        obtain ⟨q10, e11, hf⟩ := kf_b hf
        refine k_callV C [.int x1, .int x2] (mX4_staysUp yd_16 e11) (yd_4 yd_16) (by decide) rfl kw_2_216 kw_2_217 kw_2_218 kw_1_2 kw_2_219 qX4_staysUp rfl ⟨by decide, by decide⟩ ⟨rfl, rfl⟩ (Nat.le_of_ble_eq_true rfl) dX5_bears_85 rfl ?_ rfl
        refine (show kV Z 7 88 [(6, .int z3), (0, kr Z 0), (1, .int x1), (2, .int x2), (3, .int x3), (4, .int x4), (5, .int x5)] [.int q10.1] q10.2 from ?_)
        refine k_if_eq C 97 dX5_bears_88 rfl rfl (fun b12 => ?_) (fun b12 => ?_)
        · replace hf := kf_t hf b12
          refine k_iload C 0 dX5_bears_97 rfl rfl ?_
          refine k_istore (lv' := [(4, .int z3), (6, .int z3), (0, kr Z 0), (1, .int x1), (2, .int x2), (3, .int x3), (5, .int x5)]) C dX5_bears_99 (by decide) rfl rfl ?_
          refine k_iinc (lv' := [(5, .int (x5 + (1 : Int32))), (4, .int z3), (6, .int z3), (0, kr Z 0), (1, .int x1), (2, .int x2), (3, .int x3)]) C (x5 + (1 : Int32)) 6 dX5_bears_101 rfl rfl (by decide) rfl rfl ?_
          refine k_goto C 34 dX5_bears_104 rfl ?_
          refine k_lv (lv' := [(0, kr Z 0), (1, .int x1), (2, .int x2), (3, .int x3), (4, .int z3), (5, .int (x5 + (1 : Int32)))]) [3, 4, 5, 6, 1, 0] rfl ?_
          exact ih x1 x2 x3 z3 (x5 + (1 : Int32)) q10.2  hf
        · replace hf := kf_f hf b12
          refine k_iload C 0 dX5_bears_91 rfl rfl ?_
          refine k_istore_n (lv' := [(3, .int z3), (6, .int z3), (0, kr Z 0), (1, .int x1), (2, .int x2), (4, .int x4), (5, .int x5)]) C dX5_bears_93 rfl (by decide) rfl rfl ?_
          refine k_goto C 101 dX5_bears_94 rfl ?_
          refine k_iinc (lv' := [(5, .int (x5 + (1 : Int32))), (3, .int z3), (6, .int z3), (0, kr Z 0), (1, .int x1), (2, .int x2), (4, .int x4)]) C (x5 + (1 : Int32)) 6 dX5_bears_101 rfl rfl (by decide) rfl rfl ?_
          refine k_goto C 34 dX5_bears_104 rfl ?_
          refine k_lv (lv' := [(0, kr Z 0), (1, .int x1), (2, .int x2), (3, .int z3), (4, .int x4), (5, .int (x5 + (1 : Int32)))]) [3, 4, 5, 1, 6, 0] rfl ?_
          exact ih x1 x2 z3 x4 (x5 + (1 : Int32)) q10.2  hf
set_option maxRecDepth 100000 in
theorem tX5_bears {Z : kZ} (C : kC Z cX5_bears RX5 7 rmX5_bears) {v1 : Int32} {v2 : Int32}  {st : kM} {res : Int32 × kM} (hf : fX5_bears v1 v2 st = some res) (K : kEnd Z (some .int) (some (.int res.1)) res.2) : kV Z 7 0 [(0, kr Z 0), (1, .int v1), (2, .int v2)] [] st := by
  unfold fX5_bears at hf
  refine k_iload_n C 1 dX5_bears_0 rfl rfl rfl ?_
  obtain ⟨q1, e2, hf⟩ := kf_b hf
  refine k_callS C [.int v1] (mX5_isMast e2) kw_1_201 kw_1_202 kw_1_1 kw_1_203 qX5_isMast rfl ⟨by decide, by decide⟩ ⟨rfl, rfl⟩ (Nat.le_of_ble_eq_true rfl) dX5_bears_1 rfl ?_ rfl
  refine (show kV Z 7 4 [(0, kr Z 0), (1, .int v1), (2, .int v2)] [.int q1.1] q1.2 from ?_)
  refine k_if_eq C 17 dX5_bears_4 rfl rfl (fun b3 => ?_) (fun b3 => ?_)
  · replace hf := kf_t hf b3
    refine k_aload_n C 0 dX5_bears_17 rfl rfl rfl ?_
    refine k_ldc C (-1000000001 : Int32) kw_1_192 dX5_bears_18 rfl ?_
    obtain ⟨q4, e5, hf⟩ := kf_b hf
    refine k_callV C [.int (-1000000001 : Int32)] (mX5_tell e5) rfl (by decide) rfl kw_1_193 kw_1_195 kw_0_0 kw_1_1 kw_1_196 qX5_tell rfl ⟨by decide, by decide⟩ ⟨rfl, rfl⟩ (Nat.le_of_ble_eq_true rfl) dX5_bears_20 rfl ?_ rfl
    refine (show kV Z 7 23 [(0, kr Z 0), (1, .int v1), (2, .int v2)] [.int q4.1] q4.2 from ?_)
    exact k_iret C K hf dX5_bears_23
  · replace hf := kf_f hf b3
    refine k_iload_n C 2 dX5_bears_7 rfl rfl rfl ?_
    refine k_iconst C (0 : Int32) dX5_bears_8 (by decide) rfl ?_
    refine k_bipush C (100 : Int32) dX5_bears_9 (by decide) rfl ?_
    obtain ⟨q6, e7, hf⟩ := kf_b hf
    refine k_callS C [.int v2, .int (0 : Int32), .int (100 : Int32)] (mX5_isWithin e7) kw_1_189 kw_1_190 kw_1_1 kw_1_191 qX5_isWithin rfl ⟨by decide, by decide⟩ ⟨rfl, rfl⟩ (Nat.le_of_ble_eq_true rfl) dX5_bears_11 rfl ?_ rfl
    refine (show kV Z 7 14 [(0, kr Z 0), (1, .int v1), (2, .int v2)] [.int q6.1] q6.2 from ?_)
    refine k_if_ne C 24 dX5_bears_14 rfl rfl (fun b8 => ?_) (fun b8 => ?_)
    · replace hf := kf_f hf b8
      refine k_iconst C (-1 : Int32) dX5_bears_24 (by decide) rfl ?_
      refine k_istore_n (lv' := [(3, .int (-1 : Int32)), (0, kr Z 0), (1, .int v1), (2, .int v2)]) C dX5_bears_25 rfl (by decide) rfl rfl ?_
      refine k_sipush C (1000 : Int32) dX5_bears_26 (by decide) rfl ?_
      refine k_istore (lv' := [(4, .int (1000 : Int32)), (3, .int (-1 : Int32)), (0, kr Z 0), (1, .int v1), (2, .int v2)]) C dX5_bears_29 (by decide) rfl rfl ?_
      refine k_iconst C (0 : Int32) dX5_bears_31 (by decide) rfl ?_
      refine k_istore (lv' := [(5, .int (0 : Int32)), (4, .int (1000 : Int32)), (3, .int (-1 : Int32)), (0, kr Z 0), (1, .int v1), (2, .int v2)]) C dX5_bears_32 (by decide) rfl rfl ?_
      refine k_lv (lv' := [(0, kr Z 0), (1, .int v1), (2, .int v2), (3, .int (-1 : Int32)), (4, .int (1000 : Int32)), (5, .int (0 : Int32))]) [3, 4, 5, 2, 1, 0] rfl ?_
      exact tX5_bears_34 C K _ v1 v2 (-1 : Int32) (1000 : Int32) (0 : Int32) q6.2 hf
    · replace hf := kf_t hf b8
      refine k_aload_n C 0 dX5_bears_17 rfl rfl rfl ?_
      refine k_ldc C (-1000000001 : Int32) kw_1_192 dX5_bears_18 rfl ?_
      obtain ⟨q9, e10, hf⟩ := kf_b hf
      refine k_callV C [.int (-1000000001 : Int32)] (mX5_tell e10) rfl (by decide) rfl kw_1_193 kw_1_195 kw_0_0 kw_1_1 kw_1_196 qX5_tell rfl ⟨by decide, by decide⟩ ⟨rfl, rfl⟩ (Nat.le_of_ble_eq_true rfl) dX5_bears_20 rfl ?_ rfl
      refine (show kV Z 7 23 [(0, kr Z 0), (1, .int v1), (2, .int v2)] [.int q9.1] q9.2 from ?_)
      exact k_iret C K hf dX5_bears_23
theorem mX5_bears {G : kG} {v1 : Int32} {v2 : Int32}  {st : kM} {res : Int32 × kM} (hf : fX5_bears v1 v2 st = some res) : kCt G yX5_bears cX5_bears 7 (some .int) rmX5_bears [.ref (G.2.1 0), .int v1, .int v2] st (some (.int res.1)) res.2 := kMet (by decide) (Nat.le_of_ble_eq_true rfl) ⟨rfl, rfl⟩ (fun X A Q C K => tX5_bears C  hf K)
theorem qX5_bears : yX5_bears.cls = RX5 ∧ yX5_bears.cls ≠ "java/lang/invoke/MethodHandle" ∧ yX5_bears.cls ≠ "java/lang/invoke/VarHandle" ∧ (parseMethodDescriptor yX5_bears.desc).map (fun d => d.parameters.length) = some 2 := ⟨rfl, by decide, by decide, by decide +kernel⟩
-- TalkKnots.move(II)I
def rmX5_move : Room := { frames := 6, cells := 0, slots := 0, locals := 131 }
def fX5_move_33 : Nat → Int32 → Int32 → Int32 → Int32 → Int32 → kM → Option (Int32 × kM)
  | 0, _, _, _, _, _, _ => none
  | n + 1, x1, x2, x3, x4, x5, st =>
    if (4 : Int32) ≤ x5 then (some (x4, st)) else ((fX4_become 16 1 st).bind fun s2 => (if x1 < 0 ∨ 10 ≤ x1.toNatClampNeg then none else ((some (kwr s2 (16 + 5 + x1.toNatClampNeg) 1 x5)).bind fun s5 => ((fX4_passHours 16 x2 s5).bind fun s7 => ((fJ6_bitCount_0f7a4 (s7.1 16 2) s7).bind fun q9 => (if q9.1 ≤ x3 then (fX5_move_33 n x1 x2 x3 x4 (x5 + (1 : Int32)) q9.2) else (fX5_move_33 n x1 x2 q9.1 x5 (x5 + (1 : Int32)) q9.2)))))))
def fX5_move (v1 : Int32) (v2 : Int32) (st : kM) : Option (Int32 × kM) :=
  (fX5_isKnot v1 st).bind fun q1 => (if q1.1 = 0 then ((fX5_tell (-1000000001 : Int32) q1.2).bind fun q4 => (some (q4.1, q4.2))) else ((fX5_isWithin v2 (1 : Int32) (100 : Int32) q1.2).bind fun q6 => (if q6.1 = 0 then ((fX5_tell (-1000000001 : Int32) q6.2).bind fun q9 => (some (q9.1, q9.2))) else (fX5_move_33 kfu v1 v2 (-1 : Int32) (0 : Int32) (0 : Int32) q6.2))))
set_option maxRecDepth 100000 in
theorem tX5_move_33 {Z : kZ} (C : kC Z cX5_move RX5 7 rmX5_move) {res : Int32 × kM} (K : kEnd Z (some .int) (some (.int res.1)) res.2) : ∀ (n : Nat) (x1 : Int32) (x2 : Int32) (x3 : Int32) (x4 : Int32) (x5 : Int32) (st : kM), fX5_move_33 n x1 x2 x3 x4 x5 st = some res → kV Z 7 33 [(0, kr Z 0), (1, .int x1), (2, .int x2), (3, .int x3), (4, .int x4), (5, .int x5)] [] st := by
  intro n
  induction n with
  | zero => intro x1 x2 x3 x4 x5 st hf; cases hf
  | succ n ih =>
    intro x1 x2 x3 x4 x5 st hf
    unfold fX5_move_33 at hf
    refine k_iload C 5 dX5_move_33 rfl rfl ?_
    refine k_iconst C (4 : Int32) dX5_move_35 (by decide) rfl ?_
    refine k_icmp_ge C 103 dX5_move_36 rfl rfl (fun b1 => ?_) (fun b1 => ?_)
    · replace hf := kf_t hf b1
      refine k_iload C 4 dX5_move_103 rfl rfl ?_
      exact k_iret C K hf dX5_move_105
    · replace hf := kf_f hf b1
      refine k_aload_n C 0 dX5_move_39 rfl rfl rfl ?_
      refine g_X5_trial C rfl kw_1_161 dX5_move_40 rfl ?_
      refine k_aload_n C 0 dX5_move_43 rfl rfl rfl ?_
      refine g_X5_present C rfl kw_1_160 dX5_move_44 rfl ?_
      obtain ⟨s2, e3, hf⟩ := kf_b hf
      refine k_callV C [kr Z 1] (mX4_become yd_16 yd_1 e3) (yd_4 yd_16) (by decide) rfl kw_2_164 kw_2_165 kw_2_166 kw_1_2 kw_2_167 qX4_become rfl ⟨by decide, by decide⟩ ⟨rfl, rfl⟩ (Nat.le_of_ble_eq_true rfl) dX5_move_47 rfl ?_ rfl
      refine (show kV Z 7 50 [(0, kr Z 0), (1, .int x1), (2, .int x2), (3, .int x3), (4, .int x4), (5, .int x5)] [] s2 from ?_)
      refine k_aload_n C 0 dX5_move_50 rfl rfl rfl ?_
      refine g_X5_trial C rfl kw_1_161 dX5_move_51 rfl ?_
      refine g_X4_knots C (yd_4 yd_16) kw_1_79 dX5_move_54 rfl ?_
      refine k_iload_n C 1 dX5_move_57 rfl rfl rfl ?_
      obtain ⟨g4, hf⟩ := kf_g hf
      refine k_aldK C yd_16 g4 dX5_move_58 rfl ?_
      refine k_iload C 5 dX5_move_59 rfl rfl ?_
      refine p_X0_mast C (yd_n yd_16 (vi_lt g4)) kw_1_39 dX5_move_61 rfl ?_
      obtain ⟨s5, e6, hf⟩ := kf_b hf
      refine k_st e6 ?_
      refine k_aload_n C 0 dX5_move_64 rfl rfl rfl ?_
      refine g_X5_trial C rfl kw_1_161 dX5_move_65 rfl ?_
      refine k_iload_n C 2 dX5_move_68 rfl rfl rfl ?_
      obtain ⟨s7, e8, hf⟩ := kf_b hf
      refine k_callV C [.int x2] (mX4_passHours yd_16 e8) (yd_4 yd_16) (by decide) rfl kw_2_133 kw_2_134 kw_2_135 kw_1_2 kw_2_136 qX4_passHours rfl ⟨by decide, by decide⟩ ⟨rfl, rfl⟩ (Nat.le_of_ble_eq_true rfl) dX5_move_69 rfl ?_ rfl
      refine (show kV Z 7 72 [(0, kr Z 0), (1, .int x1), (2, .int x2), (3, .int x3), (4, .int x4), (5, .int x5)] [] s7 from ?_)
      refine k_aload_n C 0 dX5_move_72 rfl rfl rfl ?_
      refine g_X5_trial C rfl kw_1_161 dX5_move_73 rfl ?_
      refine g_X4_up C (yd_4 yd_16) kw_1_70 dX5_move_76 rfl ?_
      obtain ⟨q9, e10, hf⟩ := kf_b hf
      refine k_callS C [.int (s7.1 16 2)] (mJ6_bitCount_0f7a4 e10) kw_2_224 kw_2_225 kw_1_10 kw_2_226 qJ6_bitCount_0f7a4 rfl ⟨by decide, by decide⟩ ⟨rfl, rfl⟩ (Nat.le_of_ble_eq_true rfl) dX5_move_79 rfl ?_ rfl
      refine (show kV Z 7 82 [(0, kr Z 0), (1, .int x1), (2, .int x2), (3, .int x3), (4, .int x4), (5, .int x5)] [.int q9.1] q9.2 from ?_)
      refine k_istore (lv' := [(6, .int q9.1), (0, kr Z 0), (1, .int x1), (2, .int x2), (3, .int x3), (4, .int x4), (5, .int x5)]) C dX5_move_82 (by decide) rfl rfl ?_
      refine k_iload C 0 dX5_move_84 rfl rfl ?_
      refine k_iload_n C 4 dX5_move_86 rfl rfl rfl ?_
      refine k_icmp_le C 97 dX5_move_87 rfl rfl (fun b11 => ?_) (fun b11 => ?_)
      · replace hf := kf_t hf b11
        refine k_iinc (lv' := [(5, .int (x5 + (1 : Int32))), (6, .int q9.1), (0, kr Z 0), (1, .int x1), (2, .int x2), (3, .int x3), (4, .int x4)]) C (x5 + (1 : Int32)) 6 dX5_move_97 rfl rfl (by decide) rfl rfl ?_
        refine k_goto C 33 dX5_move_100 rfl ?_
        refine k_lv (lv' := [(0, kr Z 0), (1, .int x1), (2, .int x2), (3, .int x3), (4, .int x4), (5, .int (x5 + (1 : Int32)))]) [2, 3, 4, 5, 6, 0] rfl ?_
        exact ih x1 x2 x3 x4 (x5 + (1 : Int32)) q9.2  hf
      · replace hf := kf_f hf b11
        refine k_iload C 0 dX5_move_90 rfl rfl ?_
        refine k_istore_n (lv' := [(3, .int q9.1), (6, .int q9.1), (0, kr Z 0), (1, .int x1), (2, .int x2), (4, .int x4), (5, .int x5)]) C dX5_move_92 rfl (by decide) rfl rfl ?_
        refine k_iload C 6 dX5_move_93 rfl rfl ?_
        refine k_istore (lv' := [(4, .int x5), (3, .int q9.1), (6, .int q9.1), (0, kr Z 0), (1, .int x1), (2, .int x2), (5, .int x5)]) C dX5_move_95 (by decide) rfl rfl ?_
        refine k_iinc (lv' := [(5, .int (x5 + (1 : Int32))), (4, .int x5), (3, .int q9.1), (6, .int q9.1), (0, kr Z 0), (1, .int x1), (2, .int x2)]) C (x5 + (1 : Int32)) 6 dX5_move_97 rfl rfl (by decide) rfl rfl ?_
        refine k_goto C 33 dX5_move_100 rfl ?_
        refine k_lv (lv' := [(0, kr Z 0), (1, .int x1), (2, .int x2), (3, .int q9.1), (4, .int x5), (5, .int (x5 + (1 : Int32)))]) [4, 5, 6, 2, 1, 0] rfl ?_
        exact ih x1 x2 q9.1 x5 (x5 + (1 : Int32)) q9.2  hf
set_option maxRecDepth 100000 in
theorem tX5_move {Z : kZ} (C : kC Z cX5_move RX5 7 rmX5_move) {v1 : Int32} {v2 : Int32}  {st : kM} {res : Int32 × kM} (hf : fX5_move v1 v2 st = some res) (K : kEnd Z (some .int) (some (.int res.1)) res.2) : kV Z 7 0 [(0, kr Z 0), (1, .int v1), (2, .int v2)] [] st := by
  unfold fX5_move at hf
  refine k_aload_n C 0 dX5_move_0 rfl rfl rfl ?_
  refine k_iload_n C 1 dX5_move_1 rfl rfl rfl ?_
  obtain ⟨q1, e2, hf⟩ := kf_b hf
  refine k_callV C [.int v1] (mX5_isKnot e2) rfl (by decide) rfl kw_2_65 kw_2_67 kw_0_5 kw_1_1 kw_2_68 qX5_isKnot rfl ⟨by decide, by decide⟩ ⟨rfl, rfl⟩ (Nat.le_of_ble_eq_true rfl) dX5_move_2 rfl ?_ rfl
  refine (show kV Z 7 5 [(0, kr Z 0), (1, .int v1), (2, .int v2)] [.int q1.1] q1.2 from ?_)
  refine k_if_eq C 18 dX5_move_5 rfl rfl (fun b3 => ?_) (fun b3 => ?_)
  · replace hf := kf_t hf b3
    refine k_aload_n C 0 dX5_move_18 rfl rfl rfl ?_
    refine k_ldc C (-1000000001 : Int32) kw_1_192 dX5_move_19 rfl ?_
    obtain ⟨q4, e5, hf⟩ := kf_b hf
    refine k_callV C [.int (-1000000001 : Int32)] (mX5_tell e5) rfl (by decide) rfl kw_1_193 kw_1_195 kw_0_0 kw_1_1 kw_1_196 qX5_tell rfl ⟨by decide, by decide⟩ ⟨rfl, rfl⟩ (Nat.le_of_ble_eq_true rfl) dX5_move_21 rfl ?_ rfl
    refine (show kV Z 7 24 [(0, kr Z 0), (1, .int v1), (2, .int v2)] [.int q4.1] q4.2 from ?_)
    exact k_iret C K hf dX5_move_24
  · replace hf := kf_f hf b3
    refine k_iload_n C 2 dX5_move_8 rfl rfl rfl ?_
    refine k_iconst C (1 : Int32) dX5_move_9 (by decide) rfl ?_
    refine k_bipush C (100 : Int32) dX5_move_10 (by decide) rfl ?_
    obtain ⟨q6, e7, hf⟩ := kf_b hf
    refine k_callS C [.int v2, .int (1 : Int32), .int (100 : Int32)] (mX5_isWithin e7) kw_1_189 kw_1_190 kw_1_1 kw_1_191 qX5_isWithin rfl ⟨by decide, by decide⟩ ⟨rfl, rfl⟩ (Nat.le_of_ble_eq_true rfl) dX5_move_12 rfl ?_ rfl
    refine (show kV Z 7 15 [(0, kr Z 0), (1, .int v1), (2, .int v2)] [.int q6.1] q6.2 from ?_)
    refine k_if_ne C 25 dX5_move_15 rfl rfl (fun b8 => ?_) (fun b8 => ?_)
    · replace hf := kf_f hf b8
      refine k_iconst C (-1 : Int32) dX5_move_25 (by decide) rfl ?_
      refine k_istore_n (lv' := [(3, .int (-1 : Int32)), (0, kr Z 0), (1, .int v1), (2, .int v2)]) C dX5_move_26 rfl (by decide) rfl rfl ?_
      refine k_iconst C (0 : Int32) dX5_move_27 (by decide) rfl ?_
      refine k_istore (lv' := [(4, .int (0 : Int32)), (3, .int (-1 : Int32)), (0, kr Z 0), (1, .int v1), (2, .int v2)]) C dX5_move_28 (by decide) rfl rfl ?_
      refine k_iconst C (0 : Int32) dX5_move_30 (by decide) rfl ?_
      refine k_istore (lv' := [(5, .int (0 : Int32)), (4, .int (0 : Int32)), (3, .int (-1 : Int32)), (0, kr Z 0), (1, .int v1), (2, .int v2)]) C dX5_move_31 (by decide) rfl rfl ?_
      refine k_lv (lv' := [(0, kr Z 0), (1, .int v1), (2, .int v2), (3, .int (-1 : Int32)), (4, .int (0 : Int32)), (5, .int (0 : Int32))]) [3, 4, 5, 2, 1, 0] rfl ?_
      exact tX5_move_33 C K _ v1 v2 (-1 : Int32) (0 : Int32) (0 : Int32) q6.2 hf
    · replace hf := kf_t hf b8
      refine k_aload_n C 0 dX5_move_18 rfl rfl rfl ?_
      refine k_ldc C (-1000000001 : Int32) kw_1_192 dX5_move_19 rfl ?_
      obtain ⟨q9, e10, hf⟩ := kf_b hf
      refine k_callV C [.int (-1000000001 : Int32)] (mX5_tell e10) rfl (by decide) rfl kw_1_193 kw_1_195 kw_0_0 kw_1_1 kw_1_196 qX5_tell rfl ⟨by decide, by decide⟩ ⟨rfl, rfl⟩ (Nat.le_of_ble_eq_true rfl) dX5_move_21 rfl ?_ rfl
      refine (show kV Z 7 24 [(0, kr Z 0), (1, .int v1), (2, .int v2)] [.int q9.1] q9.2 from ?_)
      exact k_iret C K hf dX5_move_24
theorem mX5_move {G : kG} {v1 : Int32} {v2 : Int32}  {st : kM} {res : Int32 × kM} (hf : fX5_move v1 v2 st = some res) : kCt G yX5_move cX5_move 7 (some .int) rmX5_move [.ref (G.2.1 0), .int v1, .int v2] st (some (.int res.1)) res.2 := kMet (by decide) (Nat.le_of_ble_eq_true rfl) ⟨rfl, rfl⟩ (fun X A Q C K => tX5_move C  hf K)
theorem qX5_move : yX5_move.cls = RX5 ∧ yX5_move.cls ≠ "java/lang/invoke/MethodHandle" ∧ yX5_move.cls ≠ "java/lang/invoke/VarHandle" ∧ (parseMethodDescriptor yX5_move.desc).map (fun d => d.parameters.length) = some 2 := ⟨rfl, by decide, by decide, by decide +kernel⟩
-- TalkKnots.calm(I)I
def rmX5_calm : Room := { frames := 6, cells := 0, slots := 0, locals := 131 }
def fX5_calm_24 : Nat → Int32 → Int32 → Int32 → Int32 → kM → Option (Int32 × kM)
  | 0, _, _, _, _, _ => none
  | n + 1, x1, x2, x3, x4, st =>
    if (12 : Int32) ≤ x4 then (some (x3, st)) else ((fX4_become 16 1 st).bind fun s2 => (if x4 < 0 ∨ 12 ≤ x4.toNatClampNeg then none else ((some (kwr s2 (16 + 1) x4.toNatClampNeg (0 : Int32))).bind fun s5 => ((fX4_passHours 16 x1 s5).bind fun s7 => ((fX4_fastKnots 16 s7).bind fun q9 => ((fJ6_bitCount_0f7a4 q9.1 q9.2).bind fun q11 => (if q11.1 ≤ x2 then (fX5_calm_24 n x1 x2 x3 (x4 + (1 : Int32)) q11.2) else (fX5_calm_24 n x1 q11.1 x4 (x4 + (1 : Int32)) q11.2))))))))
def fX5_calm (v1 : Int32) (st : kM) : Option (Int32 × kM) :=
  (fX5_isWithin v1 (1 : Int32) (100 : Int32) st).bind fun q1 => (if q1.1 = 0 then ((fX5_tell (-1000000001 : Int32) q1.2).bind fun q4 => (some (q4.1, q4.2))) else (fX5_calm_24 kfu v1 (-1 : Int32) (0 : Int32) (0 : Int32) q1.2))
set_option maxRecDepth 100000 in
theorem tX5_calm_24 {Z : kZ} (C : kC Z cX5_calm RX5 6 rmX5_calm) {res : Int32 × kM} (K : kEnd Z (some .int) (some (.int res.1)) res.2) : ∀ (n : Nat) (x1 : Int32) (x2 : Int32) (x3 : Int32) (x4 : Int32) (st : kM), fX5_calm_24 n x1 x2 x3 x4 st = some res → kV Z 6 24 [(0, kr Z 0), (1, .int x1), (2, .int x2), (3, .int x3), (4, .int x4)] [] st := by
  intro n
  induction n with
  | zero => intro x1 x2 x3 x4 st hf; cases hf
  | succ n ih =>
    intro x1 x2 x3 x4 st hf
    unfold fX5_calm_24 at hf
    refine k_iload C 4 dX5_calm_24 rfl rfl ?_
    refine k_bipush C (12 : Int32) dX5_calm_26 (by decide) rfl ?_
    refine k_icmp_ge C 91 dX5_calm_28 rfl rfl (fun b1 => ?_) (fun b1 => ?_)
    · replace hf := kf_t hf b1
      refine k_iload_n C 3 dX5_calm_91 rfl rfl rfl ?_
      exact k_iret C K hf dX5_calm_92
    · replace hf := kf_f hf b1
      refine k_aload_n C 0 dX5_calm_31 rfl rfl rfl ?_
      refine g_X5_trial C rfl kw_1_161 dX5_calm_32 rfl ?_
      refine k_aload_n C 0 dX5_calm_35 rfl rfl rfl ?_
      refine g_X5_present C rfl kw_1_160 dX5_calm_36 rfl ?_
      obtain ⟨s2, e3, hf⟩ := kf_b hf
      refine k_callV C [kr Z 1] (mX4_become yd_16 yd_1 e3) (yd_4 yd_16) (by decide) rfl kw_2_164 kw_2_165 kw_2_166 kw_1_2 kw_2_167 qX4_become rfl ⟨by decide, by decide⟩ ⟨rfl, rfl⟩ (Nat.le_of_ble_eq_true rfl) dX5_calm_39 rfl ?_ rfl
      refine (show kV Z 6 42 [(0, kr Z 0), (1, .int x1), (2, .int x2), (3, .int x3), (4, .int x4)] [] s2 from ?_)
      refine k_aload_n C 0 dX5_calm_42 rfl rfl rfl ?_
      refine g_X5_trial C rfl kw_1_161 dX5_calm_43 rfl ?_
      refine g_X4_winds C (yd_4 yd_16) kw_1_72 dX5_calm_46 rfl ?_
      refine k_iload C 4 dX5_calm_49 rfl rfl ?_
      refine k_iconst C (0 : Int32) dX5_calm_51 (by decide) rfl ?_
      obtain ⟨g4, hf⟩ := kf_g hf
      refine k_iast (j := x4.toNatClampNeg) C (yd_w yd_16) g4 rfl dX5_calm_52 rfl ?_
      obtain ⟨s5, e6, hf⟩ := kf_b hf
      refine k_st e6 ?_
      refine k_aload_n C 0 dX5_calm_53 rfl rfl rfl ?_
      refine g_X5_trial C rfl kw_1_161 dX5_calm_54 rfl ?_
      refine k_iload_n C 1 dX5_calm_57 rfl rfl rfl ?_
      obtain ⟨s7, e8, hf⟩ := kf_b hf
      refine k_callV C [.int x1] (mX4_passHours yd_16 e8) (yd_4 yd_16) (by decide) rfl kw_2_133 kw_2_134 kw_2_135 kw_1_2 kw_2_136 qX4_passHours rfl ⟨by decide, by decide⟩ ⟨rfl, rfl⟩ (Nat.le_of_ble_eq_true rfl) dX5_calm_58 rfl ?_ rfl
      refine (show kV Z 6 61 [(0, kr Z 0), (1, .int x1), (2, .int x2), (3, .int x3), (4, .int x4)] [] s7 from ?_)
      refine k_aload_n C 0 dX5_calm_61 rfl rfl rfl ?_
      refine g_X5_trial C rfl kw_1_161 dX5_calm_62 rfl ?_
      obtain ⟨q9, e10, hf⟩ := kf_b hf
      refine k_callV C [] (mX4_fastKnots yd_16 e10) (yd_4 yd_16) (by decide) rfl kw_1_224 kw_1_225 kw_1_226 kw_1_2 kw_1_227 qX4_fastKnots rfl ⟨by decide, by decide⟩ ⟨rfl, rfl⟩ (Nat.le_of_ble_eq_true rfl) dX5_calm_65 rfl ?_ rfl
      refine (show kV Z 6 68 [(0, kr Z 0), (1, .int x1), (2, .int x2), (3, .int x3), (4, .int x4)] [.int q9.1] q9.2 from ?_)
      obtain ⟨q11, e12, hf⟩ := kf_b hf
      refine k_callS C [.int q9.1] (mJ6_bitCount_0f7a4 e12) kw_2_224 kw_2_225 kw_1_10 kw_2_226 qJ6_bitCount_0f7a4 rfl ⟨by decide, by decide⟩ ⟨rfl, rfl⟩ (Nat.le_of_ble_eq_true rfl) dX5_calm_68 rfl ?_ rfl
      refine (show kV Z 6 71 [(0, kr Z 0), (1, .int x1), (2, .int x2), (3, .int x3), (4, .int x4)] [.int q11.1] q11.2 from ?_)
      refine k_istore (lv' := [(5, .int q11.1), (0, kr Z 0), (1, .int x1), (2, .int x2), (3, .int x3), (4, .int x4)]) C dX5_calm_71 (by decide) rfl rfl ?_
      refine k_iload C 0 dX5_calm_73 rfl rfl ?_
      refine k_iload_n C 3 dX5_calm_75 rfl rfl rfl ?_
      refine k_icmp_le C 85 dX5_calm_76 rfl rfl (fun b13 => ?_) (fun b13 => ?_)
      · replace hf := kf_t hf b13
        refine k_iinc (lv' := [(4, .int (x4 + (1 : Int32))), (5, .int q11.1), (0, kr Z 0), (1, .int x1), (2, .int x2), (3, .int x3)]) C (x4 + (1 : Int32)) 5 dX5_calm_85 rfl rfl (by decide) rfl rfl ?_
        refine k_goto C 24 dX5_calm_88 rfl ?_
        refine k_lv (lv' := [(0, kr Z 0), (1, .int x1), (2, .int x2), (3, .int x3), (4, .int (x4 + (1 : Int32)))]) [2, 3, 4, 5, 0] rfl ?_
        exact ih x1 x2 x3 (x4 + (1 : Int32)) q11.2  hf
      · replace hf := kf_f hf b13
        refine k_iload C 0 dX5_calm_79 rfl rfl ?_
        refine k_istore_n (lv' := [(2, .int q11.1), (5, .int q11.1), (0, kr Z 0), (1, .int x1), (3, .int x3), (4, .int x4)]) C dX5_calm_81 rfl (by decide) rfl rfl ?_
        refine k_iload C 5 dX5_calm_82 rfl rfl ?_
        refine k_istore_n (lv' := [(3, .int x4), (2, .int q11.1), (5, .int q11.1), (0, kr Z 0), (1, .int x1), (4, .int x4)]) C dX5_calm_84 rfl (by decide) rfl rfl ?_
        refine k_iinc (lv' := [(4, .int (x4 + (1 : Int32))), (3, .int x4), (2, .int q11.1), (5, .int q11.1), (0, kr Z 0), (1, .int x1)]) C (x4 + (1 : Int32)) 5 dX5_calm_85 rfl rfl (by decide) rfl rfl ?_
        refine k_goto C 24 dX5_calm_88 rfl ?_
        refine k_lv (lv' := [(0, kr Z 0), (1, .int x1), (2, .int q11.1), (3, .int x4), (4, .int (x4 + (1 : Int32)))]) [4, 5, 2, 1, 0] rfl ?_
        exact ih x1 q11.1 x4 (x4 + (1 : Int32)) q11.2  hf
set_option maxRecDepth 100000 in
theorem tX5_calm {Z : kZ} (C : kC Z cX5_calm RX5 6 rmX5_calm) {v1 : Int32}  {st : kM} {res : Int32 × kM} (hf : fX5_calm v1 st = some res) (K : kEnd Z (some .int) (some (.int res.1)) res.2) : kV Z 6 0 [(0, kr Z 0), (1, .int v1)] [] st := by
  unfold fX5_calm at hf
  refine k_iload_n C 1 dX5_calm_0 rfl rfl rfl ?_
  refine k_iconst C (1 : Int32) dX5_calm_1 (by decide) rfl ?_
  refine k_bipush C (100 : Int32) dX5_calm_2 (by decide) rfl ?_
  obtain ⟨q1, e2, hf⟩ := kf_b hf
  refine k_callS C [.int v1, .int (1 : Int32), .int (100 : Int32)] (mX5_isWithin e2) kw_1_189 kw_1_190 kw_1_1 kw_1_191 qX5_isWithin rfl ⟨by decide, by decide⟩ ⟨rfl, rfl⟩ (Nat.le_of_ble_eq_true rfl) dX5_calm_4 rfl ?_ rfl
  refine (show kV Z 6 7 [(0, kr Z 0), (1, .int v1)] [.int q1.1] q1.2 from ?_)
  refine k_if_ne C 17 dX5_calm_7 rfl rfl (fun b3 => ?_) (fun b3 => ?_)
  · replace hf := kf_f hf b3
    refine k_iconst C (-1 : Int32) dX5_calm_17 (by decide) rfl ?_
    refine k_istore_n (lv' := [(2, .int (-1 : Int32)), (0, kr Z 0), (1, .int v1)]) C dX5_calm_18 rfl (by decide) rfl rfl ?_
    refine k_iconst C (0 : Int32) dX5_calm_19 (by decide) rfl ?_
    refine k_istore_n (lv' := [(3, .int (0 : Int32)), (2, .int (-1 : Int32)), (0, kr Z 0), (1, .int v1)]) C dX5_calm_20 rfl (by decide) rfl rfl ?_
    refine k_iconst C (0 : Int32) dX5_calm_21 (by decide) rfl ?_
    refine k_istore (lv' := [(4, .int (0 : Int32)), (3, .int (0 : Int32)), (2, .int (-1 : Int32)), (0, kr Z 0), (1, .int v1)]) C dX5_calm_22 (by decide) rfl rfl ?_
    refine k_lv (lv' := [(0, kr Z 0), (1, .int v1), (2, .int (-1 : Int32)), (3, .int (0 : Int32)), (4, .int (0 : Int32))]) [3, 4, 2, 1, 0] rfl ?_
    exact tX5_calm_24 C K _ v1 (-1 : Int32) (0 : Int32) (0 : Int32) q1.2 hf
  · replace hf := kf_t hf b3
    refine k_aload_n C 0 dX5_calm_10 rfl rfl rfl ?_
    refine k_ldc C (-1000000001 : Int32) kw_1_192 dX5_calm_11 rfl ?_
    obtain ⟨q4, e5, hf⟩ := kf_b hf
    refine k_callV C [.int (-1000000001 : Int32)] (mX5_tell e5) rfl (by decide) rfl kw_1_193 kw_1_195 kw_0_0 kw_1_1 kw_1_196 qX5_tell rfl ⟨by decide, by decide⟩ ⟨rfl, rfl⟩ (Nat.le_of_ble_eq_true rfl) dX5_calm_13 rfl ?_ rfl
    refine (show kV Z 6 16 [(0, kr Z 0), (1, .int v1)] [.int q4.1] q4.2 from ?_)
    exact k_iret C K hf dX5_calm_16
theorem mX5_calm {G : kG} {v1 : Int32}  {st : kM} {res : Int32 × kM} (hf : fX5_calm v1 st = some res) : kCt G yX5_calm cX5_calm 6 (some .int) rmX5_calm [.ref (G.2.1 0), .int v1] st (some (.int res.1)) res.2 := kMet (by decide) (Nat.le_of_ble_eq_true rfl) ⟨rfl, rfl⟩ (fun X A Q C K => tX5_calm C  hf K)
theorem qX5_calm : yX5_calm.cls = RX5 ∧ yX5_calm.cls ≠ "java/lang/invoke/MethodHandle" ∧ yX5_calm.cls ≠ "java/lang/invoke/VarHandle" ∧ (parseMethodDescriptor yX5_calm.desc).map (fun d => d.parameters.length) = some 1 := ⟨rfl, by decide, by decide, by decide +kernel⟩
-- TalkKnots.firmest(I)I
def rmX5_firmest : Room := { frames := 6, cells := 0, slots := 0, locals := 131 }
def fX5_firmest_44 : Nat → Int32 → Int32 → Int32 → kM → Option (Int32 × kM)
  | 0, _, _, _, _ => none
  | n + 1, x2, x3, x4, st =>
    if (st.1 16 1) ≤ x4 then (if 0 ≤ x3 then (some (x3, st)) else ((fX5_tell (-1000000004 : Int32) st).bind fun q3 => (some (q3.1, q3.2)))) else (if x4 < 0 ∨ 10 ≤ x4.toNatClampNeg then none else ((fX4_holdingOf 16 (16 + 5 + x4.toNatClampNeg) st).bind fun q6 => (if q6.1 ≤ x2 then (fX5_firmest_44 n x2 x3 (x4 + (1 : Int32)) q6.2) else (fX5_firmest_44 n q6.1 x4 (x4 + (1 : Int32)) q6.2))))
def fX5_firmest (v1 : Int32) (st : kM) : Option (Int32 × kM) :=
  (fX5_isWithin v1 (0 : Int32) (200 : Int32) st).bind fun q1 => (if q1.1 = 0 then ((fX5_tell (-1000000001 : Int32) q1.2).bind fun q8 => (some (q8.1, q8.2))) else ((fX4_become 16 1 q1.2).bind fun s4 => ((fX4_passHours 16 v1 s4).bind fun s6 => (fX5_firmest_44 kfu (-1 : Int32) (-1 : Int32) (0 : Int32) s6))))
set_option maxRecDepth 100000 in
theorem tX5_firmest_44 {Z : kZ} (C : kC Z cX5_firmest RX5 6 rmX5_firmest) {res : Int32 × kM} (K : kEnd Z (some .int) (some (.int res.1)) res.2) : ∀ (n : Nat) (x2 : Int32) (x3 : Int32) (x4 : Int32) (st : kM), fX5_firmest_44 n x2 x3 x4 st = some res → kV Z 6 44 [(0, kr Z 0), (2, .int x2), (3, .int x3), (4, .int x4)] [] st := by
  intro n
  induction n with
  | zero => intro x2 x3 x4 st hf; cases hf
  | succ n ih =>
    intro x2 x3 x4 st hf
    unfold fX5_firmest_44 at hf
    refine k_iload C 3 dX5_firmest_44 rfl rfl ?_
    refine k_aload_n C 0 dX5_firmest_46 rfl rfl rfl ?_
    refine g_X5_trial C rfl kw_1_161 dX5_firmest_47 rfl ?_
    refine g_X4_count C (yd_4 yd_16) kw_1_68 dX5_firmest_50 rfl ?_
    refine k_icmp_ge C 93 dX5_firmest_53 rfl rfl (fun b1 => ?_) (fun b1 => ?_)
    · replace hf := kf_t hf b1
      refine k_iload_n C 2 dX5_firmest_93 rfl rfl rfl ?_
      refine k_if_ge C 106 dX5_firmest_94 rfl rfl (fun b2 => ?_) (fun b2 => ?_)
      · replace hf := kf_t hf b2
        refine k_iload_n C 2 dX5_firmest_106 rfl rfl rfl ?_
        exact k_iret C K hf dX5_firmest_107
      · replace hf := kf_f hf b2
        refine k_aload_n C 0 dX5_firmest_97 rfl rfl rfl ?_
        refine k_ldc C (-1000000004 : Int32) kw_2_187 dX5_firmest_98 rfl ?_
        obtain ⟨q3, e4, hf⟩ := kf_b hf
        refine k_callV C [.int (-1000000004 : Int32)] (mX5_tell e4) rfl (by decide) rfl kw_1_193 kw_1_195 kw_0_0 kw_1_1 kw_1_196 qX5_tell rfl ⟨by decide, by decide⟩ ⟨rfl, rfl⟩ (Nat.le_of_ble_eq_true rfl) dX5_firmest_100 rfl ?_ rfl
        refine (show kV Z 6 103 [(0, kr Z 0), (2, .int x2), (3, .int x3), (4, .int x4)] [.int q3.1] q3.2 from ?_)
        refine k_goto C 107 dX5_firmest_103 rfl ?_
        exact k_iret C K hf dX5_firmest_107
    · replace hf := kf_f hf b1
      refine k_aload_n C 0 dX5_firmest_56 rfl rfl rfl ?_
      refine g_X5_trial C rfl kw_1_161 dX5_firmest_57 rfl ?_
      refine k_aload_n C 0 dX5_firmest_60 rfl rfl rfl ?_
      refine g_X5_trial C rfl kw_1_161 dX5_firmest_61 rfl ?_
      refine g_X4_knots C (yd_4 yd_16) kw_1_79 dX5_firmest_64 rfl ?_
      refine k_iload C 3 dX5_firmest_67 rfl rfl ?_
      obtain ⟨g5, hf⟩ := kf_g hf
      refine k_aldK C yd_16 g5 dX5_firmest_69 rfl ?_
      obtain ⟨q6, e7, hf⟩ := kf_b hf
      refine k_callV C [kr Z (16 + 5 + x4.toNatClampNeg)] (mX4_holdingOf yd_16 (yd_n yd_16 (vi_lt g5)) e7) (yd_4 yd_16) (by decide) rfl kw_2_69 kw_2_13 kw_2_14 kw_1_2 kw_2_15 qX4_holdingOf rfl ⟨by decide, by decide⟩ ⟨rfl, rfl⟩ (Nat.le_of_ble_eq_true rfl) dX5_firmest_70 rfl ?_ rfl
      refine (show kV Z 6 73 [(0, kr Z 0), (2, .int x2), (3, .int x3), (4, .int x4)] [.int q6.1] q6.2 from ?_)
      refine k_istore (lv' := [(5, .int q6.1), (0, kr Z 0), (2, .int x2), (3, .int x3), (4, .int x4)]) C dX5_firmest_73 (by decide) rfl rfl ?_
      refine k_iload C 0 dX5_firmest_75 rfl rfl ?_
      refine k_iload_n C 2 dX5_firmest_77 rfl rfl rfl ?_
      refine k_icmp_le C 87 dX5_firmest_78 rfl rfl (fun b8 => ?_) (fun b8 => ?_)
      · replace hf := kf_t hf b8
        refine k_iinc (lv' := [(4, .int (x4 + (1 : Int32))), (5, .int q6.1), (0, kr Z 0), (2, .int x2), (3, .int x3)]) C (x4 + (1 : Int32)) 4 dX5_firmest_87 rfl rfl (by decide) rfl rfl ?_
        refine k_goto C 44 dX5_firmest_90 rfl ?_
        refine k_lv (lv' := [(0, kr Z 0), (2, .int x2), (3, .int x3), (4, .int (x4 + (1 : Int32)))]) [2, 3, 4, 0] rfl ?_
        exact ih x2 x3 (x4 + (1 : Int32)) q6.2  hf
      · replace hf := kf_f hf b8
        refine k_iload C 0 dX5_firmest_81 rfl rfl ?_
        refine k_istore_n (lv' := [(2, .int q6.1), (5, .int q6.1), (0, kr Z 0), (3, .int x3), (4, .int x4)]) C dX5_firmest_83 rfl (by decide) rfl rfl ?_
        refine k_iload C 4 dX5_firmest_84 rfl rfl ?_
        refine k_istore_n (lv' := [(3, .int x4), (2, .int q6.1), (5, .int q6.1), (0, kr Z 0), (4, .int x4)]) C dX5_firmest_86 rfl (by decide) rfl rfl ?_
        refine k_iinc (lv' := [(4, .int (x4 + (1 : Int32))), (3, .int x4), (2, .int q6.1), (5, .int q6.1), (0, kr Z 0)]) C (x4 + (1 : Int32)) 4 dX5_firmest_87 rfl rfl (by decide) rfl rfl ?_
        refine k_goto C 44 dX5_firmest_90 rfl ?_
        refine k_lv (lv' := [(0, kr Z 0), (2, .int q6.1), (3, .int x4), (4, .int (x4 + (1 : Int32)))]) [4, 2, 1, 0] rfl ?_
        exact ih q6.1 x4 (x4 + (1 : Int32)) q6.2  hf
set_option maxRecDepth 100000 in
theorem tX5_firmest {Z : kZ} (C : kC Z cX5_firmest RX5 6 rmX5_firmest) {v1 : Int32}  {st : kM} {res : Int32 × kM} (hf : fX5_firmest v1 st = some res) (K : kEnd Z (some .int) (some (.int res.1)) res.2) : kV Z 6 0 [(0, kr Z 0), (1, .int v1)] [] st := by
  unfold fX5_firmest at hf
  refine k_iload_n C 1 dX5_firmest_0 rfl rfl rfl ?_
  refine k_iconst C (0 : Int32) dX5_firmest_1 (by decide) rfl ?_
  refine k_sipush C (200 : Int32) dX5_firmest_2 (by decide) rfl ?_
  obtain ⟨q1, e2, hf⟩ := kf_b hf
  refine k_callS C [.int v1, .int (0 : Int32), .int (200 : Int32)] (mX5_isWithin e2) kw_1_189 kw_1_190 kw_1_1 kw_1_191 qX5_isWithin rfl ⟨by decide, by decide⟩ ⟨rfl, rfl⟩ (Nat.le_of_ble_eq_true rfl) dX5_firmest_5 rfl ?_ rfl
  refine (show kV Z 6 8 [(0, kr Z 0), (1, .int v1)] [.int q1.1] q1.2 from ?_)
  refine k_if_ne C 18 dX5_firmest_8 rfl rfl (fun b3 => ?_) (fun b3 => ?_)
  · replace hf := kf_f hf b3
    refine k_aload_n C 0 dX5_firmest_18 rfl rfl rfl ?_
    refine g_X5_trial C rfl kw_1_161 dX5_firmest_19 rfl ?_
    refine k_aload_n C 0 dX5_firmest_22 rfl rfl rfl ?_
    refine g_X5_present C rfl kw_1_160 dX5_firmest_23 rfl ?_
    obtain ⟨s4, e5, hf⟩ := kf_b hf
    refine k_callV C [kr Z 1] (mX4_become yd_16 yd_1 e5) (yd_4 yd_16) (by decide) rfl kw_2_164 kw_2_165 kw_2_166 kw_1_2 kw_2_167 qX4_become rfl ⟨by decide, by decide⟩ ⟨rfl, rfl⟩ (Nat.le_of_ble_eq_true rfl) dX5_firmest_26 rfl ?_ rfl
    refine (show kV Z 6 29 [(0, kr Z 0), (1, .int v1)] [] s4 from ?_)
    refine k_aload_n C 0 dX5_firmest_29 rfl rfl rfl ?_
    refine g_X5_trial C rfl kw_1_161 dX5_firmest_30 rfl ?_
    refine k_iload_n C 1 dX5_firmest_33 rfl rfl rfl ?_
    obtain ⟨s6, e7, hf⟩ := kf_b hf
    refine k_callV C [.int v1] (mX4_passHours yd_16 e7) (yd_4 yd_16) (by decide) rfl kw_2_133 kw_2_134 kw_2_135 kw_1_2 kw_2_136 qX4_passHours rfl ⟨by decide, by decide⟩ ⟨rfl, rfl⟩ (Nat.le_of_ble_eq_true rfl) dX5_firmest_34 rfl ?_ rfl
    refine (show kV Z 6 37 [(0, kr Z 0), (1, .int v1)] [] s6 from ?_)
    refine k_iconst C (-1 : Int32) dX5_firmest_37 (by decide) rfl ?_
    refine k_istore_n (lv' := [(2, .int (-1 : Int32)), (0, kr Z 0), (1, .int v1)]) C dX5_firmest_38 rfl (by decide) rfl rfl ?_
    refine k_iconst C (-1 : Int32) dX5_firmest_39 (by decide) rfl ?_
    refine k_istore_n (lv' := [(3, .int (-1 : Int32)), (2, .int (-1 : Int32)), (0, kr Z 0), (1, .int v1)]) C dX5_firmest_40 rfl (by decide) rfl rfl ?_
    refine k_iconst C (0 : Int32) dX5_firmest_41 (by decide) rfl ?_
    refine k_istore (lv' := [(4, .int (0 : Int32)), (3, .int (-1 : Int32)), (2, .int (-1 : Int32)), (0, kr Z 0), (1, .int v1)]) C dX5_firmest_42 (by decide) rfl rfl ?_
    refine k_lv (lv' := [(0, kr Z 0), (2, .int (-1 : Int32)), (3, .int (-1 : Int32)), (4, .int (0 : Int32))]) [3, 2, 1, 0] rfl ?_
    exact tX5_firmest_44 C K _ (-1 : Int32) (-1 : Int32) (0 : Int32) s6 hf
  · replace hf := kf_t hf b3
    refine k_aload_n C 0 dX5_firmest_11 rfl rfl rfl ?_
    refine k_ldc C (-1000000001 : Int32) kw_1_192 dX5_firmest_12 rfl ?_
    obtain ⟨q8, e9, hf⟩ := kf_b hf
    refine k_callV C [.int (-1000000001 : Int32)] (mX5_tell e9) rfl (by decide) rfl kw_1_193 kw_1_195 kw_0_0 kw_1_1 kw_1_196 qX5_tell rfl ⟨by decide, by decide⟩ ⟨rfl, rfl⟩ (Nat.le_of_ble_eq_true rfl) dX5_firmest_14 rfl ?_ rfl
    refine (show kV Z 6 17 [(0, kr Z 0), (1, .int v1)] [.int q8.1] q8.2 from ?_)
    exact k_iret C K hf dX5_firmest_17
theorem mX5_firmest {G : kG} {v1 : Int32}  {st : kM} {res : Int32 × kM} (hf : fX5_firmest v1 st = some res) : kCt G yX5_firmest cX5_firmest 6 (some .int) rmX5_firmest [.ref (G.2.1 0), .int v1] st (some (.int res.1)) res.2 := kMet (by decide) (Nat.le_of_ble_eq_true rfl) ⟨rfl, rfl⟩ (fun X A Q C K => tX5_firmest C  hf K)
theorem qX5_firmest : yX5_firmest.cls = RX5 ∧ yX5_firmest.cls ≠ "java/lang/invoke/MethodHandle" ∧ yX5_firmest.cls ≠ "java/lang/invoke/VarHandle" ∧ (parseMethodDescriptor yX5_firmest.desc).map (fun d => d.parameters.length) = some 1 := ⟨rfl, by decide, by decide, by decide +kernel⟩
-- TalkKnots.feed(II)I
def rmX5_feed : Room := { frames := 2, cells := 0, slots := 0, locals := 44 }
def fX5_feed_41 : Nat → Int32 → Int32 → kM → Option (Int32 × kM)
  | 0, _, _, _ => none
  | n + 1, x1, x3, st =>
    if x3 < 0 then (some ((st.1 46 1), st)) else ((fX2_add (((x1.toUInt32 >>> (((8 : Int32) * x3).toUInt32 &&& Int32.toUInt32 31)).toInt32) &&& (255 : Int32)) st).bind fun s2 => (fX5_feed_41 n x1 (x3 + (-1 : Int32)) s2))
def fX5_feed (v1 : Int32) (v2 : Int32) (st : kM) : Option (Int32 × kM) :=
  (fX5_isWithin v2 (1 : Int32) (4 : Int32) st).bind fun q1 => (if q1.1 = 0 then ((fX5_tell (-1000000001 : Int32) q1.2).bind fun q9 => (some (q9.1, q9.2))) else (if (q1.2.1 46 1) ≤ ((120 : Int32) - v2) then ((some (v2 - (1 : Int32))).bind fun z5 => (fX5_feed_41 kfu v1 z5 q1.2)) else ((fX5_tell (-1000000002 : Int32) q1.2).bind fun q7 => (some (q7.1, q7.2)))))
set_option maxRecDepth 100000 in
theorem tX5_feed_41 {Z : kZ} (C : kC Z cX5_feed RX5 4 rmX5_feed) {res : Int32 × kM} (K : kEnd Z (some .int) (some (.int res.1)) res.2) : ∀ (n : Nat) (x1 : Int32) (x3 : Int32) (st : kM), fX5_feed_41 n x1 x3 st = some res → kV Z 4 41 [(0, kr Z 0), (1, .int x1), (3, .int x3)] [] st := by
  intro n
  induction n with
  | zero => intro x1 x3 st hf; cases hf
  | succ n ih =>
    intro x1 x3 st hf
    unfold fX5_feed_41 at hf
    refine k_iload_n C 2 dX5_feed_41 rfl rfl rfl ?_
    refine k_if_lt C 68 dX5_feed_42 rfl rfl (fun b1 => ?_) (fun b1 => ?_)
    · replace hf := kf_t hf b1
      refine k_aload_n C 0 dX5_feed_68 rfl rfl rfl ?_
      refine g_X5_tape C rfl kw_1_164 dX5_feed_69 rfl ?_
      refine g_X2_length C rfl kw_1_105 dX5_feed_72 rfl ?_
      exact k_iret C K hf dX5_feed_75
    · replace hf := kf_f hf b1
      refine k_aload_n C 0 dX5_feed_45 rfl rfl rfl ?_
      refine g_X5_tape C rfl kw_1_164 dX5_feed_46 rfl ?_
      refine k_iload_n C 1 dX5_feed_49 rfl rfl rfl ?_
      refine k_bipush C (8 : Int32) dX5_feed_50 (by decide) rfl ?_
      refine k_iload_n C 2 dX5_feed_52 rfl rfl rfl ?_
      refine k_imul C dX5_feed_53 rfl ?_
      refine k_iushr C dX5_feed_54 rfl ?_
      refine k_sipush C (255 : Int32) dX5_feed_55 (by decide) rfl ?_
      refine k_iand C dX5_feed_58 rfl ?_
      obtain ⟨s2, e3, hf⟩ := kf_b hf
      refine k_callV C [.int (((x1.toUInt32 >>> (((8 : Int32) * x3).toUInt32 &&& Int32.toUInt32 31)).toInt32) &&& (255 : Int32))] (mX2_add e3) rfl (by decide) rfl kw_3_2 kw_3_3 kw_3_4 kw_1_4 kw_3_5 qX2_add rfl ⟨by decide, by decide⟩ ⟨rfl, rfl⟩ (Nat.le_of_ble_eq_true rfl) dX5_feed_59 rfl ?_ rfl
      refine (show kV Z 4 62 [(0, kr Z 0), (1, .int x1), (3, .int x3)] [] s2 from ?_)
      refine k_iinc (lv' := [(3, .int (x3 + (-1 : Int32))), (0, kr Z 0), (1, .int x1)]) C (x3 + (-1 : Int32)) 2 dX5_feed_62 rfl rfl (by decide) rfl rfl ?_
      refine k_goto C 41 dX5_feed_65 rfl ?_
      refine k_lv (lv' := [(0, kr Z 0), (1, .int x1), (3, .int (x3 + (-1 : Int32)))]) [1, 2, 0] rfl ?_
      exact ih x1 (x3 + (-1 : Int32)) s2  hf
set_option maxRecDepth 100000 in
theorem tX5_feed {Z : kZ} (C : kC Z cX5_feed RX5 4 rmX5_feed) {v1 : Int32} {v2 : Int32}  {st : kM} {res : Int32 × kM} (hf : fX5_feed v1 v2 st = some res) (K : kEnd Z (some .int) (some (.int res.1)) res.2) : kV Z 4 0 [(0, kr Z 0), (1, .int v1), (2, .int v2)] [] st := by
  unfold fX5_feed at hf
  refine k_iload_n C 2 dX5_feed_0 rfl rfl rfl ?_
  refine k_iconst C (1 : Int32) dX5_feed_1 (by decide) rfl ?_
  refine k_iconst C (4 : Int32) dX5_feed_2 (by decide) rfl ?_
  obtain ⟨q1, e2, hf⟩ := kf_b hf
  refine k_callS C [.int v2, .int (1 : Int32), .int (4 : Int32)] (mX5_isWithin e2) kw_1_189 kw_1_190 kw_1_1 kw_1_191 qX5_isWithin rfl ⟨by decide, by decide⟩ ⟨rfl, rfl⟩ (Nat.le_of_ble_eq_true rfl) dX5_feed_3 rfl ?_ rfl
  refine (show kV Z 4 6 [(0, kr Z 0), (1, .int v1), (2, .int v2)] [.int q1.1] q1.2 from ?_)
  refine k_if_ne C 16 dX5_feed_6 rfl rfl (fun b3 => ?_) (fun b3 => ?_)
  · replace hf := kf_f hf b3
    refine k_aload_n C 0 dX5_feed_16 rfl rfl rfl ?_
    refine g_X5_tape C rfl kw_1_164 dX5_feed_17 rfl ?_
    refine g_X2_length C rfl kw_1_105 dX5_feed_20 rfl ?_
    refine k_bipush C (120 : Int32) dX5_feed_23 (by decide) rfl ?_
    refine k_iload_n C 2 dX5_feed_25 rfl rfl rfl ?_
    refine k_isub C dX5_feed_26 rfl ?_
    refine k_icmp_le C 37 dX5_feed_27 rfl rfl (fun b4 => ?_) (fun b4 => ?_)
    · replace hf := kf_t hf b4
      refine k_iload_n C 2 dX5_feed_37 rfl rfl rfl ?_
      refine k_iconst C (1 : Int32) dX5_feed_38 (by decide) rfl ?_
      refine k_isub C dX5_feed_39 rfl ?_
      obtain ⟨z5, e6, hf⟩ := kf_b hf
      refine k_topi e6 ?_
      refine k_istore_n (lv' := [(3, .int z5), (0, kr Z 0), (1, .int v1), (2, .int v2)]) C dX5_feed_40 rfl (by decide) rfl rfl ?_
      refine k_lv (lv' := [(0, kr Z 0), (1, .int v1), (3, .int z5)]) [1, 2, 0] rfl ?_
      exact tX5_feed_41 C K _ v1 z5 q1.2 hf
    · replace hf := kf_f hf b4
      refine k_aload_n C 0 dX5_feed_30 rfl rfl rfl ?_
      refine k_ldc C (-1000000002 : Int32) kw_2_52 dX5_feed_31 rfl ?_
      obtain ⟨q7, e8, hf⟩ := kf_b hf
      refine k_callV C [.int (-1000000002 : Int32)] (mX5_tell e8) rfl (by decide) rfl kw_1_193 kw_1_195 kw_0_0 kw_1_1 kw_1_196 qX5_tell rfl ⟨by decide, by decide⟩ ⟨rfl, rfl⟩ (Nat.le_of_ble_eq_true rfl) dX5_feed_33 rfl ?_ rfl
      refine (show kV Z 4 36 [(0, kr Z 0), (1, .int v1), (2, .int v2)] [.int q7.1] q7.2 from ?_)
      exact k_iret C K hf dX5_feed_36
  · replace hf := kf_t hf b3
    refine k_aload_n C 0 dX5_feed_9 rfl rfl rfl ?_
    refine k_ldc C (-1000000001 : Int32) kw_1_192 dX5_feed_10 rfl ?_
    obtain ⟨q9, e10, hf⟩ := kf_b hf
    refine k_callV C [.int (-1000000001 : Int32)] (mX5_tell e10) rfl (by decide) rfl kw_1_193 kw_1_195 kw_0_0 kw_1_1 kw_1_196 qX5_tell rfl ⟨by decide, by decide⟩ ⟨rfl, rfl⟩ (Nat.le_of_ble_eq_true rfl) dX5_feed_12 rfl ?_ rfl
    refine (show kV Z 4 15 [(0, kr Z 0), (1, .int v1), (2, .int v2)] [.int q9.1] q9.2 from ?_)
    exact k_iret C K hf dX5_feed_15
theorem mX5_feed {G : kG} {v1 : Int32} {v2 : Int32}  {st : kM} {res : Int32 × kM} (hf : fX5_feed v1 v2 st = some res) : kCt G yX5_feed cX5_feed 4 (some .int) rmX5_feed [.ref (G.2.1 0), .int v1, .int v2] st (some (.int res.1)) res.2 := kMet (by decide) (Nat.le_of_ble_eq_true rfl) ⟨rfl, rfl⟩ (fun X A Q C K => tX5_feed C  hf K)
theorem qX5_feed : yX5_feed.cls = RX5 ∧ yX5_feed.cls ≠ "java/lang/invoke/MethodHandle" ∧ yX5_feed.cls ≠ "java/lang/invoke/VarHandle" ∧ (parseMethodDescriptor yX5_feed.desc).map (fun d => d.parameters.length) = some 2 := ⟨rfl, by decide, by decide, by decide +kernel⟩
-- TalkKnots.wipe()I
def rmX5_wipe : Room := { frames := 0, cells := 0, slots := 0, locals := 0 }
def fX5_wipe (st : kM) : Option (Int32 × kM) :=
  (some (st.1 46 1)).bind fun z1 => ((some (kwr st 46 1 (0 : Int32))).bind fun s3 => (some (z1, s3)))
set_option maxRecDepth 100000 in
theorem tX5_wipe {Z : kZ} (C : kC Z cX5_wipe RX5 2 rmX5_wipe)   {st : kM} {res : Int32 × kM} (hf : fX5_wipe st = some res) (K : kEnd Z (some .int) (some (.int res.1)) res.2) : kV Z 2 0 [(0, kr Z 0)] [] st := by
  unfold fX5_wipe at hf
  refine k_aload_n C 0 dX5_wipe_0 rfl rfl rfl ?_
  refine g_X5_tape C rfl kw_1_164 dX5_wipe_1 rfl ?_
  refine g_X2_length C rfl kw_1_105 dX5_wipe_4 rfl ?_
  obtain ⟨z1, e2, hf⟩ := kf_b hf
  refine k_topi e2 ?_
  refine k_istore_n (lv' := [(1, .int z1), (0, kr Z 0)]) C dX5_wipe_7 rfl (by decide) rfl rfl ?_
  refine k_aload_n C 1 dX5_wipe_8 rfl rfl rfl ?_
  refine g_X5_tape C rfl kw_1_164 dX5_wipe_9 rfl ?_
  refine k_iconst C (0 : Int32) dX5_wipe_12 (by decide) rfl ?_
  refine p_X2_length C rfl kw_1_105 dX5_wipe_13 rfl ?_
  obtain ⟨s3, e4, hf⟩ := kf_b hf
  refine k_st e4 ?_
  refine k_iload_n C 0 dX5_wipe_16 rfl rfl rfl ?_
  exact k_iret C K hf dX5_wipe_17
theorem mX5_wipe {G : kG}   {st : kM} {res : Int32 × kM} (hf : fX5_wipe st = some res) : kCt G yX5_wipe cX5_wipe 2 (some .int) rmX5_wipe [.ref (G.2.1 0)] st (some (.int res.1)) res.2 := kMet (by decide) (Nat.le_of_ble_eq_true rfl) ⟨rfl, rfl⟩ (fun X A Q C K => tX5_wipe C  hf K)
theorem qX5_wipe : yX5_wipe.cls = RX5 ∧ yX5_wipe.cls ≠ "java/lang/invoke/MethodHandle" ∧ yX5_wipe.cls ≠ "java/lang/invoke/VarHandle" ∧ (parseMethodDescriptor yX5_wipe.desc).map (fun d => d.parameters.length) = some 0 := ⟨rfl, by decide, by decide, by decide +kernel⟩
-- TalkKnots.yard()I
def rmX5_yard : Room := { frames := 9, cells := 0, slots := 0, locals := 191 }
def fX5_yard (st : kM) : Option (Int32 × kM) :=
  (fX4_become 16 1 st).bind fun s1 => ((fX3_readText s1).bind fun q3 => ((some (kwr q3.2 46 1 (0 : Int32))).bind fun s5 => (if q3.1 < 0 then (some (q3.1, s5)) else ((fX4_become 1 16 s5).bind fun s8 => (some (q3.1, s8))))))
set_option maxRecDepth 100000 in
theorem tX5_yard {Z : kZ} (C : kC Z cX5_yard RX5 2 rmX5_yard)   {st : kM} {res : Int32 × kM} (hf : fX5_yard st = some res) (K : kEnd Z (some .int) (some (.int res.1)) res.2) : kV Z 2 0 [(0, kr Z 0)] [] st := by
  unfold fX5_yard at hf
  refine k_aload_n C 0 dX5_yard_0 rfl rfl rfl ?_
  refine g_X5_trial C rfl kw_1_161 dX5_yard_1 rfl ?_
  refine k_aload_n C 0 dX5_yard_4 rfl rfl rfl ?_
  refine g_X5_present C rfl kw_1_160 dX5_yard_5 rfl ?_
  obtain ⟨s1, e2, hf⟩ := kf_b hf
  refine k_callV C [kr Z 1] (mX4_become yd_16 yd_1 e2) (yd_4 yd_16) (by decide) rfl kw_2_164 kw_2_165 kw_2_166 kw_1_2 kw_2_167 qX4_become rfl ⟨by decide, by decide⟩ ⟨rfl, rfl⟩ (Nat.le_of_ble_eq_true rfl) dX5_yard_8 rfl ?_ rfl
  refine (show kV Z 2 11 [(0, kr Z 0)] [] s1 from ?_)
  refine k_aload_n C 0 dX5_yard_11 rfl rfl rfl ?_
  refine g_X5_reader C rfl kw_1_165 dX5_yard_12 rfl ?_
  obtain ⟨q3, e4, hf⟩ := kf_b hf
  refine k_callV C [] (mX3_readText e4) rfl (by decide) rfl kw_3_14 kw_3_15 kw_3_16 kw_1_5 kw_3_17 qX3_readText rfl ⟨by decide, by decide⟩ ⟨rfl, rfl⟩ (Nat.le_of_ble_eq_true rfl) dX5_yard_15 rfl ?_ rfl
  refine (show kV Z 2 18 [(0, kr Z 0)] [.int q3.1] q3.2 from ?_)
  refine k_istore_n (lv' := [(1, .int q3.1), (0, kr Z 0)]) C dX5_yard_18 rfl (by decide) rfl rfl ?_
  refine k_aload_n C 1 dX5_yard_19 rfl rfl rfl ?_
  refine g_X5_tape C rfl kw_1_164 dX5_yard_20 rfl ?_
  refine k_iconst C (0 : Int32) dX5_yard_23 (by decide) rfl ?_
  refine p_X2_length C rfl kw_1_105 dX5_yard_24 rfl ?_
  obtain ⟨s5, e6, hf⟩ := kf_b hf
  refine k_st e6 ?_
  refine k_iload_n C 0 dX5_yard_27 rfl rfl rfl ?_
  refine k_if_lt C 42 dX5_yard_28 rfl rfl (fun b7 => ?_) (fun b7 => ?_)
  · replace hf := kf_t hf b7
    refine k_iload_n C 0 dX5_yard_42 rfl rfl rfl ?_
    exact k_iret C K hf dX5_yard_43
  · replace hf := kf_f hf b7
    refine k_aload_n C 1 dX5_yard_31 rfl rfl rfl ?_
    refine g_X5_present C rfl kw_1_160 dX5_yard_32 rfl ?_
    refine k_aload_n C 1 dX5_yard_35 rfl rfl rfl ?_
    refine g_X5_trial C rfl kw_1_161 dX5_yard_36 rfl ?_
    obtain ⟨s8, e9, hf⟩ := kf_b hf
    refine k_callV C [kr Z 16] (mX4_become yd_1 yd_16 e9) (yd_4 yd_1) (by decide) rfl kw_2_164 kw_2_165 kw_2_166 kw_1_2 kw_2_167 qX4_become rfl ⟨by decide, by decide⟩ ⟨rfl, rfl⟩ (Nat.le_of_ble_eq_true rfl) dX5_yard_39 rfl ?_ rfl
    refine (show kV Z 2 42 [(1, .int q3.1), (0, kr Z 0)] [] s8 from ?_)
    refine k_iload_n C 0 dX5_yard_42 rfl rfl rfl ?_
    exact k_iret C K hf dX5_yard_43
theorem mX5_yard {G : kG}   {st : kM} {res : Int32 × kM} (hf : fX5_yard st = some res) : kCt G yX5_yard cX5_yard 2 (some .int) rmX5_yard [.ref (G.2.1 0)] st (some (.int res.1)) res.2 := kMet (by decide) (Nat.le_of_ble_eq_true rfl) ⟨rfl, rfl⟩ (fun X A Q C K => tX5_yard C  hf K)
theorem qX5_yard : yX5_yard.cls = RX5 ∧ yX5_yard.cls ≠ "java/lang/invoke/MethodHandle" ∧ yX5_yard.cls ≠ "java/lang/invoke/VarHandle" ∧ (parseMethodDescriptor yX5_yard.desc).map (fun d => d.parameters.length) = some 0 := ⟨rfl, by decide, by decide, by decide +kernel⟩
-- TalkKnots.isSheet(I)Z
def rmX5_isSheet : Room := { frames := 1, cells := 0, slots := 0, locals := 22 }
def fX5_isSheet (v0 : Int32) (st : kM) : Option (Int32 × kM) :=
  (fX5_isWithin v0 (0 : Int32) (3 : Int32) st).bind fun q1 => (if q1.1 = 0 ∨ q1.1 = 1 then some (q1.1, q1.2) else none)
set_option maxRecDepth 100000 in
theorem tX5_isSheet {Z : kZ} (C : kC Z cX5_isSheet RX5 1 rmX5_isSheet) {v0 : Int32}  {st : kM} {res : Int32 × kM} (hf : fX5_isSheet v0 st = some res) (K : kEnd Z (some .boolean) (some (.int res.1)) res.2) : kV Z 1 0 [(0, .int v0)] [] st := by
  unfold fX5_isSheet at hf
  refine k_iload_n C 0 dX5_isSheet_0 rfl rfl rfl ?_
  refine k_iconst C (0 : Int32) dX5_isSheet_1 (by decide) rfl ?_
  refine k_iconst C (3 : Int32) dX5_isSheet_2 (by decide) rfl ?_
  obtain ⟨q1, e2, hf⟩ := kf_b hf
  refine k_callS C [.int v0, .int (0 : Int32), .int (3 : Int32)] (mX5_isWithin e2) kw_1_189 kw_1_190 kw_1_1 kw_1_191 qX5_isWithin rfl ⟨by decide, by decide⟩ ⟨rfl, rfl⟩ (Nat.le_of_ble_eq_true rfl) dX5_isSheet_3 rfl ?_ rfl
  refine (show kV Z 1 6 [(0, .int v0)] [.int q1.1] q1.2 from ?_)
  obtain ⟨g0, hf⟩ := kf_y hf
  exact k_zret C K hf (kb_n g0) dX5_isSheet_6
theorem mX5_isSheet {G : kG} {v0 : Int32}  {st : kM} {res : Int32 × kM} (hf : fX5_isSheet v0 st = some res) : kCt G yX5_isSheet cX5_isSheet 1 (some .boolean) rmX5_isSheet [.int v0] st (some (.int res.1)) res.2 := kMet (by decide) (Nat.le_of_ble_eq_true rfl) ⟨rfl, rfl⟩ (fun X A Q C K => tX5_isSheet C  hf K)
theorem qX5_isSheet : yX5_isSheet.cls ≠ "java/lang/invoke/MethodHandle" ∧ yX5_isSheet.cls ≠ "java/lang/invoke/VarHandle" ∧ (parseMethodDescriptor yX5_isSheet.desc).map (fun d => d.parameters.length) = some 1 := ⟨by decide, by decide, by decide +kernel⟩
-- TalkKnots.isSheetBits(I)Z
def rmX5_isSheetBits : Room := { frames := 0, cells := 0, slots := 0, locals := 0 }
def fX5_isSheetBits (v0 : Int32) (st : kM) : Option (Int32 × kM) :=
  if v0 = 0 then (some ((1 : Int32), st)) else (if v0 = (8 : Int32) then (some ((1 : Int32), st)) else (if v0 = (16 : Int32) then (some ((1 : Int32), st)) else (if v0 = (64 : Int32) then (some ((1 : Int32), st)) else (some ((0 : Int32), st)))))
set_option maxRecDepth 100000 in
theorem tX5_isSheetBits {Z : kZ} (C : kC Z cX5_isSheetBits RX5 1 rmX5_isSheetBits) {v0 : Int32}  {st : kM} {res : Int32 × kM} (hf : fX5_isSheetBits v0 st = some res) (K : kEnd Z (some .boolean) (some (.int res.1)) res.2) : kV Z 1 0 [(0, .int v0)] [] st := by
  unfold fX5_isSheetBits at hf
  refine k_iload_n C 0 dX5_isSheetBits_0 rfl rfl rfl ?_
  refine k_if_eq C 22 dX5_isSheetBits_1 rfl rfl (fun b1 => ?_) (fun b1 => ?_)
  · replace hf := kf_t hf b1
    refine k_iconst C (1 : Int32) dX5_isSheetBits_22 (by decide) rfl ?_
    refine k_goto C 27 dX5_isSheetBits_23 rfl ?_
    exact k_zret C K hf rfl dX5_isSheetBits_27
  · replace hf := kf_f hf b1
    refine k_iload_n C 0 dX5_isSheetBits_4 rfl rfl rfl ?_
    refine k_bipush C (8 : Int32) dX5_isSheetBits_5 (by decide) rfl ?_
    refine k_icmp_eq C 22 dX5_isSheetBits_7 rfl rfl (fun b2 => ?_) (fun b2 => ?_)
    · replace hf := kf_t hf b2
      refine k_iconst C (1 : Int32) dX5_isSheetBits_22 (by decide) rfl ?_
      refine k_goto C 27 dX5_isSheetBits_23 rfl ?_
      exact k_zret C K hf rfl dX5_isSheetBits_27
    · replace hf := kf_f hf b2
      refine k_iload_n C 0 dX5_isSheetBits_10 rfl rfl rfl ?_
      refine k_bipush C (16 : Int32) dX5_isSheetBits_11 (by decide) rfl ?_
      refine k_icmp_eq C 22 dX5_isSheetBits_13 rfl rfl (fun b3 => ?_) (fun b3 => ?_)
      · replace hf := kf_t hf b3
        refine k_iconst C (1 : Int32) dX5_isSheetBits_22 (by decide) rfl ?_
        refine k_goto C 27 dX5_isSheetBits_23 rfl ?_
        exact k_zret C K hf rfl dX5_isSheetBits_27
      · replace hf := kf_f hf b3
        refine k_iload_n C 0 dX5_isSheetBits_16 rfl rfl rfl ?_
        refine k_bipush C (64 : Int32) dX5_isSheetBits_17 (by decide) rfl ?_
        refine k_icmp_ne C 26 dX5_isSheetBits_19 rfl rfl (fun b4 => ?_) (fun b4 => ?_)
        · replace hf := kf_f hf b4
          refine k_iconst C (0 : Int32) dX5_isSheetBits_26 (by decide) rfl ?_
          exact k_zret C K hf rfl dX5_isSheetBits_27
        · replace hf := kf_t hf b4
          refine k_iconst C (1 : Int32) dX5_isSheetBits_22 (by decide) rfl ?_
          refine k_goto C 27 dX5_isSheetBits_23 rfl ?_
          exact k_zret C K hf rfl dX5_isSheetBits_27
theorem mX5_isSheetBits {G : kG} {v0 : Int32}  {st : kM} {res : Int32 × kM} (hf : fX5_isSheetBits v0 st = some res) : kCt G yX5_isSheetBits cX5_isSheetBits 1 (some .boolean) rmX5_isSheetBits [.int v0] st (some (.int res.1)) res.2 := kMet (by decide) (Nat.le_of_ble_eq_true rfl) ⟨rfl, rfl⟩ (fun X A Q C K => tX5_isSheetBits C  hf K)
theorem qX5_isSheetBits : yX5_isSheetBits.cls ≠ "java/lang/invoke/MethodHandle" ∧ yX5_isSheetBits.cls ≠ "java/lang/invoke/VarHandle" ∧ (parseMethodDescriptor yX5_isSheetBits.desc).map (fun d => d.parameters.length) = some 1 := ⟨by decide, by decide, by decide +kernel⟩
-- TalkKnots.sheet(III)I
def rmX5_sheet : Room := { frames := 2, cells := 0, slots := 0, locals := 44 }
def fX5_sheet (v1 : Int32) (v2 : Int32) (v3 : Int32) (st : kM) : Option (Int32 × kM) :=
  (fX5_isSheet v1 st).bind fun q1 => (if q1.1 = 0 then ((fX5_tell (-1000000001 : Int32) q1.2).bind fun q4 => (some (q4.1, q4.2))) else ((fX5_isSheetBits v2 q1.2).bind fun q6 => (if q6.1 = 0 then ((fX5_tell (-1000000001 : Int32) q6.2).bind fun q22 => (some (q22.1, q22.2))) else (if 0 ≤ v3 then (if v3 ≤ (40 : Int32) then (if v2 = 0 then (if v1 < 0 ∨ 4 ≤ v1.toNatClampNeg then none else ((fX1_begin (51 + 2 * v1.toNatClampNeg) v2 (0 : Int32) q6.2).bind fun s16 => (some ((0 : Int32), s16)))) else (if v1 < 0 ∨ 4 ≤ v1.toNatClampNeg then none else ((fX1_begin (51 + 2 * v1.toNatClampNeg) v2 v3 q6.2).bind fun s13 => (some (v3, s13))))) else ((fX5_tell (-1000000001 : Int32) q6.2).bind fun q18 => (some (q18.1, q18.2)))) else ((fX5_tell (-1000000007 : Int32) q6.2).bind fun q20 => (some (q20.1, q20.2)))))))
set_option maxRecDepth 100000 in
theorem tX5_sheet {Z : kZ} (C : kC Z cX5_sheet RX5 5 rmX5_sheet) {v1 : Int32} {v2 : Int32} {v3 : Int32}  {st : kM} {res : Int32 × kM} (hf : fX5_sheet v1 v2 v3 st = some res) (K : kEnd Z (some .int) (some (.int res.1)) res.2) : kV Z 5 0 [(0, kr Z 0), (1, .int v1), (2, .int v2), (3, .int v3)] [] st := by
  unfold fX5_sheet at hf
  refine k_iload_n C 1 dX5_sheet_0 rfl rfl rfl ?_
  obtain ⟨q1, e2, hf⟩ := kf_b hf
  refine k_callS C [.int v1] (mX5_isSheet e2) kw_3_141 kw_3_142 kw_1_1 kw_3_143 qX5_isSheet rfl ⟨by decide, by decide⟩ ⟨rfl, rfl⟩ (Nat.le_of_ble_eq_true rfl) dX5_sheet_1 rfl ?_ rfl
  refine (show kV Z 5 4 [(0, kr Z 0), (1, .int v1), (2, .int v2), (3, .int v3)] [.int q1.1] q1.2 from ?_)
  refine k_if_eq C 14 dX5_sheet_4 rfl rfl (fun b3 => ?_) (fun b3 => ?_)
  · replace hf := kf_t hf b3
    refine k_aload_n C 0 dX5_sheet_14 rfl rfl rfl ?_
    refine k_ldc C (-1000000001 : Int32) kw_1_192 dX5_sheet_15 rfl ?_
    obtain ⟨q4, e5, hf⟩ := kf_b hf
    refine k_callV C [.int (-1000000001 : Int32)] (mX5_tell e5) rfl (by decide) rfl kw_1_193 kw_1_195 kw_0_0 kw_1_1 kw_1_196 qX5_tell rfl ⟨by decide, by decide⟩ ⟨rfl, rfl⟩ (Nat.le_of_ble_eq_true rfl) dX5_sheet_17 rfl ?_ rfl
    refine (show kV Z 5 20 [(0, kr Z 0), (1, .int v1), (2, .int v2), (3, .int v3)] [.int q4.1] q4.2 from ?_)
    exact k_iret C K hf dX5_sheet_20
  · replace hf := kf_f hf b3
    refine k_iload_n C 2 dX5_sheet_7 rfl rfl rfl ?_
    obtain ⟨q6, e7, hf⟩ := kf_b hf
    refine k_callS C [.int v2] (mX5_isSheetBits e7) kw_3_144 kw_3_145 kw_1_1 kw_3_146 qX5_isSheetBits rfl ⟨by decide, by decide⟩ ⟨rfl, rfl⟩ (Nat.le_of_ble_eq_true rfl) dX5_sheet_8 rfl ?_ rfl
    refine (show kV Z 5 11 [(0, kr Z 0), (1, .int v1), (2, .int v2), (3, .int v3)] [.int q6.1] q6.2 from ?_)
    refine k_if_ne C 21 dX5_sheet_11 rfl rfl (fun b8 => ?_) (fun b8 => ?_)
    · replace hf := kf_f hf b8
      refine k_iload_n C 3 dX5_sheet_21 rfl rfl rfl ?_
      refine k_if_ge C 32 dX5_sheet_22 rfl rfl (fun b9 => ?_) (fun b9 => ?_)
      · replace hf := kf_t hf b9
        refine k_iload_n C 3 dX5_sheet_32 rfl rfl rfl ?_
        refine k_bipush C (40 : Int32) dX5_sheet_33 (by decide) rfl ?_
        refine k_icmp_le C 45 dX5_sheet_35 rfl rfl (fun b10 => ?_) (fun b10 => ?_)
        · replace hf := kf_t hf b10
          refine k_iload_n C 2 dX5_sheet_45 rfl rfl rfl ?_
          refine k_if_ne C 53 dX5_sheet_46 rfl rfl (fun b11 => ?_) (fun b11 => ?_)
          · replace hf := kf_f hf b11
            refine k_iload_n C 3 dX5_sheet_53 rfl rfl rfl ?_
            refine k_istore (lv' := [(4, .int v3), (0, kr Z 0), (1, .int v1), (2, .int v2), (3, .int v3)]) C dX5_sheet_54 (by decide) rfl rfl ?_
            refine k_aload_n C 1 dX5_sheet_56 rfl rfl rfl ?_
            refine g_X5_sheets C rfl kw_1_166 dX5_sheet_57 rfl ?_
            refine k_iload_n C 2 dX5_sheet_60 rfl rfl rfl ?_
            obtain ⟨g12, hf⟩ := kf_g hf
            refine k_aldS C g12 dX5_sheet_61 rfl ?_
            refine k_iload_n C 3 dX5_sheet_62 rfl rfl rfl ?_
            refine k_iload C 0 dX5_sheet_63 rfl rfl ?_
            obtain ⟨s13, e14, hf⟩ := kf_b hf
            refine k_callV C [.int v2, .int v3] (mX1_begin (sd_of (vi_lt g12)) e14) (sd_1 (sd_of (vi_lt g12))) (by decide) rfl kw_3_148 kw_3_149 kw_3_150 kw_1_6 kw_3_151 qX1_begin rfl ⟨by decide, by decide⟩ ⟨rfl, rfl⟩ (Nat.le_of_ble_eq_true rfl) dX5_sheet_65 rfl ?_ rfl
            refine (show kV Z 5 68 [(4, .int v3), (0, kr Z 0), (1, .int v1), (2, .int v2), (3, .int v3)] [] s13 from ?_)
            refine k_iload C 0 dX5_sheet_68 rfl rfl ?_
            exact k_iret C K hf dX5_sheet_70
          · replace hf := kf_t hf b11
            refine k_iconst C (0 : Int32) dX5_sheet_49 (by decide) rfl ?_
            refine k_goto C 54 dX5_sheet_50 rfl ?_
            refine k_istore (lv' := [(4, .int (0 : Int32)), (0, kr Z 0), (1, .int v1), (2, .int v2), (3, .int v3)]) C dX5_sheet_54 (by decide) rfl rfl ?_
            refine k_aload_n C 1 dX5_sheet_56 rfl rfl rfl ?_
            refine g_X5_sheets C rfl kw_1_166 dX5_sheet_57 rfl ?_
            refine k_iload_n C 2 dX5_sheet_60 rfl rfl rfl ?_
            obtain ⟨g15, hf⟩ := kf_g hf
            refine k_aldS C g15 dX5_sheet_61 rfl ?_
            refine k_iload_n C 3 dX5_sheet_62 rfl rfl rfl ?_
            refine k_iload C 0 dX5_sheet_63 rfl rfl ?_
            obtain ⟨s16, e17, hf⟩ := kf_b hf
            refine k_callV C [.int v2, .int (0 : Int32)] (mX1_begin (sd_of (vi_lt g15)) e17) (sd_1 (sd_of (vi_lt g15))) (by decide) rfl kw_3_148 kw_3_149 kw_3_150 kw_1_6 kw_3_151 qX1_begin rfl ⟨by decide, by decide⟩ ⟨rfl, rfl⟩ (Nat.le_of_ble_eq_true rfl) dX5_sheet_65 rfl ?_ rfl
            refine (show kV Z 5 68 [(4, .int (0 : Int32)), (0, kr Z 0), (1, .int v1), (2, .int v2), (3, .int v3)] [] s16 from ?_)
            refine k_iload C 0 dX5_sheet_68 rfl rfl ?_
            exact k_iret C K hf dX5_sheet_70
        · replace hf := kf_f hf b10
          refine k_aload_n C 0 dX5_sheet_38 rfl rfl rfl ?_
          refine k_ldc C (-1000000001 : Int32) kw_1_192 dX5_sheet_39 rfl ?_
          obtain ⟨q18, e19, hf⟩ := kf_b hf
          refine k_callV C [.int (-1000000001 : Int32)] (mX5_tell e19) rfl (by decide) rfl kw_1_193 kw_1_195 kw_0_0 kw_1_1 kw_1_196 qX5_tell rfl ⟨by decide, by decide⟩ ⟨rfl, rfl⟩ (Nat.le_of_ble_eq_true rfl) dX5_sheet_41 rfl ?_ rfl
          refine (show kV Z 5 44 [(0, kr Z 0), (1, .int v1), (2, .int v2), (3, .int v3)] [.int q18.1] q18.2 from ?_)
          exact k_iret C K hf dX5_sheet_44
      · replace hf := kf_f hf b9
        refine k_aload_n C 0 dX5_sheet_25 rfl rfl rfl ?_
        refine k_ldc C (-1000000007 : Int32) kw_3_147 dX5_sheet_26 rfl ?_
        obtain ⟨q20, e21, hf⟩ := kf_b hf
        refine k_callV C [.int (-1000000007 : Int32)] (mX5_tell e21) rfl (by decide) rfl kw_1_193 kw_1_195 kw_0_0 kw_1_1 kw_1_196 qX5_tell rfl ⟨by decide, by decide⟩ ⟨rfl, rfl⟩ (Nat.le_of_ble_eq_true rfl) dX5_sheet_28 rfl ?_ rfl
        refine (show kV Z 5 31 [(0, kr Z 0), (1, .int v1), (2, .int v2), (3, .int v3)] [.int q20.1] q20.2 from ?_)
        exact k_iret C K hf dX5_sheet_31
    · replace hf := kf_t hf b8
      refine k_aload_n C 0 dX5_sheet_14 rfl rfl rfl ?_
      refine k_ldc C (-1000000001 : Int32) kw_1_192 dX5_sheet_15 rfl ?_
      obtain ⟨q22, e23, hf⟩ := kf_b hf
      refine k_callV C [.int (-1000000001 : Int32)] (mX5_tell e23) rfl (by decide) rfl kw_1_193 kw_1_195 kw_0_0 kw_1_1 kw_1_196 qX5_tell rfl ⟨by decide, by decide⟩ ⟨rfl, rfl⟩ (Nat.le_of_ble_eq_true rfl) dX5_sheet_17 rfl ?_ rfl
      refine (show kV Z 5 20 [(0, kr Z 0), (1, .int v1), (2, .int v2), (3, .int v3)] [.int q22.1] q22.2 from ?_)
      exact k_iret C K hf dX5_sheet_20
theorem mX5_sheet {G : kG} {v1 : Int32} {v2 : Int32} {v3 : Int32}  {st : kM} {res : Int32 × kM} (hf : fX5_sheet v1 v2 v3 st = some res) : kCt G yX5_sheet cX5_sheet 5 (some .int) rmX5_sheet [.ref (G.2.1 0), .int v1, .int v2, .int v3] st (some (.int res.1)) res.2 := kMet (by decide) (Nat.le_of_ble_eq_true rfl) ⟨rfl, rfl⟩ (fun X A Q C K => tX5_sheet C  hf K)
theorem qX5_sheet : yX5_sheet.cls = RX5 ∧ yX5_sheet.cls ≠ "java/lang/invoke/MethodHandle" ∧ yX5_sheet.cls ≠ "java/lang/invoke/VarHandle" ∧ (parseMethodDescriptor yX5_sheet.desc).map (fun d => d.parameters.length) = some 3 := ⟨rfl, by decide, by decide, by decide +kernel⟩
