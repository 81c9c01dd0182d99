-- TalkKnotsModel.lays(I)I
def rmX6_lays : Room := { frames := 3, cells := 0, slots := 0, locals := 63 }
def fX6_lays_21 : Nat → Int32 → Int32 → Int32 → kM → Option (Int32 × kM)
  | 0, _, _, _, _ => none
  | n + 1, x1, x3, x4, st =>
    if x1 < 0 ∨ 4 ≤ x1.toNatClampNeg then none else (if (st.1 66 x1.toNatClampNeg) ≤ x4 then (some (x3, st)) else (if (12 : Int32) ≤ x4 then (some (x3, st)) else (if (((40 : Int32) * x1) + x4) < 0 ∨ 160 ≤ (((40 : Int32) * x1) + x4).toNatClampNeg then none else ((some (st.2 67 ((((40 : Int32) * x1) + x4).toNatClampNeg))).bind fun z5 => (if (lg_cmp z5 (0 : Int64)) < 0 then (fX6_lays_21 n x1 x3 (x4 + (1 : Int32)) st) else (if 0 < (lg_cmp z5 (99 : Int64)) then (fX6_lays_21 n x1 x3 (x4 + (1 : Int32)) st) else (if ((2 : Int32) + x4) < 0 ∨ 72 ≤ ((2 : Int32) + x4).toNatClampNeg then none else ((some (kwr st 60 (((2 : Int32) + x4).toNatClampNeg) (z5.toInt32))).bind fun s10 => (fX6_lays_21 n x1 (x3 + (1 : Int32)) (x4 + (1 : Int32)) s10)))))))))
def fX6_lays (v1 : Int32) (st : kM) : Option (Int32 × kM) :=
  (fX6_badSheet v1 st).bind fun q1 => (if q1.1 = 0 then (fX6_lays_21 kfu v1 (0 : Int32) (0 : Int32) q1.2) else ((fX6_finds q1.1 q1.2).bind fun q4 => (some (q4.1, q4.2))))
set_option maxRecDepth 100000 in
theorem tX6_lays_21 {Z : kZ} (C : kC Z cX6_lays RX6 7 rmX6_lays) {res : Int32 × kM} (K : kEnd Z (some .int) (some (.int res.1)) res.2) : ∀ (n : Nat) (x1 : Int32) (x3 : Int32) (x4 : Int32) (st : kM), fX6_lays_21 n x1 x3 x4 st = some res → kV Z 7 21 [(0, kr Z 59), (1, .int x1), (3, .int x3), (4, .int x4)] [] st := by
  intro n
  induction n with
  | zero => intro x1 x3 x4 st hf; cases hf
  | succ n ih =>
    intro x1 x3 x4 st hf
    unfold fX6_lays_21 at hf
    refine k_iload C 3 dX6_lays_21 rfl rfl ?_
    refine k_aload_n C 0 dX6_lays_23 rfl rfl rfl ?_
    refine g_X6_sizeOf C rfl kw_4_11 dX6_lays_24 rfl ?_
    refine k_iload_n C 1 dX6_lays_27 rfl rfl rfl ?_
    obtain ⟨g1, hf⟩ := kf_g hf
    refine k_iald (j := x1.toNatClampNeg) C ⟨rfl, rfl⟩ g1 rfl dX6_lays_28 rfl ?_
    refine k_icmp_ge C 90 dX6_lays_29 rfl rfl (fun b2 => ?_) (fun b2 => ?_)
    · replace hf := kf_t hf b2
      refine k_iload_n C 2 dX6_lays_90 rfl rfl rfl ?_
      exact k_iret C K hf dX6_lays_91
    · replace hf := kf_f hf b2
      refine k_iload C 3 dX6_lays_32 rfl rfl ?_
      refine k_bipush C (12 : Int32) dX6_lays_34 (by decide) rfl ?_
      refine k_icmp_ge C 90 dX6_lays_36 rfl rfl (fun b3 => ?_) (fun b3 => ?_)
      · replace hf := kf_t hf b3
        refine k_iload_n C 2 dX6_lays_90 rfl rfl rfl ?_
        exact k_iret C K hf dX6_lays_91
      · replace hf := kf_f hf b3
        refine k_aload_n C 0 dX6_lays_39 rfl rfl rfl ?_
        refine g_X6_sheets C rfl kw_4_12 dX6_lays_40 rfl ?_
        refine k_bipush C (40 : Int32) dX6_lays_43 (by decide) rfl ?_
        refine k_iload_n C 1 dX6_lays_45 rfl rfl rfl ?_
        refine k_imul C dX6_lays_46 rfl ?_
        refine k_iload C 3 dX6_lays_47 rfl rfl ?_
        refine k_iadd C dX6_lays_49 rfl ?_
        obtain ⟨g4, hf⟩ := kf_g hf
        refine k_lald (j := (((40 : Int32) * x1) + x4).toNatClampNeg) C ⟨rfl, rfl⟩ g4 rfl dX6_lays_50 rfl ?_
        obtain ⟨z5, e6, hf⟩ := kf_b hf
        refine k_topl e6 ?_
        refine k_lstore (lv' := [(5, .long z5), (0, kr Z 59), (1, .int x1), (3, .int x3), (4, .int x4)]) C dX6_lays_51 (by decide) rfl rfl ?_
        refine k_lload C 0 dX6_lays_53 rfl rfl ?_
        refine k_lconst C (0 : Int64) dX6_lays_55 (by decide) rfl ?_
        refine k_lcmp C dX6_lays_56 rfl ?_
        refine k_if_lt C 84 dX6_lays_57 rfl rfl (fun b7 => ?_) (fun b7 => ?_)
        · replace hf := kf_t hf b7
          refine k_iinc (lv' := [(4, .int (x4 + (1 : Int32))), (5, .long z5), (0, kr Z 59), (1, .int x1), (3, .int x3)]) C (x4 + (1 : Int32)) 4 dX6_lays_84 rfl rfl (by decide) rfl rfl ?_
          refine k_goto C 21 dX6_lays_87 rfl ?_
          refine k_lv (lv' := [(0, kr Z 59), (1, .int x1), (3, .int x3), (4, .int (x4 + (1 : Int32)))]) [2, 3, 4, 0] rfl ?_
          exact ih x1 x3 (x4 + (1 : Int32)) st  hf
        · replace hf := kf_f hf b7
          refine k_lload C 0 dX6_lays_60 rfl rfl ?_
          refine k_ldc2 C (99 : Int64) kw_5_149 dX6_lays_62 rfl ?_
          refine k_lcmp C dX6_lays_65 rfl ?_
          refine k_if_gt C 84 dX6_lays_66 rfl rfl (fun b8 => ?_) (fun b8 => ?_)
          · replace hf := kf_t hf b8
            refine k_iinc (lv' := [(4, .int (x4 + (1 : Int32))), (5, .long z5), (0, kr Z 59), (1, .int x1), (3, .int x3)]) C (x4 + (1 : Int32)) 4 dX6_lays_84 rfl rfl (by decide) rfl rfl ?_
            refine k_goto C 21 dX6_lays_87 rfl ?_
            refine k_lv (lv' := [(0, kr Z 59), (1, .int x1), (3, .int x3), (4, .int (x4 + (1 : Int32)))]) [2, 3, 4, 0] rfl ?_
            exact ih x1 x3 (x4 + (1 : Int32)) st  hf
          · replace hf := kf_f hf b8
            refine k_aload_n C 1 dX6_lays_69 rfl rfl rfl ?_
            refine g_X6_row C rfl kw_3_238 dX6_lays_70 rfl ?_
            refine k_iconst C (2 : Int32) dX6_lays_73 (by decide) rfl ?_
            refine k_iload C 4 dX6_lays_74 rfl rfl ?_
            refine k_iadd C dX6_lays_76 rfl ?_
            refine k_lload C 0 dX6_lays_77 rfl rfl ?_
            refine k_l2i C dX6_lays_79 rfl ?_
            obtain ⟨g9, hf⟩ := kf_g hf
            refine k_iast (j := ((2 : Int32) + x4).toNatClampNeg) C ⟨rfl, rfl⟩ g9 rfl dX6_lays_80 rfl ?_
            obtain ⟨s10, e11, hf⟩ := kf_b hf
            refine k_st e11 ?_
            refine k_iinc (lv' := [(3, .int (x3 + (1 : Int32))), (5, .long z5), (0, kr Z 59), (1, .int x1), (4, .int x4)]) C (x3 + (1 : Int32)) 3 dX6_lays_81 rfl rfl (by decide) rfl rfl ?_
            refine k_iinc (lv' := [(4, .int (x4 + (1 : Int32))), (3, .int (x3 + (1 : Int32))), (5, .long z5), (0, kr Z 59), (1, .int x1)]) C (x4 + (1 : Int32)) 4 dX6_lays_84 rfl rfl (by decide) rfl rfl ?_
            refine k_goto C 21 dX6_lays_87 rfl ?_
            refine k_lv (lv' := [(0, kr Z 59), (1, .int x1), (3, .int (x3 + (1 : Int32))), (4, .int (x4 + (1 : Int32)))]) [3, 4, 1, 0] rfl ?_
            exact ih x1 (x3 + (1 : Int32)) (x4 + (1 : Int32)) s10  hf
set_option maxRecDepth 100000 in
theorem tX6_lays {Z : kZ} (C : kC Z cX6_lays RX6 7 rmX6_lays) {v1 : Int32}  {st : kM} {res : Int32 × kM} (hf : fX6_lays v1 st = some res) (K : kEnd Z (some .int) (some (.int res.1)) res.2) : kV Z 7 0 [(0, kr Z 59), (1, .int v1)] [] st := by
  unfold fX6_lays at hf
  refine k_aload_n C 0 dX6_lays_0 rfl rfl rfl ?_
  refine k_iload_n C 1 dX6_lays_1 rfl rfl rfl ?_
  obtain ⟨q1, e2, hf⟩ := kf_b hf
  refine k_callV C [.int v1] (mX6_badSheet e2) rfl (by decide) rfl kw_5_145 kw_5_147 kw_0_60 kw_1_7 kw_5_148 qX6_badSheet rfl ⟨by decide, by decide⟩ ⟨rfl, rfl⟩ (Nat.le_of_ble_eq_true rfl) dX6_lays_2 rfl ?_ rfl
  refine (show kV Z 7 5 [(0, kr Z 59), (1, .int v1)] [.int q1.1] q1.2 from ?_)
  refine k_istore_n (lv' := [(2, .int q1.1), (0, kr Z 59), (1, .int v1)]) C dX6_lays_5 rfl (by decide) rfl rfl ?_
  refine k_iload_n C 0 dX6_lays_6 rfl rfl rfl ?_
  refine k_if_eq C 16 dX6_lays_7 rfl rfl (fun b3 => ?_) (fun b3 => ?_)
  · replace hf := kf_t hf b3
    refine k_iconst C (0 : Int32) dX6_lays_16 (by decide) rfl ?_
    refine k_istore_n (lv' := [(3, .int (0 : Int32)), (2, .int q1.1), (0, kr Z 59), (1, .int v1)]) C dX6_lays_17 rfl (by decide) rfl rfl ?_
    refine k_iconst C (0 : Int32) dX6_lays_18 (by decide) rfl ?_
    refine k_istore (lv' := [(4, .int (0 : Int32)), (3, .int (0 : Int32)), (2, .int q1.1), (0, kr Z 59), (1, .int v1)]) C dX6_lays_19 (by decide) rfl rfl ?_
    refine k_lv (lv' := [(0, kr Z 59), (1, .int v1), (3, .int (0 : Int32)), (4, .int (0 : Int32))]) [3, 4, 1, 0] rfl ?_
    exact tX6_lays_21 C K _ v1 (0 : Int32) (0 : Int32) q1.2 hf
  · replace hf := kf_f hf b3
    refine k_aload_n C 1 dX6_lays_10 rfl rfl rfl ?_
    refine k_iload_n C 0 dX6_lays_11 rfl rfl rfl ?_
    obtain ⟨q4, e5, hf⟩ := kf_b hf
    refine k_callV C [.int q1.1] (mX6_finds e5) rfl (by decide) rfl kw_4_68 kw_4_70 kw_0_24 kw_1_7 kw_4_71 qX6_finds rfl ⟨by decide, by decide⟩ ⟨rfl, rfl⟩ (Nat.le_of_ble_eq_true rfl) dX6_lays_12 rfl ?_ rfl
    refine (show kV Z 7 15 [(2, .int q1.1), (0, kr Z 59), (1, .int v1)] [.int q4.1] q4.2 from ?_)
    exact k_iret C K hf dX6_lays_15
theorem mX6_lays {G : kG} {v1 : Int32}  {st : kM} {res : Int32 × kM} (hf : fX6_lays v1 st = some res) : kCt G yX6_lays cX6_lays 7 (some .int) rmX6_lays [.ref (G.2.1 59), .int v1] st (some (.int res.1)) res.2 := kMet (by decide) (Nat.le_of_ble_eq_true rfl) ⟨rfl, rfl⟩ (fun X A Q C K => tX6_lays C  hf K)
theorem qX6_lays : yX6_lays.cls = RX6 ∧ yX6_lays.cls ≠ "java/lang/invoke/MethodHandle" ∧ yX6_lays.cls ≠ "java/lang/invoke/VarHandle" ∧ (parseMethodDescriptor yX6_lays.desc).map (fun d => d.parameters.length) = some 1 := ⟨rfl, by decide, by decide, by decide +kernel⟩
-- TalkKnotsModel.book(II)I
def rmX6_book : Room := { frames := 6, cells := 0, slots := 0, locals := 138 }
def fX6_book_43 : Nat → Int32 → Int32 → Int32 → kM → Option (Int32 × kM)
  | 0, _, _, _, _ => none
  | n + 1, x1, x2, x4, st =>
    if x1 < 0 ∨ 4 ≤ x1.toNatClampNeg then none else (if (st.1 66 x1.toNatClampNeg) ≤ x4 then ((fX6_moveAll (0 : Int32) 62 st).bind fun s3 => (some ((s3.1 66 x1.toNatClampNeg), s3))) else ((fX6_its x2 (2 : Int32) st).bind fun q5 => (if (((40 : Int32) * x1) + x4) < 0 ∨ 160 ≤ (((40 : Int32) * x1) + x4).toNatClampNeg then none else ((some (kwl q5.2 67 ((((40 : Int32) * x1) + x4).toNatClampNeg) (q5.1.toInt64))).bind fun s8 => ((fX6_oneHour s8).bind fun s10 => (fX6_book_43 n x1 x2 (x4 + (1 : Int32)) s10))))))
def fX6_book (v1 : Int32) (v2 : Int32) (st : kM) : Option (Int32 × kM) :=
  (fX6_badSheet v1 st).bind fun q1 => (if q1.1 = 0 then ((fX6_isOne v2 q1.2).bind fun q4 => (if q4.1 = 0 then ((fX6_finds (-1000000001 : Int32) q4.2).bind fun q9 => (some (q9.1, q9.2))) else ((fX6_moveAll (1 : Int32) 62 q4.2).bind fun s7 => (fX6_book_43 kfu v1 v2 (0 : Int32) s7)))) else ((fX6_finds q1.1 q1.2).bind fun q11 => (some (q11.1, q11.2))))
set_option maxRecDepth 100000 in
theorem tX6_book_43 {Z : kZ} (C : kC Z cX6_book RX6 5 rmX6_book) {res : Int32 × kM} (K : kEnd Z (some .int) (some (.int res.1)) res.2) : ∀ (n : Nat) (x1 : Int32) (x2 : Int32) (x4 : Int32) (st : kM), fX6_book_43 n x1 x2 x4 st = some res → kV Z 5 43 [(0, kr Z 59), (1, .int x1), (2, .int x2), (4, .int x4)] [] st := by
  intro n
  induction n with
  | zero => intro x1 x2 x4 st hf; cases hf
  | succ n ih =>
    intro x1 x2 x4 st hf
    unfold fX6_book_43 at hf
    refine k_iload C 3 dX6_book_43 rfl rfl ?_
    refine k_aload_n C 0 dX6_book_45 rfl rfl rfl ?_
    refine g_X6_sizeOf C rfl kw_4_11 dX6_book_46 rfl ?_
    refine k_iload_n C 1 dX6_book_49 rfl rfl rfl ?_
    obtain ⟨g1, hf⟩ := kf_g hf
    refine k_iald (j := x1.toNatClampNeg) C ⟨rfl, rfl⟩ g1 rfl dX6_book_50 rfl ?_
    refine k_icmp_ge C 83 dX6_book_51 rfl rfl (fun b2 => ?_) (fun b2 => ?_)
    · replace hf := kf_t hf b2
      refine k_aload_n C 0 dX6_book_83 rfl rfl rfl ?_
      refine k_iconst C (0 : Int32) dX6_book_84 (by decide) rfl ?_
      refine k_aload_n C 0 dX6_book_85 rfl rfl rfl ?_
      refine g_X6_tried C rfl kw_4_0 dX6_book_86 rfl ?_
      obtain ⟨s3, e4, hf⟩ := kf_b hf
      refine k_callV C [.int (0 : Int32), kr Z 62] (mX6_moveAll ⟨rfl, rfl⟩ e4) rfl (by decide) rfl kw_4_227 kw_4_229 kw_0_45 kw_1_7 kw_4_230 qX6_moveAll rfl ⟨by decide, by decide⟩ ⟨rfl, rfl⟩ (Nat.le_of_ble_eq_true rfl) dX6_book_89 rfl ?_ rfl
      refine (show kV Z 5 92 [(0, kr Z 59), (1, .int x1), (2, .int x2), (4, .int x4)] [] s3 from ?_)
      refine k_aload_n C 0 dX6_book_92 rfl rfl rfl ?_
      refine g_X6_sizeOf C rfl kw_4_11 dX6_book_93 rfl ?_
      refine k_iload_n C 1 dX6_book_96 rfl rfl rfl ?_
      refine k_iald (j := x1.toNatClampNeg) C ⟨rfl, rfl⟩ g1 rfl dX6_book_97 rfl ?_
      exact k_iret C K hf dX6_book_98
    · replace hf := kf_f hf b2
      refine k_aload_n C 0 dX6_book_54 rfl rfl rfl ?_
      refine g_X6_sheets C rfl kw_4_12 dX6_book_55 rfl ?_
      refine k_bipush C (40 : Int32) dX6_book_58 (by decide) rfl ?_
      refine k_iload_n C 1 dX6_book_60 rfl rfl rfl ?_
      refine k_imul C dX6_book_61 rfl ?_
      refine k_iload C 3 dX6_book_62 rfl rfl ?_
      refine k_iadd C dX6_book_64 rfl ?_
      refine k_aload_n C 0 dX6_book_65 rfl rfl rfl ?_
      refine k_iload_n C 2 dX6_book_66 rfl rfl rfl ?_
      refine k_iconst C (2 : Int32) dX6_book_67 (by decide) rfl ?_
      obtain ⟨q5, e6, hf⟩ := kf_b hf
      refine k_callV C [.int x2, .int (2 : Int32)] (mX6_its e6) rfl (by decide) rfl kw_4_95 kw_4_97 kw_0_27 kw_1_7 kw_4_98 qX6_its rfl ⟨by decide, by decide⟩ ⟨rfl, rfl⟩ (Nat.le_of_ble_eq_true rfl) dX6_book_68 rfl ?_ rfl
      refine (show kV Z 5 71 [(0, kr Z 59), (1, .int x1), (2, .int x2), (4, .int x4)] [.int q5.1, .int (((40 : Int32) * x1) + x4), kr Z 67] q5.2 from ?_)
      refine k_i2l C dX6_book_71 rfl ?_
      obtain ⟨g7, hf⟩ := kf_g hf
      refine k_last (j := (((40 : Int32) * x1) + x4).toNatClampNeg) C ⟨rfl, rfl⟩ g7 rfl dX6_book_72 rfl ?_
      obtain ⟨s8, e9, hf⟩ := kf_b hf
      refine k_st e9 ?_
      refine k_aload_n C 0 dX6_book_73 rfl rfl rfl ?_
      obtain ⟨s10, e11, hf⟩ := kf_b hf
      refine k_callV C [] (mX6_oneHour e11) rfl (by decide) rfl kw_4_215 kw_4_217 kw_0_43 kw_1_7 kw_4_218 qX6_oneHour rfl ⟨by decide, by decide⟩ ⟨rfl, rfl⟩ (Nat.le_of_ble_eq_true rfl) dX6_book_74 rfl ?_ rfl
      refine (show kV Z 5 77 [(0, kr Z 59), (1, .int x1), (2, .int x2), (4, .int x4)] [] s10 from ?_)
      refine k_iinc (lv' := [(4, .int (x4 + (1 : Int32))), (0, kr Z 59), (1, .int x1), (2, .int x2)]) C (x4 + (1 : Int32)) 3 dX6_book_77 rfl rfl (by decide) rfl rfl ?_
      refine k_goto C 43 dX6_book_80 rfl ?_
      refine k_lv (lv' := [(0, kr Z 59), (1, .int x1), (2, .int x2), (4, .int (x4 + (1 : Int32)))]) [1, 2, 3, 0] rfl ?_
      exact ih x1 x2 (x4 + (1 : Int32)) s10  hf
set_option maxRecDepth 100000 in
theorem tX6_book {Z : kZ} (C : kC Z cX6_book RX6 5 rmX6_book) {v1 : Int32} {v2 : Int32}  {st : kM} {res : Int32 × kM} (hf : fX6_book v1 v2 st = some res) (K : kEnd Z (some .int) (some (.int res.1)) res.2) : kV Z 5 0 [(0, kr Z 59), (1, .int v1), (2, .int v2)] [] st := by
  unfold fX6_book at hf
  refine k_aload_n C 0 dX6_book_0 rfl rfl rfl ?_
  refine k_iload_n C 1 dX6_book_1 rfl rfl rfl ?_
  obtain ⟨q1, e2, hf⟩ := kf_b hf
  refine k_callV C [.int v1] (mX6_badSheet e2) rfl (by decide) rfl kw_5_145 kw_5_147 kw_0_60 kw_1_7 kw_5_148 qX6_badSheet rfl ⟨by decide, by decide⟩ ⟨rfl, rfl⟩ (Nat.le_of_ble_eq_true rfl) dX6_book_2 rfl ?_ rfl
  refine (show kV Z 5 5 [(0, kr Z 59), (1, .int v1), (2, .int v2)] [.int q1.1] q1.2 from ?_)
  refine k_istore_n (lv' := [(3, .int q1.1), (0, kr Z 59), (1, .int v1), (2, .int v2)]) C dX6_book_5 rfl (by decide) rfl rfl ?_
  refine k_iload_n C 0 dX6_book_6 rfl rfl rfl ?_
  refine k_if_eq C 16 dX6_book_7 rfl rfl (fun b3 => ?_) (fun b3 => ?_)
  · replace hf := kf_t hf b3
    refine k_aload_n C 1 dX6_book_16 rfl rfl rfl ?_
    refine k_iload_n C 3 dX6_book_17 rfl rfl rfl ?_
    obtain ⟨q4, e5, hf⟩ := kf_b hf
    refine k_callV C [.int v2] (mX6_isOne e5) rfl (by decide) rfl kw_4_157 kw_4_159 kw_0_37 kw_1_7 kw_4_160 qX6_isOne rfl ⟨by decide, by decide⟩ ⟨rfl, rfl⟩ (Nat.le_of_ble_eq_true rfl) dX6_book_18 rfl ?_ rfl
    refine (show kV Z 5 21 [(3, .int q1.1), (0, kr Z 59), (1, .int v1), (2, .int v2)] [.int q4.1] q4.2 from ?_)
    refine k_if_ne C 31 dX6_book_21 rfl rfl (fun b6 => ?_) (fun b6 => ?_)
    · replace hf := kf_f hf b6
      refine k_aload_n C 1 dX6_book_31 rfl rfl rfl ?_
      refine k_iconst C (1 : Int32) dX6_book_32 (by decide) rfl ?_
      refine k_aload_n C 1 dX6_book_33 rfl rfl rfl ?_
      refine g_X6_tried C rfl kw_4_0 dX6_book_34 rfl ?_
      obtain ⟨s7, e8, hf⟩ := kf_b hf
      refine k_callV C [.int (1 : Int32), kr Z 62] (mX6_moveAll ⟨rfl, rfl⟩ e8) rfl (by decide) rfl kw_4_227 kw_4_229 kw_0_45 kw_1_7 kw_4_230 qX6_moveAll rfl ⟨by decide, by decide⟩ ⟨rfl, rfl⟩ (Nat.le_of_ble_eq_true rfl) dX6_book_37 rfl ?_ rfl
      refine (show kV Z 5 40 [(3, .int q1.1), (0, kr Z 59), (1, .int v1), (2, .int v2)] [] s7 from ?_)
      refine k_iconst C (0 : Int32) dX6_book_40 (by decide) rfl ?_
      refine k_istore (lv' := [(4, .int (0 : Int32)), (3, .int q1.1), (0, kr Z 59), (1, .int v1), (2, .int v2)]) C dX6_book_41 (by decide) rfl rfl ?_
      refine k_lv (lv' := [(0, kr Z 59), (1, .int v1), (2, .int v2), (4, .int (0 : Int32))]) [2, 3, 4, 0] rfl ?_
      exact tX6_book_43 C K _ v1 v2 (0 : Int32) s7 hf
    · replace hf := kf_t hf b6
      refine k_aload_n C 1 dX6_book_24 rfl rfl rfl ?_
      refine k_ldc C (-1000000001 : Int32) kw_4_67 dX6_book_25 rfl ?_
      obtain ⟨q9, e10, hf⟩ := kf_b hf
      refine k_callV C [.int (-1000000001 : Int32)] (mX6_finds e10) rfl (by decide) rfl kw_4_68 kw_4_70 kw_0_24 kw_1_7 kw_4_71 qX6_finds rfl ⟨by decide, by decide⟩ ⟨rfl, rfl⟩ (Nat.le_of_ble_eq_true rfl) dX6_book_27 rfl ?_ rfl
      refine (show kV Z 5 30 [(3, .int q1.1), (0, kr Z 59), (1, .int v1), (2, .int v2)] [.int q9.1] q9.2 from ?_)
      exact k_iret C K hf dX6_book_30
  · replace hf := kf_f hf b3
    refine k_aload_n C 1 dX6_book_10 rfl rfl rfl ?_
    refine k_iload_n C 0 dX6_book_11 rfl rfl rfl ?_
    obtain ⟨q11, e12, hf⟩ := kf_b hf
    refine k_callV C [.int q1.1] (mX6_finds e12) rfl (by decide) rfl kw_4_68 kw_4_70 kw_0_24 kw_1_7 kw_4_71 qX6_finds rfl ⟨by decide, by decide⟩ ⟨rfl, rfl⟩ (Nat.le_of_ble_eq_true rfl) dX6_book_12 rfl ?_ rfl
    refine (show kV Z 5 15 [(3, .int q1.1), (0, kr Z 59), (1, .int v1), (2, .int v2)] [.int q11.1] q11.2 from ?_)
    exact k_iret C K hf dX6_book_15
theorem mX6_book {G : kG} {v1 : Int32} {v2 : Int32}  {st : kM} {res : Int32 × kM} (hf : fX6_book v1 v2 st = some res) : kCt G yX6_book cX6_book 5 (some .int) rmX6_book [.ref (G.2.1 59), .int v1, .int v2] st (some (.int res.1)) res.2 := kMet (by decide) (Nat.le_of_ble_eq_true rfl) ⟨rfl, rfl⟩ (fun X A Q C K => tX6_book C  hf K)
theorem qX6_book : yX6_book.cls = RX6 ∧ yX6_book.cls ≠ "java/lang/invoke/MethodHandle" ∧ yX6_book.cls ≠ "java/lang/invoke/VarHandle" ∧ (parseMethodDescriptor yX6_book.desc).map (fun d => d.parameters.length) = some 2 := ⟨rfl, by decide, by decide, by decide +kernel⟩
-- TalkKnotsModel.isSo(II)Z
def rmX6_isSo : Room := { frames := 6, cells := 0, slots := 0, locals := 138 }
def fX6_isSo_5 : Nat → Int32 → Int32 → Int32 → Int32 → kM → Option (Int32 × kM)
  | 0, _, _, _, _, _ => none
  | n + 1, x1, x2, x3, x4, st =>
    if x1 < 0 ∨ 4 ≤ x1.toNatClampNeg then none else (if (st.1 66 x1.toNatClampNeg) ≤ x4 then (if x3 = 0 ∨ x3 = 1 then some (x3, st) else none) else (if x3 = 0 then (if x3 = 0 ∨ x3 = 1 then some (x3, st) else none) else (if (((40 : Int32) * x1) + x4) < 0 ∨ 160 ≤ (((40 : Int32) * x1) + x4).toNatClampNeg then none else ((fX6_its x2 (2 : Int32) st).bind fun q5 => (if (lg_cmp (st.2 67 ((((40 : Int32) * x1) + x4).toNatClampNeg)) (q5.1.toInt64)) = 0 then ((fX6_oneHour q5.2).bind fun s10 => (fX6_isSo_5 n x1 x2 (1 : Int32) (x4 + (1 : Int32)) s10)) else ((fX6_oneHour q5.2).bind fun s8 => (fX6_isSo_5 n x1 x2 (0 : Int32) (x4 + (1 : Int32)) s8)))))))
def fX6_isSo (v1 : Int32) (v2 : Int32) (st : kM) : Option (Int32 × kM) :=
  fX6_isSo_5 kfu v1 v2 (1 : Int32) (0 : Int32) st
set_option maxRecDepth 100000 in
theorem tX6_isSo_5 {Z : kZ} (C : kC Z cX6_isSo RX6 5 rmX6_isSo) {res : Int32 × kM} (K : kEnd Z (some .boolean) (some (.int res.1)) res.2) : ∀ (n : Nat) (x1 : Int32) (x2 : Int32) (x3 : Int32) (x4 : Int32) (st : kM), fX6_isSo_5 n x1 x2 x3 x4 st = some res → kV Z 5 5 [(0, kr Z 59), (1, .int x1), (2, .int x2), (3, .int x3), (4, .int x4)] [] st := by
  intro n
  induction n with
  | zero => intro x1 x2 x3 x4 st hf; cases hf
  | succ n ih =>
    intro x1 x2 x3 x4 st hf
    unfold fX6_isSo_5 at hf
    refine k_iload C 4 dX6_isSo_5 rfl rfl ?_
    refine k_aload_n C 0 dX6_isSo_7 rfl rfl rfl ?_
    refine g_X6_sizeOf C rfl kw_4_11 dX6_isSo_8 rfl ?_
    refine k_iload_n C 1 dX6_isSo_11 rfl rfl rfl ?_
    obtain ⟨g1, hf⟩ := kf_g hf
    refine k_iald (j := x1.toNatClampNeg) C ⟨rfl, rfl⟩ g1 rfl dX6_isSo_12 rfl ?_
    refine k_icmp_ge C 59 dX6_isSo_13 rfl rfl (fun b2 => ?_) (fun b2 => ?_)
    · replace hf := kf_t hf b2
      refine k_iload_n C 3 dX6_isSo_59 rfl rfl rfl ?_
      obtain ⟨g0, hf⟩ := kf_y hf
      exact k_zret C K hf (kb_n g0) dX6_isSo_60
    · replace hf := kf_f hf b2
      refine k_iload_n C 3 dX6_isSo_16 rfl rfl rfl ?_
      refine k_if_eq C 59 dX6_isSo_17 rfl rfl (fun b3 => ?_) (fun b3 => ?_)
      · replace hf := kf_t hf b3
        refine k_iload_n C 3 dX6_isSo_59 rfl rfl rfl ?_
        obtain ⟨g0, hf⟩ := kf_y hf
        exact k_zret C K hf (kb_n g0) dX6_isSo_60
      · replace hf := kf_f hf b3
        refine k_aload_n C 0 dX6_isSo_20 rfl rfl rfl ?_
        refine g_X6_sheets C rfl kw_4_12 dX6_isSo_21 rfl ?_
        refine k_bipush C (40 : Int32) dX6_isSo_24 (by decide) rfl ?_
        refine k_iload_n C 1 dX6_isSo_26 rfl rfl rfl ?_
        refine k_imul C dX6_isSo_27 rfl ?_
        refine k_iload C 4 dX6_isSo_28 rfl rfl ?_
        refine k_iadd C dX6_isSo_30 rfl ?_
        obtain ⟨g4, hf⟩ := kf_g hf
        refine k_lald (j := (((40 : Int32) * x1) + x4).toNatClampNeg) C ⟨rfl, rfl⟩ g4 rfl dX6_isSo_31 rfl ?_
        refine k_aload_n C 0 dX6_isSo_32 rfl rfl rfl ?_
        refine k_iload_n C 2 dX6_isSo_33 rfl rfl rfl ?_
        refine k_iconst C (2 : Int32) dX6_isSo_34 (by decide) rfl ?_
        obtain ⟨q5, e6, hf⟩ := kf_b hf
        refine k_callV C [.int x2, .int (2 : Int32)] (mX6_its e6) rfl (by decide) rfl kw_4_95 kw_4_97 kw_0_27 kw_1_7 kw_4_98 qX6_its rfl ⟨by decide, by decide⟩ ⟨rfl, rfl⟩ (Nat.le_of_ble_eq_true rfl) dX6_isSo_35 rfl ?_ rfl
        refine (show kV Z 5 38 [(0, kr Z 59), (1, .int x1), (2, .int x2), (3, .int x3), (4, .int x4)] [.int q5.1, .long (st.2 67 ((((40 : Int32) * x1) + x4).toNatClampNeg))] q5.2 from ?_)
        refine k_i2l C dX6_isSo_38 rfl ?_
        refine k_lcmp C dX6_isSo_39 rfl ?_
        refine k_if_ne C 47 dX6_isSo_40 rfl rfl (fun b7 => ?_) (fun b7 => ?_)
        · replace hf := kf_f hf b7
          refine k_iconst C (0 : Int32) dX6_isSo_47 (by decide) rfl ?_
          refine k_istore_n (lv' := [(3, .int (0 : Int32)), (0, kr Z 59), (1, .int x1), (2, .int x2), (4, .int x4)]) C dX6_isSo_48 rfl (by decide) rfl rfl ?_
          refine k_aload_n C 1 dX6_isSo_49 rfl rfl rfl ?_
          obtain ⟨s8, e9, hf⟩ := kf_b hf
          refine k_callV C [] (mX6_oneHour e9) rfl (by decide) rfl kw_4_215 kw_4_217 kw_0_43 kw_1_7 kw_4_218 qX6_oneHour rfl ⟨by decide, by decide⟩ ⟨rfl, rfl⟩ (Nat.le_of_ble_eq_true rfl) dX6_isSo_50 rfl ?_ rfl
          refine (show kV Z 5 53 [(3, .int (0 : Int32)), (0, kr Z 59), (1, .int x1), (2, .int x2), (4, .int x4)] [] s8 from ?_)
          refine k_iinc (lv' := [(4, .int (x4 + (1 : Int32))), (3, .int (0 : Int32)), (0, kr Z 59), (1, .int x1), (2, .int x2)]) C (x4 + (1 : Int32)) 4 dX6_isSo_53 rfl rfl (by decide) rfl rfl ?_
          refine k_goto C 5 dX6_isSo_56 rfl ?_
          refine k_lv (lv' := [(0, kr Z 59), (1, .int x1), (2, .int x2), (3, .int (0 : Int32)), (4, .int (x4 + (1 : Int32)))]) [2, 3, 4, 1, 0] rfl ?_
          exact ih x1 x2 (0 : Int32) (x4 + (1 : Int32)) s8  hf
        · replace hf := kf_t hf b7
          refine k_iconst C (1 : Int32) dX6_isSo_43 (by decide) rfl ?_
          refine k_goto C 48 dX6_isSo_44 rfl ?_
          refine k_istore_n (lv' := [(3, .int (1 : Int32)), (0, kr Z 59), (1, .int x1), (2, .int x2), (4, .int x4)]) C dX6_isSo_48 rfl (by decide) rfl rfl ?_
          refine k_aload_n C 1 dX6_isSo_49 rfl rfl rfl ?_
          obtain ⟨s10, e11, hf⟩ := kf_b hf
          refine k_callV C [] (mX6_oneHour e11) rfl (by decide) rfl kw_4_215 kw_4_217 kw_0_43 kw_1_7 kw_4_218 qX6_oneHour rfl ⟨by decide, by decide⟩ ⟨rfl, rfl⟩ (Nat.le_of_ble_eq_true rfl) dX6_isSo_50 rfl ?_ rfl
          refine (show kV Z 5 53 [(3, .int (1 : Int32)), (0, kr Z 59), (1, .int x1), (2, .int x2), (4, .int x4)] [] s10 from ?_)
          refine k_iinc (lv' := [(4, .int (x4 + (1 : Int32))), (3, .int (1 : Int32)), (0, kr Z 59), (1, .int x1), (2, .int x2)]) C (x4 + (1 : Int32)) 4 dX6_isSo_53 rfl rfl (by decide) rfl rfl ?_
          refine k_goto C 5 dX6_isSo_56 rfl ?_
          refine k_lv (lv' := [(0, kr Z 59), (1, .int x1), (2, .int x2), (3, .int (1 : Int32)), (4, .int (x4 + (1 : Int32)))]) [2, 3, 4, 1, 0] rfl ?_
          exact ih x1 x2 (1 : Int32) (x4 + (1 : Int32)) s10  hf
set_option maxRecDepth 100000 in
theorem tX6_isSo {Z : kZ} (C : kC Z cX6_isSo RX6 5 rmX6_isSo) {v1 : Int32} {v2 : Int32}  {st : kM} {res : Int32 × kM} (hf : fX6_isSo v1 v2 st = some res) (K : kEnd Z (some .boolean) (some (.int res.1)) res.2) : kV Z 5 0 [(0, kr Z 59), (1, .int v1), (2, .int v2)] [] st := by
  unfold fX6_isSo at hf
  refine k_iconst C (1 : Int32) dX6_isSo_0 (by decide) rfl ?_
  refine k_istore_n (lv' := [(3, .int (1 : Int32)), (0, kr Z 59), (1, .int v1), (2, .int v2)]) C dX6_isSo_1 rfl (by decide) rfl rfl ?_
  refine k_iconst C (0 : Int32) dX6_isSo_2 (by decide) rfl ?_
  refine k_istore (lv' := [(4, .int (0 : Int32)), (3, .int (1 : Int32)), (0, kr Z 59), (1, .int v1), (2, .int v2)]) C dX6_isSo_3 (by decide) rfl rfl ?_
  refine k_lv (lv' := [(0, kr Z 59), (1, .int v1), (2, .int v2), (3, .int (1 : Int32)), (4, .int (0 : Int32))]) [2, 3, 4, 1, 0] rfl ?_
  exact tX6_isSo_5 C K _ v1 v2 (1 : Int32) (0 : Int32) st hf
theorem mX6_isSo {G : kG} {v1 : Int32} {v2 : Int32}  {st : kM} {res : Int32 × kM} (hf : fX6_isSo v1 v2 st = some res) : kCt G yX6_isSo cX6_isSo 5 (some .boolean) rmX6_isSo [.ref (G.2.1 59), .int v1, .int v2] st (some (.int res.1)) res.2 := kMet (by decide) (Nat.le_of_ble_eq_true rfl) ⟨rfl, rfl⟩ (fun X A Q C K => tX6_isSo C  hf K)
theorem qX6_isSo : yX6_isSo.cls = RX6 ∧ yX6_isSo.cls ≠ "java/lang/invoke/MethodHandle" ∧ yX6_isSo.cls ≠ "java/lang/invoke/VarHandle" ∧ (parseMethodDescriptor yX6_isSo.desc).map (fun d => d.parameters.length) = some 2 := ⟨rfl, by decide, by decide, by decide +kernel⟩
-- TalkKnotsModel.read(II)I
def rmX6_read : Room := { frames := 7, cells := 0, slots := 0, locals := 162 }
def fX6_read_46 : Nat → Int32 → Int32 → Int32 → Int32 → kM → Option (Int32 × kM)
  | 0, _, _, _, _, _ => none
  | n + 1, x1, x2, x4, x5, st =>
    if (600 : Int32) ≤ x5 then (some (x4, st)) else ((fX6_puts x2 (0 : Int32) (x5 / (100 : Int32)) st).bind fun s2 => ((fX6_puts x2 (2 : Int32) (x5 - x5 / (100 : Int32) * (100 : Int32)) s2).bind fun s4 => ((fX6_isSo x1 x2 s4).bind fun q6 => (if q6.1 = 0 then ((some (x4 + (0 : Int32))).bind fun z9 => ((fX6_moveAll (0 : Int32) 63 q6.2).bind fun s11 => (fX6_read_46 n x1 x2 z9 (x5 + (1 : Int32)) s11))) else ((some (x4 + (1 : Int32))).bind fun z13 => ((fX6_moveAll (0 : Int32) 63 q6.2).bind fun s15 => (fX6_read_46 n x1 x2 z13 (x5 + (1 : Int32)) s15)))))))
def fX6_read (v1 : Int32) (v2 : Int32) (st : kM) : Option (Int32 × kM) :=
  (fX6_badSheet v1 st).bind fun q1 => (if q1.1 = 0 then ((fX6_isOne v2 q1.2).bind fun q4 => (if q4.1 = 0 then ((fX6_finds (-1000000001 : Int32) q4.2).bind fun q9 => (some (q9.1, q9.2))) else ((fX6_moveAll (1 : Int32) 63 q4.2).bind fun s7 => (fX6_read_46 kfu v1 v2 (0 : Int32) (0 : Int32) s7)))) else ((fX6_finds q1.1 q1.2).bind fun q11 => (some (q11.1, q11.2))))
set_option maxRecDepth 100000 in
theorem tX6_read_46 {Z : kZ} (C : kC Z cX6_read RX6 6 rmX6_read) {res : Int32 × kM} (K : kEnd Z (some .int) (some (.int res.1)) res.2) : ∀ (n : Nat) (x1 : Int32) (x2 : Int32) (x4 : Int32) (x5 : Int32) (st : kM), fX6_read_46 n x1 x2 x4 x5 st = some res → kV Z 6 46 [(0, kr Z 59), (1, .int x1), (2, .int x2), (4, .int x4), (5, .int x5)] [] st := by
  intro n
  induction n with
  | zero => intro x1 x2 x4 x5 st hf; cases hf
  | succ n ih =>
    intro x1 x2 x4 x5 st hf
    unfold fX6_read_46 at hf
    refine k_iload C 4 dX6_read_46 rfl rfl ?_
    refine k_sipush C (600 : Int32) dX6_read_48 (by decide) rfl ?_
    refine k_icmp_ge C 110 dX6_read_51 rfl rfl (fun b1 => ?_) (fun b1 => ?_)
    · replace hf := kf_t hf b1
      refine k_iload C 3 dX6_read_110 rfl rfl ?_
      exact k_iret C K hf dX6_read_112
    · replace hf := kf_f hf b1
      refine k_aload_n C 0 dX6_read_54 rfl rfl rfl ?_
      refine k_iload_n C 2 dX6_read_55 rfl rfl rfl ?_
      refine k_iconst C (0 : Int32) dX6_read_56 (by decide) rfl ?_
      refine k_iload C 4 dX6_read_57 rfl rfl ?_
      refine k_bipush C (100 : Int32) dX6_read_59 (by decide) rfl ?_
      refine k_idiv C (by decide) dX6_read_61 rfl ?_
      obtain ⟨s2, e3, hf⟩ := kf_b hf
      refine k_callV C [.int x2, .int (0 : Int32), .int (x5 / (100 : Int32))] (mX6_puts e3) rfl (by decide) rfl kw_4_149 kw_4_151 kw_0_36 kw_1_7 kw_4_152 qX6_puts rfl ⟨by decide, by decide⟩ ⟨rfl, rfl⟩ (Nat.le_of_ble_eq_true rfl) dX6_read_62 rfl ?_ rfl
      refine (show kV Z 6 65 [(0, kr Z 59), (1, .int x1), (2, .int x2), (4, .int x4), (5, .int x5)] [] s2 from ?_)
      refine k_aload_n C 0 dX6_read_65 rfl rfl rfl ?_
      refine k_iload_n C 2 dX6_read_66 rfl rfl rfl ?_
      refine k_iconst C (2 : Int32) dX6_read_67 (by decide) rfl ?_
      refine k_iload C 4 dX6_read_68 rfl rfl ?_
      refine k_bipush C (100 : Int32) dX6_read_70 (by decide) rfl ?_
      refine k_irem C (by decide) dX6_read_72 rfl ?_
      obtain ⟨s4, e5, hf⟩ := kf_b hf
      refine k_callV C [.int x2, .int (2 : Int32), .int (x5 - x5 / (100 : Int32) * (100 : Int32))] (mX6_puts e5) rfl (by decide) rfl kw_4_149 kw_4_151 kw_0_36 kw_1_7 kw_4_152 qX6_puts rfl ⟨by decide, by decide⟩ ⟨rfl, rfl⟩ (Nat.le_of_ble_eq_true rfl) dX6_read_73 rfl ?_ rfl
      refine (show kV Z 6 76 [(0, kr Z 59), (1, .int x1), (2, .int x2), (4, .int x4), (5, .int x5)] [] s4 from ?_)
      refine k_iload C 3 dX6_read_76 rfl rfl ?_
      refine k_aload_n C 0 dX6_read_78 rfl rfl rfl ?_
      refine k_iload_n C 1 dX6_read_79 rfl rfl rfl ?_
      refine k_iload_n C 2 dX6_read_80 rfl rfl rfl ?_
      obtain ⟨q6, e7, hf⟩ := kf_b hf
      refine k_callV C [.int x1, .int x2] (mX6_isSo e7) rfl (by decide) rfl kw_5_158 kw_5_160 kw_0_61 kw_1_7 kw_5_161 qX6_isSo rfl ⟨by decide, by decide⟩ ⟨rfl, rfl⟩ (Nat.le_of_ble_eq_true rfl) dX6_read_81 rfl ?_ rfl
      refine (show kV Z 6 84 [(0, kr Z 59), (1, .int x1), (2, .int x2), (4, .int x4), (5, .int x5)] [.int q6.1, .int x4] q6.2 from ?_)
      refine k_if_eq C 91 dX6_read_84 rfl rfl (fun b8 => ?_) (fun b8 => ?_)
      · replace hf := kf_t hf b8
        refine k_iconst C (0 : Int32) dX6_read_91 (by decide) rfl ?_
        refine k_iadd C dX6_read_92 rfl ?_
        obtain ⟨z9, e10, hf⟩ := kf_b hf
        refine k_topi e10 ?_
        refine k_istore (lv' := [(4, .int z9), (0, kr Z 59), (1, .int x1), (2, .int x2), (5, .int x5)]) C dX6_read_93 (by decide) rfl rfl ?_
        refine k_aload_n C 1 dX6_read_95 rfl rfl rfl ?_
        refine k_iconst C (0 : Int32) dX6_read_96 (by decide) rfl ?_
        refine k_aload_n C 1 dX6_read_97 rfl rfl rfl ?_
        refine g_X6_before1 C rfl kw_4_1 dX6_read_98 rfl ?_
        obtain ⟨s11, e12, hf⟩ := kf_b hf
        refine k_callV C [.int (0 : Int32), kr Z 63] (mX6_moveAll ⟨rfl, rfl⟩ e12) rfl (by decide) rfl kw_4_227 kw_4_229 kw_0_45 kw_1_7 kw_4_230 qX6_moveAll rfl ⟨by decide, by decide⟩ ⟨rfl, rfl⟩ (Nat.le_of_ble_eq_true rfl) dX6_read_101 rfl ?_ rfl
        refine (show kV Z 6 104 [(4, .int z9), (0, kr Z 59), (1, .int x1), (2, .int x2), (5, .int x5)] [] s11 from ?_)
        refine k_iinc (lv' := [(5, .int (x5 + (1 : Int32))), (4, .int z9), (0, kr Z 59), (1, .int x1), (2, .int x2)]) C (x5 + (1 : Int32)) 4 dX6_read_104 rfl rfl (by decide) rfl rfl ?_
        refine k_goto C 46 dX6_read_107 rfl ?_
        refine k_lv (lv' := [(0, kr Z 59), (1, .int x1), (2, .int x2), (4, .int z9), (5, .int (x5 + (1 : Int32)))]) [2, 3, 4, 1, 0] rfl ?_
        exact ih x1 x2 z9 (x5 + (1 : Int32)) s11  hf
      · replace hf := kf_f hf b8
        refine k_iconst C (1 : Int32) dX6_read_87 (by decide) rfl ?_
        refine k_goto C 92 dX6_read_88 rfl ?_
        refine k_iadd C dX6_read_92 rfl ?_
        obtain ⟨z13, e14, hf⟩ := kf_b hf
        refine k_topi e14 ?_
        refine k_istore (lv' := [(4, .int z13), (0, kr Z 59), (1, .int x1), (2, .int x2), (5, .int x5)]) C dX6_read_93 (by decide) rfl rfl ?_
        refine k_aload_n C 1 dX6_read_95 rfl rfl rfl ?_
        refine k_iconst C (0 : Int32) dX6_read_96 (by decide) rfl ?_
        refine k_aload_n C 1 dX6_read_97 rfl rfl rfl ?_
        refine g_X6_before1 C rfl kw_4_1 dX6_read_98 rfl ?_
        obtain ⟨s15, e16, hf⟩ := kf_b hf
        refine k_callV C [.int (0 : Int32), kr Z 63] (mX6_moveAll ⟨rfl, rfl⟩ e16) rfl (by decide) rfl kw_4_227 kw_4_229 kw_0_45 kw_1_7 kw_4_230 qX6_moveAll rfl ⟨by decide, by decide⟩ ⟨rfl, rfl⟩ (Nat.le_of_ble_eq_true rfl) dX6_read_101 rfl ?_ rfl
        refine (show kV Z 6 104 [(4, .int z13), (0, kr Z 59), (1, .int x1), (2, .int x2), (5, .int x5)] [] s15 from ?_)
        refine k_iinc (lv' := [(5, .int (x5 + (1 : Int32))), (4, .int z13), (0, kr Z 59), (1, .int x1), (2, .int x2)]) C (x5 + (1 : Int32)) 4 dX6_read_104 rfl rfl (by decide) rfl rfl ?_
        refine k_goto C 46 dX6_read_107 rfl ?_
        refine k_lv (lv' := [(0, kr Z 59), (1, .int x1), (2, .int x2), (4, .int z13), (5, .int (x5 + (1 : Int32)))]) [2, 3, 4, 1, 0] rfl ?_
        exact ih x1 x2 z13 (x5 + (1 : Int32)) s15  hf
set_option maxRecDepth 100000 in
theorem tX6_read {Z : kZ} (C : kC Z cX6_read RX6 6 rmX6_read) {v1 : Int32} {v2 : Int32}  {st : kM} {res : Int32 × kM} (hf : fX6_read v1 v2 st = some res) (K : kEnd Z (some .int) (some (.int res.1)) res.2) : kV Z 6 0 [(0, kr Z 59), (1, .int v1), (2, .int v2)] [] st := by
  unfold fX6_read at hf
  refine k_aload_n C 0 dX6_read_0 rfl rfl rfl ?_
  refine k_iload_n C 1 dX6_read_1 rfl rfl rfl ?_
  obtain ⟨q1, e2, hf⟩ := kf_b hf
  refine k_callV C [.int v1] (mX6_badSheet e2) rfl (by decide) rfl kw_5_145 kw_5_147 kw_0_60 kw_1_7 kw_5_148 qX6_badSheet rfl ⟨by decide, by decide⟩ ⟨rfl, rfl⟩ (Nat.le_of_ble_eq_true rfl) dX6_read_2 rfl ?_ rfl
  refine (show kV Z 6 5 [(0, kr Z 59), (1, .int v1), (2, .int v2)] [.int q1.1] q1.2 from ?_)
  refine k_istore_n (lv' := [(3, .int q1.1), (0, kr Z 59), (1, .int v1), (2, .int v2)]) C dX6_read_5 rfl (by decide) rfl rfl ?_
  refine k_iload_n C 0 dX6_read_6 rfl rfl rfl ?_
  refine k_if_eq C 16 dX6_read_7 rfl rfl (fun b3 => ?_) (fun b3 => ?_)
  · replace hf := kf_t hf b3
    refine k_aload_n C 1 dX6_read_16 rfl rfl rfl ?_
    refine k_iload_n C 3 dX6_read_17 rfl rfl rfl ?_
    obtain ⟨q4, e5, hf⟩ := kf_b hf
    refine k_callV C [.int v2] (mX6_isOne e5) rfl (by decide) rfl kw_4_157 kw_4_159 kw_0_37 kw_1_7 kw_4_160 qX6_isOne rfl ⟨by decide, by decide⟩ ⟨rfl, rfl⟩ (Nat.le_of_ble_eq_true rfl) dX6_read_18 rfl ?_ rfl
    refine (show kV Z 6 21 [(3, .int q1.1), (0, kr Z 59), (1, .int v1), (2, .int v2)] [.int q4.1] q4.2 from ?_)
    refine k_if_ne C 31 dX6_read_21 rfl rfl (fun b6 => ?_) (fun b6 => ?_)
    · replace hf := kf_f hf b6
      refine k_iconst C (0 : Int32) dX6_read_31 (by decide) rfl ?_
      refine k_istore (lv' := [(4, .int (0 : Int32)), (3, .int q1.1), (0, kr Z 59), (1, .int v1), (2, .int v2)]) C dX6_read_32 (by decide) rfl rfl ?_
      refine k_aload_n C 2 dX6_read_34 rfl rfl rfl ?_
      refine k_iconst C (1 : Int32) dX6_read_35 (by decide) rfl ?_
      refine k_aload_n C 2 dX6_read_36 rfl rfl rfl ?_
      refine g_X6_before1 C rfl kw_4_1 dX6_read_37 rfl ?_
      obtain ⟨s7, e8, hf⟩ := kf_b hf
      refine k_callV C [.int (1 : Int32), kr Z 63] (mX6_moveAll ⟨rfl, rfl⟩ e8) rfl (by decide) rfl kw_4_227 kw_4_229 kw_0_45 kw_1_7 kw_4_230 qX6_moveAll rfl ⟨by decide, by decide⟩ ⟨rfl, rfl⟩ (Nat.le_of_ble_eq_true rfl) dX6_read_40 rfl ?_ rfl
      refine (show kV Z 6 43 [(4, .int (0 : Int32)), (3, .int q1.1), (0, kr Z 59), (1, .int v1), (2, .int v2)] [] s7 from ?_)
      refine k_iconst C (0 : Int32) dX6_read_43 (by decide) rfl ?_
      refine k_istore (lv' := [(5, .int (0 : Int32)), (4, .int (0 : Int32)), (3, .int q1.1), (0, kr Z 59), (1, .int v1), (2, .int v2)]) C dX6_read_44 (by decide) rfl rfl ?_
      refine k_lv (lv' := [(0, kr Z 59), (1, .int v1), (2, .int v2), (4, .int (0 : Int32)), (5, .int (0 : Int32))]) [3, 4, 5, 1, 0] rfl ?_
      exact tX6_read_46 C K _ v1 v2 (0 : Int32) (0 : Int32) s7 hf
    · replace hf := kf_t hf b6
      refine k_aload_n C 1 dX6_read_24 rfl rfl rfl ?_
      refine k_ldc C (-1000000001 : Int32) kw_4_67 dX6_read_25 rfl ?_
      obtain ⟨q9, e10, hf⟩ := kf_b hf
      refine k_callV C [.int (-1000000001 : Int32)] (mX6_finds e10) rfl (by decide) rfl kw_4_68 kw_4_70 kw_0_24 kw_1_7 kw_4_71 qX6_finds rfl ⟨by decide, by decide⟩ ⟨rfl, rfl⟩ (Nat.le_of_ble_eq_true rfl) dX6_read_27 rfl ?_ rfl
      refine (show kV Z 6 30 [(3, .int q1.1), (0, kr Z 59), (1, .int v1), (2, .int v2)] [.int q9.1] q9.2 from ?_)
      exact k_iret C K hf dX6_read_30
  · replace hf := kf_f hf b3
    refine k_aload_n C 1 dX6_read_10 rfl rfl rfl ?_
    refine k_iload_n C 0 dX6_read_11 rfl rfl rfl ?_
    obtain ⟨q11, e12, hf⟩ := kf_b hf
    refine k_callV C [.int q1.1] (mX6_finds e12) rfl (by decide) rfl kw_4_68 kw_4_70 kw_0_24 kw_1_7 kw_4_71 qX6_finds rfl ⟨by decide, by decide⟩ ⟨rfl, rfl⟩ (Nat.le_of_ble_eq_true rfl) dX6_read_12 rfl ?_ rfl
    refine (show kV Z 6 15 [(3, .int q1.1), (0, kr Z 59), (1, .int v1), (2, .int v2)] [.int q11.1] q11.2 from ?_)
    exact k_iret C K hf dX6_read_15
theorem mX6_read {G : kG} {v1 : Int32} {v2 : Int32}  {st : kM} {res : Int32 × kM} (hf : fX6_read v1 v2 st = some res) : kCt G yX6_read cX6_read 6 (some .int) rmX6_read [.ref (G.2.1 59), .int v1, .int v2] st (some (.int res.1)) res.2 := kMet (by decide) (Nat.le_of_ble_eq_true rfl) ⟨rfl, rfl⟩ (fun X A Q C K => tX6_read C  hf K)
theorem qX6_read : yX6_read.cls = RX6 ∧ yX6_read.cls ≠ "java/lang/invoke/MethodHandle" ∧ yX6_read.cls ≠ "java/lang/invoke/VarHandle" ∧ (parseMethodDescriptor yX6_read.desc).map (fun d => d.parameters.length) = some 2 := ⟨rfl, by decide, by decide, by decide +kernel⟩
-- TalkKnotsModel.image()I
def rmX6_image : Room := { frames := 1, cells := 0, slots := 0, locals := 23 }
def fX6_image (st : kM) : Option (Int32 × kM) :=
  (fX6_moveAll (1 : Int32) 69 st).bind fun s1 => ((some (kwr s1 59 18 (1 : Int32))).bind fun s3 => (some ((1 : Int32), s3)))
set_option maxRecDepth 100000 in
theorem tX6_image {Z : kZ} (C : kC Z cX6_image RX6 1 rmX6_image)   {st : kM} {res : Int32 × kM} (hf : fX6_image st = some res) (K : kEnd Z (some .int) (some (.int res.1)) res.2) : kV Z 1 0 [(0, kr Z 59)] [] st := by
  unfold fX6_image at hf
  refine k_aload_n C 0 dX6_image_0 rfl rfl rfl ?_
  refine k_iconst C (1 : Int32) dX6_image_1 (by decide) rfl ?_
  refine k_aload_n C 0 dX6_image_2 rfl rfl rfl ?_
  refine g_X6_image C rfl kw_4_14 dX6_image_3 rfl ?_
  obtain ⟨s1, e2, hf⟩ := kf_b hf
  refine k_callV C [.int (1 : Int32), kr Z 69] (mX6_moveAll ⟨rfl, rfl⟩ e2) rfl (by decide) rfl kw_4_227 kw_4_229 kw_0_45 kw_1_7 kw_4_230 qX6_moveAll rfl ⟨by decide, by decide⟩ ⟨rfl, rfl⟩ (Nat.le_of_ble_eq_true rfl) dX6_image_6 rfl ?_ rfl
  refine (show kV Z 1 9 [(0, kr Z 59)] [] s1 from ?_)
  refine k_aload_n C 0 dX6_image_9 rfl rfl rfl ?_
  refine k_iconst C (1 : Int32) dX6_image_10 (by decide) rfl ?_
  refine p_X6_isKept C (by decide) rfl kw_4_16 dX6_image_11 rfl ?_
  obtain ⟨s3, e4, hf⟩ := kf_b hf
  refine k_st e4 ?_
  refine k_iconst C (1 : Int32) dX6_image_14 (by decide) rfl ?_
  exact k_iret C K hf dX6_image_15
theorem mX6_image {G : kG}   {st : kM} {res : Int32 × kM} (hf : fX6_image st = some res) : kCt G yX6_image cX6_image 1 (some .int) rmX6_image [.ref (G.2.1 59)] st (some (.int res.1)) res.2 := kMet (by decide) (Nat.le_of_ble_eq_true rfl) ⟨rfl, rfl⟩ (fun X A Q C K => tX6_image C  hf K)
theorem qX6_image : yX6_image.cls = RX6 ∧ yX6_image.cls ≠ "java/lang/invoke/MethodHandle" ∧ yX6_image.cls ≠ "java/lang/invoke/VarHandle" ∧ (parseMethodDescriptor yX6_image.desc).map (fun d => d.parameters.length) = some 0 := ⟨rfl, by decide, by decide, by decide +kernel⟩
-- TalkKnotsModel.undo()I
def rmX6_undo : Room := { frames := 1, cells := 0, slots := 0, locals := 23 }
def fX6_undo (st : kM) : Option (Int32 × kM) :=
  if (st.1 59 18) = 0 then ((fX6_finds (-1000000004 : Int32) st).bind fun q4 => (some (q4.1, q4.2))) else ((fX6_moveAll (0 : Int32) 69 st).bind fun s2 => (some ((s2.1 60 1), s2)))
set_option maxRecDepth 100000 in
theorem tX6_undo {Z : kZ} (C : kC Z cX6_undo RX6 1 rmX6_undo)   {st : kM} {res : Int32 × kM} (hf : fX6_undo st = some res) (K : kEnd Z (some .int) (some (.int res.1)) res.2) : kV Z 1 0 [(0, kr Z 59)] [] st := by
  unfold fX6_undo at hf
  refine k_aload_n C 0 dX6_undo_0 rfl rfl rfl ?_
  refine g_X6_isKept C rfl kw_4_16 dX6_undo_1 rfl ?_
  refine k_if_ne C 14 dX6_undo_4 rfl rfl (fun b1 => ?_) (fun b1 => ?_)
  · replace hf := kf_f hf b1
    refine k_aload_n C 0 dX6_undo_14 rfl rfl rfl ?_
    refine k_iconst C (0 : Int32) dX6_undo_15 (by decide) rfl ?_
    refine k_aload_n C 0 dX6_undo_16 rfl rfl rfl ?_
    refine g_X6_image C rfl kw_4_14 dX6_undo_17 rfl ?_
    obtain ⟨s2, e3, hf⟩ := kf_b hf
    refine k_callV C [.int (0 : Int32), kr Z 69] (mX6_moveAll ⟨rfl, rfl⟩ e3) rfl (by decide) rfl kw_4_227 kw_4_229 kw_0_45 kw_1_7 kw_4_230 qX6_moveAll rfl ⟨by decide, by decide⟩ ⟨rfl, rfl⟩ (Nat.le_of_ble_eq_true rfl) dX6_undo_20 rfl ?_ rfl
    refine (show kV Z 1 23 [(0, kr Z 59)] [] s2 from ?_)
    refine k_aload_n C 0 dX6_undo_23 rfl rfl rfl ?_
    refine g_X6_row C rfl kw_3_238 dX6_undo_24 rfl ?_
    refine k_iconst C (1 : Int32) dX6_undo_27 (by decide) rfl ?_
    refine k_iald (j := 1) C ⟨rfl, rfl⟩ (by decide) rfl dX6_undo_28 rfl ?_
    exact k_iret C K hf dX6_undo_29
  · replace hf := kf_t hf b1
    refine k_aload_n C 0 dX6_undo_7 rfl rfl rfl ?_
    refine k_ldc C (-1000000004 : Int32) kw_5_3 dX6_undo_8 rfl ?_
    obtain ⟨q4, e5, hf⟩ := kf_b hf
    refine k_callV C [.int (-1000000004 : Int32)] (mX6_finds e5) rfl (by decide) rfl kw_4_68 kw_4_70 kw_0_24 kw_1_7 kw_4_71 qX6_finds rfl ⟨by decide, by decide⟩ ⟨rfl, rfl⟩ (Nat.le_of_ble_eq_true rfl) dX6_undo_10 rfl ?_ rfl
    refine (show kV Z 1 13 [(0, kr Z 59)] [.int q4.1] q4.2 from ?_)
    exact k_iret C K hf dX6_undo_13
theorem mX6_undo {G : kG}   {st : kM} {res : Int32 × kM} (hf : fX6_undo st = some res) : kCt G yX6_undo cX6_undo 1 (some .int) rmX6_undo [.ref (G.2.1 59)] st (some (.int res.1)) res.2 := kMet (by decide) (Nat.le_of_ble_eq_true rfl) ⟨rfl, rfl⟩ (fun X A Q C K => tX6_undo C  hf K)
theorem qX6_undo : yX6_undo.cls = RX6 ∧ yX6_undo.cls ≠ "java/lang/invoke/MethodHandle" ∧ yX6_undo.cls ≠ "java/lang/invoke/VarHandle" ∧ (parseMethodDescriptor yX6_undo.desc).map (fun d => d.parameters.length) = some 0 := ⟨rfl, by decide, by decide, by decide +kernel⟩
-- TalkKnotsModel.tear()I
def rmX6_tear : Room := { frames := 0, cells := 0, slots := 0, locals := 0 }
def fX6_tear (st : kM) : Option (Int32 × kM) :=
  if (st.1 59 18) = 0 then ((some (kwr st 59 18 (0 : Int32))).bind fun s2 => (some ((0 : Int32), s2))) else ((some (kwr st 59 18 (0 : Int32))).bind fun s4 => (some ((1 : Int32), s4)))
set_option maxRecDepth 100000 in
theorem tX6_tear {Z : kZ} (C : kC Z cX6_tear RX6 2 rmX6_tear)   {st : kM} {res : Int32 × kM} (hf : fX6_tear st = some res) (K : kEnd Z (some .int) (some (.int res.1)) res.2) : kV Z 2 0 [(0, kr Z 59)] [] st := by
  unfold fX6_tear at hf
  refine k_aload_n C 0 dX6_tear_0 rfl rfl rfl ?_
  refine g_X6_isKept C rfl kw_4_16 dX6_tear_1 rfl ?_
  refine k_if_eq C 11 dX6_tear_4 rfl rfl (fun b1 => ?_) (fun b1 => ?_)
  · replace hf := kf_t hf b1
    refine k_iconst C (0 : Int32) dX6_tear_11 (by decide) rfl ?_
    refine k_istore_n (lv' := [(1, .int (0 : Int32)), (0, kr Z 59)]) C dX6_tear_12 rfl (by decide) rfl rfl ?_
    refine k_aload_n C 1 dX6_tear_13 rfl rfl rfl ?_
    refine k_iconst C (0 : Int32) dX6_tear_14 (by decide) rfl ?_
    refine p_X6_isKept C (by decide) rfl kw_4_16 dX6_tear_15 rfl ?_
    obtain ⟨s2, e3, hf⟩ := kf_b hf
    refine k_st e3 ?_
    refine k_iload_n C 0 dX6_tear_18 rfl rfl rfl ?_
    exact k_iret C K hf dX6_tear_19
  · replace hf := kf_f hf b1
    refine k_iconst C (1 : Int32) dX6_tear_7 (by decide) rfl ?_
    refine k_goto C 12 dX6_tear_8 rfl ?_
    refine k_istore_n (lv' := [(1, .int (1 : Int32)), (0, kr Z 59)]) C dX6_tear_12 rfl (by decide) rfl rfl ?_
    refine k_aload_n C 1 dX6_tear_13 rfl rfl rfl ?_
    refine k_iconst C (0 : Int32) dX6_tear_14 (by decide) rfl ?_
    refine p_X6_isKept C (by decide) rfl kw_4_16 dX6_tear_15 rfl ?_
    obtain ⟨s4, e5, hf⟩ := kf_b hf
    refine k_st e5 ?_
    refine k_iload_n C 0 dX6_tear_18 rfl rfl rfl ?_
    exact k_iret C K hf dX6_tear_19
theorem mX6_tear {G : kG}   {st : kM} {res : Int32 × kM} (hf : fX6_tear st = some res) : kCt G yX6_tear cX6_tear 2 (some .int) rmX6_tear [.ref (G.2.1 59)] st (some (.int res.1)) res.2 := kMet (by decide) (Nat.le_of_ble_eq_true rfl) ⟨rfl, rfl⟩ (fun X A Q C K => tX6_tear C  hf K)
theorem qX6_tear : yX6_tear.cls = RX6 ∧ yX6_tear.cls ≠ "java/lang/invoke/MethodHandle" ∧ yX6_tear.cls ≠ "java/lang/invoke/VarHandle" ∧ (parseMethodDescriptor yX6_tear.desc).map (fun d => d.parameters.length) = some 0 := ⟨rfl, by decide, by decide, by decide +kernel⟩
-- TalkKnotsModel.weights()I
def rmX6_weights : Room := { frames := 1, cells := 0, slots := 0, locals := 22 }
def fX6_weights_4 : Nat → Int32 → Int32 → kM → Option (Int32 × kM)
  | 0, _, _, _ => none
  | n + 1, x1, x2, st =>
    if (4 : Int32) ≤ x2 then (some (x1, st)) else ((fX6_ofMast x2 (0 : Int32) st).bind fun q2 => ((some (x1 + q2.1)).bind fun z4 => (fX6_weights_4 n z4 (x2 + (1 : Int32)) q2.2)))
def fX6_weights (st : kM) : Option (Int32 × kM) :=
  fX6_weights_4 kfu (0 : Int32) (0 : Int32) st
set_option maxRecDepth 100000 in
theorem tX6_weights_4 {Z : kZ} (C : kC Z cX6_weights RX6 3 rmX6_weights) {res : Int32 × kM} (K : kEnd Z (some .int) (some (.int res.1)) res.2) : ∀ (n : Nat) (x1 : Int32) (x2 : Int32) (st : kM), fX6_weights_4 n x1 x2 st = some res → kV Z 3 4 [(0, kr Z 59), (1, .int x1), (2, .int x2)] [] st := by
  intro n
  induction n with
  | zero => intro x1 x2 st hf; cases hf
  | succ n ih =>
    intro x1 x2 st hf
    unfold fX6_weights_4 at hf
    refine k_iload_n C 2 dX6_weights_4 rfl rfl rfl ?_
    refine k_iconst C (4 : Int32) dX6_weights_5 (by decide) rfl ?_
    refine k_icmp_ge C 24 dX6_weights_6 rfl rfl (fun b1 => ?_) (fun b1 => ?_)
    · replace hf := kf_t hf b1
      refine k_iload_n C 1 dX6_weights_24 rfl rfl rfl ?_
      exact k_iret C K hf dX6_weights_25
    · replace hf := kf_f hf b1
      refine k_iload_n C 1 dX6_weights_9 rfl rfl rfl ?_
      refine k_aload_n C 0 dX6_weights_10 rfl rfl rfl ?_
      refine k_iload_n C 2 dX6_weights_11 rfl rfl rfl ?_
      refine k_iconst C (0 : Int32) dX6_weights_12 (by decide) rfl ?_
      obtain ⟨q2, e3, hf⟩ := kf_b hf
      refine k_callV C [.int x2, .int (0 : Int32)] (mX6_ofMast e3) rfl (by decide) rfl kw_4_87 kw_4_89 kw_0_25 kw_1_7 kw_4_90 qX6_ofMast rfl ⟨by decide, by decide⟩ ⟨rfl, rfl⟩ (Nat.le_of_ble_eq_true rfl) dX6_weights_13 rfl ?_ rfl
      refine (show kV Z 3 16 [(0, kr Z 59), (1, .int x1), (2, .int x2)] [.int q2.1, .int x1] q2.2 from ?_)
      refine k_iadd C dX6_weights_16 rfl ?_
      obtain ⟨z4, e5, hf⟩ := kf_b hf
      refine k_topi e5 ?_
      refine k_istore_n (lv' := [(1, .int z4), (0, kr Z 59), (2, .int x2)]) C dX6_weights_17 rfl (by decide) rfl rfl ?_
      refine k_iinc (lv' := [(2, .int (x2 + (1 : Int32))), (1, .int z4), (0, kr Z 59)]) C (x2 + (1 : Int32)) 2 dX6_weights_18 rfl rfl (by decide) rfl rfl ?_
      refine k_goto C 4 dX6_weights_21 rfl ?_
      refine k_lv (lv' := [(0, kr Z 59), (1, .int z4), (2, .int (x2 + (1 : Int32)))]) [2, 1, 0] rfl ?_
      exact ih z4 (x2 + (1 : Int32)) q2.2  hf
set_option maxRecDepth 100000 in
theorem tX6_weights {Z : kZ} (C : kC Z cX6_weights RX6 3 rmX6_weights)   {st : kM} {res : Int32 × kM} (hf : fX6_weights st = some res) (K : kEnd Z (some .int) (some (.int res.1)) res.2) : kV Z 3 0 [(0, kr Z 59)] [] st := by
  unfold fX6_weights at hf
  refine k_iconst C (0 : Int32) dX6_weights_0 (by decide) rfl ?_
  refine k_istore_n (lv' := [(1, .int (0 : Int32)), (0, kr Z 59)]) C dX6_weights_1 rfl (by decide) rfl rfl ?_
  refine k_iconst C (0 : Int32) dX6_weights_2 (by decide) rfl ?_
  refine k_istore_n (lv' := [(2, .int (0 : Int32)), (1, .int (0 : Int32)), (0, kr Z 59)]) C dX6_weights_3 rfl (by decide) rfl rfl ?_
  refine k_lv (lv' := [(0, kr Z 59), (1, .int (0 : Int32)), (2, .int (0 : Int32))]) [2, 1, 0] rfl ?_
  exact tX6_weights_4 C K _ (0 : Int32) (0 : Int32) st hf
theorem mX6_weights {G : kG}   {st : kM} {res : Int32 × kM} (hf : fX6_weights st = some res) : kCt G yX6_weights cX6_weights 3 (some .int) rmX6_weights [.ref (G.2.1 59)] st (some (.int res.1)) res.2 := kMet (by decide) (Nat.le_of_ble_eq_true rfl) ⟨rfl, rfl⟩ (fun X A Q C K => tX6_weights C  hf K)
theorem qX6_weights : yX6_weights.cls = RX6 ∧ yX6_weights.cls ≠ "java/lang/invoke/MethodHandle" ∧ yX6_weights.cls ≠ "java/lang/invoke/VarHandle" ∧ (parseMethodDescriptor yX6_weights.desc).map (fun d => d.parameters.length) = some 0 := ⟨rfl, by decide, by decide, by decide +kernel⟩
-- TalkKnotsModel.count(I)I
def rmX6_count : Room := { frames := 2, cells := 0, slots := 0, locals := 45 }
def fX6_count (v1 : Int32) (st : kM) : Option (Int32 × kM) :=
  if v1 = (0 : Int32) then (some ((st.1 60 1), st)) else (if v1 = (1 : Int32) then (some ((st.1 59 5), st)) else (if v1 = (2 : Int32) then ((fX6_weights st).bind fun q4 => (some (q4.1, q4.2))) else (if v1 = (3 : Int32) then ((fX6_sumOf (4 : Int32) st).bind fun q7 => (some (q7.1, q7.2))) else ((fX6_finds (-1000000001 : Int32) st).bind fun q9 => (some (q9.1, q9.2))))))
set_option maxRecDepth 100000 in
theorem tX6_count {Z : kZ} (C : kC Z cX6_count RX6 2 rmX6_count) {v1 : Int32}  {st : kM} {res : Int32 × kM} (hf : fX6_count v1 st = some res) (K : kEnd Z (some .int) (some (.int res.1)) res.2) : kV Z 2 0 [(0, kr Z 59), (1, .int v1)] [] st := by
  unfold fX6_count at hf
  refine k_iload_n C 1 dX6_count_0 rfl rfl rfl ?_
  by_cases b1 : v1 = (0 : Int32)
  · replace hf := kf_t hf b1
    refine k_tabIn C 32 dX6_count_1 (by rw [b1]; decide) (by rw [b1]; decide) (by rw [b1]; rfl) rfl ?_
    refine k_aload_n C 0 dX6_count_32 rfl rfl rfl ?_
    refine g_X6_row C rfl kw_3_238 dX6_count_33 rfl ?_
    refine k_iconst C (1 : Int32) dX6_count_36 (by decide) rfl ?_
    refine k_iald (j := 1) C ⟨rfl, rfl⟩ (by decide) rfl dX6_count_37 rfl ?_
    exact k_iret C K hf dX6_count_38
  · replace hf := kf_f hf b1
    by_cases b2 : v1 = (1 : Int32)
    · replace hf := kf_t hf b2
      refine k_tabIn C 39 dX6_count_1 (by rw [b2]; decide) (by rw [b2]; decide) (by rw [b2]; rfl) rfl ?_
      refine k_aload_n C 0 dX6_count_39 rfl rfl rfl ?_
      refine g_X6_tapeMany C rfl kw_4_3 dX6_count_40 rfl ?_
      exact k_iret C K hf dX6_count_43
    · replace hf := kf_f hf b2
      by_cases b3 : v1 = (2 : Int32)
      · replace hf := kf_t hf b3
        refine k_tabIn C 44 dX6_count_1 (by rw [b3]; decide) (by rw [b3]; decide) (by rw [b3]; rfl) rfl ?_
        refine k_aload_n C 0 dX6_count_44 rfl rfl rfl ?_
        obtain ⟨q4, e5, hf⟩ := kf_b hf
        refine k_callV C [] (mX6_weights e5) rfl (by decide) rfl kw_5_178 kw_5_180 kw_0_62 kw_1_7 kw_5_181 qX6_weights rfl ⟨by decide, by decide⟩ ⟨rfl, rfl⟩ (Nat.le_of_ble_eq_true rfl) dX6_count_45 rfl ?_ rfl
        refine (show kV Z 2 48 [(0, kr Z 59), (1, .int v1)] [.int q4.1] q4.2 from ?_)
        exact k_iret C K hf dX6_count_48
      · replace hf := kf_f hf b3
        by_cases b6 : v1 = (3 : Int32)
        · replace hf := kf_t hf b6
          refine k_tabIn C 49 dX6_count_1 (by rw [b6]; decide) (by rw [b6]; decide) (by rw [b6]; rfl) rfl ?_
          refine k_aload_n C 0 dX6_count_49 rfl rfl rfl ?_
          refine k_iconst C (4 : Int32) dX6_count_50 (by decide) rfl ?_
          obtain ⟨q7, e8, hf⟩ := kf_b hf
          refine k_callV C [.int (4 : Int32)] (mX6_sumOf e8) rfl (by decide) rfl kw_4_133 kw_4_135 kw_0_34 kw_1_7 kw_4_136 qX6_sumOf rfl ⟨by decide, by decide⟩ ⟨rfl, rfl⟩ (Nat.le_of_ble_eq_true rfl) dX6_count_51 rfl ?_ rfl
          refine (show kV Z 2 54 [(0, kr Z 59), (1, .int v1)] [.int q7.1] q7.2 from ?_)
          exact k_iret C K hf dX6_count_54
        · replace hf := kf_f hf b6
          have zb1 := ti_ne (0 : Int32) b1 (z := 0) rfl
          have zb2 := ti_ne (1 : Int32) b2 (z := 1) rfl
          have zb3 := ti_ne (2 : Int32) b3 (z := 2) rfl
          have zb6 := ti_ne (3 : Int32) b6 (z := 3) rfl
          refine k_tabOut C 55 dX6_count_1 (by omega) rfl ?_
          refine k_aload_n C 0 dX6_count_55 rfl rfl rfl ?_
          refine k_ldc C (-1000000001 : Int32) kw_4_67 dX6_count_56 rfl ?_
          obtain ⟨q9, e10, hf⟩ := kf_b hf
          refine k_callV C [.int (-1000000001 : Int32)] (mX6_finds e10) rfl (by decide) rfl kw_4_68 kw_4_70 kw_0_24 kw_1_7 kw_4_71 qX6_finds rfl ⟨by decide, by decide⟩ ⟨rfl, rfl⟩ (Nat.le_of_ble_eq_true rfl) dX6_count_58 rfl ?_ rfl
          refine (show kV Z 2 61 [(0, kr Z 59), (1, .int v1)] [.int q9.1] q9.2 from ?_)
          exact k_iret C K hf dX6_count_61
theorem mX6_count {G : kG} {v1 : Int32}  {st : kM} {res : Int32 × kM} (hf : fX6_count v1 st = some res) : kCt G yX6_count cX6_count 2 (some .int) rmX6_count [.ref (G.2.1 59), .int v1] st (some (.int res.1)) res.2 := kMet (by decide) (Nat.le_of_ble_eq_true rfl) ⟨rfl, rfl⟩ (fun X A Q C K => tX6_count C  hf K)
theorem qX6_count : yX6_count.cls = RX6 ∧ yX6_count.cls ≠ "java/lang/invoke/MethodHandle" ∧ yX6_count.cls ≠ "java/lang/invoke/VarHandle" ∧ (parseMethodDescriptor yX6_count.desc).map (fun d => d.parameters.length) = some 1 := ⟨rfl, by decide, by decide, by decide +kernel⟩
-- TalkKnotsModel.status(I)I
def rmX6_status : Room := { frames := 1, cells := 0, slots := 0, locals := 22 }
def fX6_status_21 : Nat → Int32 → Int32 → Int32 → kM → Option (Int32 × kM)
  | 0, _, _, _, _ => none
  | n + 1, x1, x2, x3, st =>
    if (7 : Int32) ≤ x3 then (if 0 ≤ x1 then (if 0 ≤ x1 then (if x1 < 0 ∨ 7 ≤ x1.toNatClampNeg then none else (some ((st.1 61 x1.toNatClampNeg), st))) else (some ((st.1 61 0), st))) else (some (x2, st))) else (if x3 < 0 ∨ 7 ≤ x3.toNatClampNeg then none else ((some (x2 + (st.1 61 x3.toNatClampNeg))).bind fun z6 => (fX6_status_21 n x1 z6 (x3 + (1 : Int32)) st)))
def fX6_status (v1 : Int32) (st : kM) : Option (Int32 × kM) :=
  (fX6_in v1 (-1 : Int32) (6 : Int32) st).bind fun q1 => (if q1.1 = 0 then ((fX6_finds (-1000000001 : Int32) q1.2).bind fun q4 => (some (q4.1, q4.2))) else (fX6_status_21 kfu v1 (0 : Int32) (0 : Int32) q1.2))
set_option maxRecDepth 100000 in
theorem tX6_status_21 {Z : kZ} (C : kC Z cX6_status RX6 4 rmX6_status) {res : Int32 × kM} (K : kEnd Z (some .int) (some (.int res.1)) res.2) : ∀ (n : Nat) (x1 : Int32) (x2 : Int32) (x3 : Int32) (st : kM), fX6_status_21 n x1 x2 x3 st = some res → kV Z 4 21 [(0, kr Z 59), (1, .int x1), (2, .int x2), (3, .int x3)] [] st := by
  intro n
  induction n with
  | zero => intro x1 x2 x3 st hf; cases hf
  | succ n ih =>
    intro x1 x2 x3 st hf
    unfold fX6_status_21 at hf
    refine k_iload_n C 3 dX6_status_21 rfl rfl rfl ?_
    refine k_bipush C (7 : Int32) dX6_status_22 (by decide) rfl ?_
    refine k_icmp_ge C 42 dX6_status_24 rfl rfl (fun b1 => ?_) (fun b1 => ?_)
    · replace hf := kf_t hf b1
      refine k_iload_n C 1 dX6_status_42 rfl rfl rfl ?_
      refine k_if_ge C 50 dX6_status_43 rfl rfl (fun b2 => ?_) (fun b2 => ?_)
      · replace hf := kf_t hf b2
        refine k_aload_n C 0 dX6_status_50 rfl rfl rfl ?_
        refine g_X6_found C rfl kw_3_239 dX6_status_51 rfl ?_
        refine k_iload_n C 1 dX6_status_54 rfl rfl rfl ?_
        refine k_if_ge C 62 dX6_status_55 rfl rfl (fun b3 => ?_) (fun b3 => ?_)
        · replace hf := kf_t hf b3
          refine k_iload_n C 1 dX6_status_62 rfl rfl rfl ?_
          obtain ⟨g4, hf⟩ := kf_g hf
          refine k_iald (j := x1.toNatClampNeg) C ⟨rfl, rfl⟩ g4 rfl dX6_status_63 rfl ?_
          exact k_iret C K hf dX6_status_64
        · replace hf := kf_f hf b3
          refine k_iconst C (0 : Int32) dX6_status_58 (by decide) rfl ?_
          refine k_goto C 63 dX6_status_59 rfl ?_
          refine k_iald (j := 0) C ⟨rfl, rfl⟩ (by decide) rfl dX6_status_63 rfl ?_
          exact k_iret C K hf dX6_status_64
      · replace hf := kf_f hf b2
        refine k_iload_n C 2 dX6_status_46 rfl rfl rfl ?_
        refine k_goto C 64 dX6_status_47 rfl ?_
        exact k_iret C K hf dX6_status_64
    · replace hf := kf_f hf b1
      refine k_iload_n C 2 dX6_status_27 rfl rfl rfl ?_
      refine k_aload_n C 0 dX6_status_28 rfl rfl rfl ?_
      refine g_X6_found C rfl kw_3_239 dX6_status_29 rfl ?_
      refine k_iload_n C 3 dX6_status_32 rfl rfl rfl ?_
      obtain ⟨g5, hf⟩ := kf_g hf
      refine k_iald (j := x3.toNatClampNeg) C ⟨rfl, rfl⟩ g5 rfl dX6_status_33 rfl ?_
      refine k_iadd C dX6_status_34 rfl ?_
      obtain ⟨z6, e7, hf⟩ := kf_b hf
      refine k_topi e7 ?_
      refine k_istore_n (lv' := [(2, .int z6), (0, kr Z 59), (1, .int x1), (3, .int x3)]) C dX6_status_35 rfl (by decide) rfl rfl ?_
      refine k_iinc (lv' := [(3, .int (x3 + (1 : Int32))), (2, .int z6), (0, kr Z 59), (1, .int x1)]) C (x3 + (1 : Int32)) 3 dX6_status_36 rfl rfl (by decide) rfl rfl ?_
      refine k_goto C 21 dX6_status_39 rfl ?_
      refine k_lv (lv' := [(0, kr Z 59), (1, .int x1), (2, .int z6), (3, .int (x3 + (1 : Int32)))]) [2, 3, 1, 0] rfl ?_
      exact ih x1 z6 (x3 + (1 : Int32)) st  hf
set_option maxRecDepth 100000 in
theorem tX6_status {Z : kZ} (C : kC Z cX6_status RX6 4 rmX6_status) {v1 : Int32}  {st : kM} {res : Int32 × kM} (hf : fX6_status v1 st = some res) (K : kEnd Z (some .int) (some (.int res.1)) res.2) : kV Z 4 0 [(0, kr Z 59), (1, .int v1)] [] st := by
  unfold fX6_status at hf
  refine k_iload_n C 1 dX6_status_0 rfl rfl rfl ?_
  refine k_iconst C (-1 : Int32) dX6_status_1 (by decide) rfl ?_
  refine k_bipush C (6 : Int32) dX6_status_2 (by decide) rfl ?_
  obtain ⟨q1, e2, hf⟩ := kf_b hf
  refine k_callS C [.int v1, .int (-1 : Int32), .int (6 : Int32)] (mX6_in e2) kw_4_60 kw_4_61 kw_1_7 kw_4_62 qX6_in rfl ⟨by decide, by decide⟩ ⟨rfl, rfl⟩ (Nat.le_of_ble_eq_true rfl) dX6_status_4 rfl ?_ rfl
  refine (show kV Z 4 7 [(0, kr Z 59), (1, .int v1)] [.int q1.1] q1.2 from ?_)
  refine k_if_ne C 17 dX6_status_7 rfl rfl (fun b3 => ?_) (fun b3 => ?_)
  · replace hf := kf_f hf b3
    refine k_iconst C (0 : Int32) dX6_status_17 (by decide) rfl ?_
    refine k_istore_n (lv' := [(2, .int (0 : Int32)), (0, kr Z 59), (1, .int v1)]) C dX6_status_18 rfl (by decide) rfl rfl ?_
    refine k_iconst C (0 : Int32) dX6_status_19 (by decide) rfl ?_
    refine k_istore_n (lv' := [(3, .int (0 : Int32)), (2, .int (0 : Int32)), (0, kr Z 59), (1, .int v1)]) C dX6_status_20 rfl (by decide) rfl rfl ?_
    refine k_lv (lv' := [(0, kr Z 59), (1, .int v1), (2, .int (0 : Int32)), (3, .int (0 : Int32))]) [2, 3, 1, 0] rfl ?_
    exact tX6_status_21 C K _ v1 (0 : Int32) (0 : Int32) q1.2 hf
  · replace hf := kf_t hf b3
    refine k_aload_n C 0 dX6_status_10 rfl rfl rfl ?_
    refine k_ldc C (-1000000001 : Int32) kw_4_67 dX6_status_11 rfl ?_
    obtain ⟨q4, e5, hf⟩ := kf_b hf
    refine k_callV C [.int (-1000000001 : Int32)] (mX6_finds e5) rfl (by decide) rfl kw_4_68 kw_4_70 kw_0_24 kw_1_7 kw_4_71 qX6_finds rfl ⟨by decide, by decide⟩ ⟨rfl, rfl⟩ (Nat.le_of_ble_eq_true rfl) dX6_status_13 rfl ?_ rfl
    refine (show kV Z 4 16 [(0, kr Z 59), (1, .int v1)] [.int q4.1] q4.2 from ?_)
    exact k_iret C K hf dX6_status_16
theorem mX6_status {G : kG} {v1 : Int32}  {st : kM} {res : Int32 × kM} (hf : fX6_status v1 st = some res) : kCt G yX6_status cX6_status 4 (some .int) rmX6_status [.ref (G.2.1 59), .int v1] st (some (.int res.1)) res.2 := kMet (by decide) (Nat.le_of_ble_eq_true rfl) ⟨rfl, rfl⟩ (fun X A Q C K => tX6_status C  hf K)
theorem qX6_status : yX6_status.cls = RX6 ∧ yX6_status.cls ≠ "java/lang/invoke/MethodHandle" ∧ yX6_status.cls ≠ "java/lang/invoke/VarHandle" ∧ (parseMethodDescriptor yX6_status.desc).map (fun d => d.parameters.length) = some 1 := ⟨rfl, by decide, by decide, by decide +kernel⟩
