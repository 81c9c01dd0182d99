-- TalkKnotsModel.oneHour()V
def rmX6_oneHour : Room := { frames := 5, cells := 0, slots := 0, locals := 117 }
def fX6_oneHour_30 : Nat → Int32 → kM → Option (kM)
  | 0, _, _ => none
  | n + 1, x1, st =>
    if (st.1 60 1) ≤ x1 then ((some (kwr st 60 0 ((st.1 60 0) + (1 : Int32)))).bind fun s2 => (some s2)) else ((fX6_its x1 (3 : Int32) st).bind fun q4 => (if q4.1 = (1 : Int32) then ((fX6_its x1 (2 : Int32) q4.2).bind fun q7 => ((fX6_settling x1 q7.2).bind fun q9 => ((fX6_held (q7.1 - q9.1) (0 : Int32) (99 : Int32) q9.2).bind fun q11 => ((fX6_puts x1 (2 : Int32) q11.1 q11.2).bind fun s13 => ((fX6_its x1 (4 : Int32) s13).bind fun q15 => ((fX6_held (q15.1 + (1 : Int32)) (0 : Int32) (9999 : Int32) q15.2).bind fun q17 => ((fX6_puts x1 (4 : Int32) q17.1 q17.2).bind fun s19 => (fX6_oneHour_30 n (x1 + (1 : Int32)) s19)))))))) else (fX6_oneHour_30 n (x1 + (1 : Int32)) q4.2)))
def fX6_oneHour_2 : Nat → Int32 → kM → Option (kM)
  | 0, _, _ => none
  | n + 1, x1, st =>
    if (4 : Int32) ≤ x1 then (fX6_oneHour_30 kfu (0 : Int32) st) else ((fX6_ofMast x1 (1 : Int32) st).bind fun q2 => (if q2.1 = (1 : Int32) then ((fX6_pulls x1 q2.2).bind fun s5 => (fX6_oneHour_2 n (x1 + (1 : Int32)) s5)) else (fX6_oneHour_2 n (x1 + (1 : Int32)) q2.2)))
def fX6_oneHour (st : kM) : Option (kM) :=
  fX6_oneHour_2 kfu (0 : Int32) st
set_option maxRecDepth 100000 in
theorem tX6_oneHour_30 {Z : kZ} (C : kC Z cX6_oneHour RX6 2 rmX6_oneHour) {res : kM} (K : kEnd Z none none res) : ∀ (n : Nat) (x1 : Int32) (st : kM), fX6_oneHour_30 n x1 st = some res → kV Z 2 30 [(0, kr Z 59), (1, .int x1)] [] st := by
  intro n
  induction n with
  | zero => intro x1 st hf; cases hf
  | succ n ih =>
    intro x1 st hf
    unfold fX6_oneHour_30 at hf
    refine k_iload_n C 1 dX6_oneHour_30 rfl rfl rfl ?_
    refine k_aload_n C 0 dX6_oneHour_31 rfl rfl rfl ?_
    refine g_X6_row C rfl kw_3_238 dX6_oneHour_32 rfl ?_
    refine k_iconst C (1 : Int32) dX6_oneHour_35 (by decide) rfl ?_
    refine k_iald (j := 1) C ⟨rfl, rfl⟩ (by decide) rfl dX6_oneHour_36 rfl ?_
    refine k_icmp_ge C 101 dX6_oneHour_37 rfl rfl (fun b1 => ?_) (fun b1 => ?_)
    · replace hf := kf_t hf b1
      refine k_aload_n C 0 dX6_oneHour_101 rfl rfl rfl ?_
      refine g_X6_row C rfl kw_3_238 dX6_oneHour_102 rfl ?_
      refine k_iconst C (0 : Int32) dX6_oneHour_105 (by decide) rfl ?_
      refine k_dup2 C rfl rfl dX6_oneHour_106 rfl ?_
      refine k_iald (j := 0) C ⟨rfl, rfl⟩ (by decide) rfl dX6_oneHour_107 rfl ?_
      refine k_iconst C (1 : Int32) dX6_oneHour_108 (by decide) rfl ?_
      refine k_iadd C dX6_oneHour_109 rfl ?_
      refine k_iast (j := 0) C ⟨rfl, rfl⟩ (by decide) rfl dX6_oneHour_110 rfl ?_
      obtain ⟨s2, e3, hf⟩ := kf_b hf
      refine k_st e3 ?_
      exact k_vret C K hf dX6_oneHour_111
    · replace hf := kf_f hf b1
      refine k_aload_n C 0 dX6_oneHour_40 rfl rfl rfl ?_
      refine k_iload_n C 1 dX6_oneHour_41 rfl rfl rfl ?_
      refine k_iconst C (3 : Int32) dX6_oneHour_42 (by decide) rfl ?_
      obtain ⟨q4, e5, hf⟩ := kf_b hf
      refine k_callV C [.int x1, .int (3 : Int32)] (mX6_its e5) rfl (by decide) rfl kw_4_95 kw_4_97 kw_0_27 kw_1_7 kw_4_98 qX6_its rfl ⟨by decide, by decide⟩ ⟨rfl, rfl⟩ (Nat.le_of_ble_eq_true rfl) dX6_oneHour_43 rfl ?_ rfl
      refine (show kV Z 2 46 [(0, kr Z 59), (1, .int x1)] [.int q4.1] q4.2 from ?_)
      refine k_iconst C (1 : Int32) dX6_oneHour_46 (by decide) rfl ?_
      refine k_icmp_ne C 95 dX6_oneHour_47 rfl rfl (fun b6 => ?_) (fun b6 => ?_)
      · replace hf := kf_f hf b6
        refine k_iinc (lv' := [(1, .int (x1 + (1 : Int32))), (0, kr Z 59)]) C (x1 + (1 : Int32)) 1 dX6_oneHour_95 rfl rfl (by decide) rfl rfl ?_
        refine k_goto C 30 dX6_oneHour_98 rfl ?_
        refine k_lv (lv' := [(0, kr Z 59), (1, .int (x1 + (1 : Int32)))]) [1, 0] rfl ?_
        exact ih (x1 + (1 : Int32)) q4.2  hf
      · replace hf := kf_t hf b6
        refine k_aload_n C 0 dX6_oneHour_50 rfl rfl rfl ?_
        refine k_iload_n C 1 dX6_oneHour_51 rfl rfl rfl ?_
        refine k_iconst C (2 : Int32) dX6_oneHour_52 (by decide) rfl ?_
        refine k_aload_n C 0 dX6_oneHour_53 rfl rfl rfl ?_
        refine k_iload_n C 1 dX6_oneHour_54 rfl rfl rfl ?_
        refine k_iconst C (2 : Int32) dX6_oneHour_55 (by decide) rfl ?_
        obtain ⟨q7, e8, hf⟩ := kf_b hf
        refine k_callV C [.int x1, .int (2 : Int32)] (mX6_its e8) rfl (by decide) rfl kw_4_95 kw_4_97 kw_0_27 kw_1_7 kw_4_98 qX6_its rfl ⟨by decide, by decide⟩ ⟨rfl, rfl⟩ (Nat.le_of_ble_eq_true rfl) dX6_oneHour_56 rfl ?_ rfl
        refine (show kV Z 2 59 [(0, kr Z 59), (1, .int x1)] [.int q7.1, .int (2 : Int32), .int x1, kr Z 59] q7.2 from ?_)
        refine k_aload_n C 0 dX6_oneHour_59 rfl rfl rfl ?_
        refine k_iload_n C 1 dX6_oneHour_60 rfl rfl rfl ?_
        obtain ⟨q9, e10, hf⟩ := kf_b hf
        refine k_callV C [.int x1] (mX6_settling e10) rfl (by decide) rfl kw_4_161 kw_4_163 kw_0_38 kw_1_7 kw_4_164 qX6_settling rfl ⟨by decide, by decide⟩ ⟨rfl, rfl⟩ (Nat.le_of_ble_eq_true rfl) dX6_oneHour_61 rfl ?_ rfl
        refine (show kV Z 2 64 [(0, kr Z 59), (1, .int x1)] [.int q9.1, .int q7.1, .int (2 : Int32), .int x1, kr Z 59] q9.2 from ?_)
        refine k_isub C dX6_oneHour_64 rfl ?_
        refine k_iconst C (0 : Int32) dX6_oneHour_65 (by decide) rfl ?_
        refine k_bipush C (99 : Int32) dX6_oneHour_66 (by decide) rfl ?_
        obtain ⟨q11, e12, hf⟩ := kf_b hf
        refine k_callS C [.int (q7.1 - q9.1), .int (0 : Int32), .int (99 : Int32)] (mX6_held e12) kw_4_118 kw_4_119 kw_1_7 kw_4_120 qX6_held rfl ⟨by decide, by decide⟩ ⟨rfl, rfl⟩ (Nat.le_of_ble_eq_true rfl) dX6_oneHour_68 rfl ?_ rfl
        refine (show kV Z 2 71 [(0, kr Z 59), (1, .int x1)] [.int q11.1, .int (2 : Int32), .int x1, kr Z 59] q11.2 from ?_)
        obtain ⟨s13, e14, hf⟩ := kf_b hf
        refine k_callV C [.int x1, .int (2 : Int32), .int q11.1] (mX6_puts e14) rfl (by decide) rfl kw_4_149 kw_4_151 kw_0_36 kw_1_7 kw_4_152 qX6_puts rfl ⟨by decide, by decide⟩ ⟨rfl, rfl⟩ (Nat.le_of_ble_eq_true rfl) dX6_oneHour_71 rfl ?_ rfl
        refine (show kV Z 2 74 [(0, kr Z 59), (1, .int x1)] [] s13 from ?_)
        refine k_aload_n C 0 dX6_oneHour_74 rfl rfl rfl ?_
        refine k_iload_n C 1 dX6_oneHour_75 rfl rfl rfl ?_
        refine k_iconst C (4 : Int32) dX6_oneHour_76 (by decide) rfl ?_
        refine k_aload_n C 0 dX6_oneHour_77 rfl rfl rfl ?_
        refine k_iload_n C 1 dX6_oneHour_78 rfl rfl rfl ?_
        refine k_iconst C (4 : Int32) dX6_oneHour_79 (by decide) rfl ?_
        obtain ⟨q15, e16, hf⟩ := kf_b hf
        refine k_callV C [.int x1, .int (4 : Int32)] (mX6_its e16) rfl (by decide) rfl kw_4_95 kw_4_97 kw_0_27 kw_1_7 kw_4_98 qX6_its rfl ⟨by decide, by decide⟩ ⟨rfl, rfl⟩ (Nat.le_of_ble_eq_true rfl) dX6_oneHour_80 rfl ?_ rfl
        refine (show kV Z 2 83 [(0, kr Z 59), (1, .int x1)] [.int q15.1, .int (4 : Int32), .int x1, kr Z 59] q15.2 from ?_)
        refine k_iconst C (1 : Int32) dX6_oneHour_83 (by decide) rfl ?_
        refine k_iadd C dX6_oneHour_84 rfl ?_
        refine k_iconst C (0 : Int32) dX6_oneHour_85 (by decide) rfl ?_
        refine k_sipush C (9999 : Int32) dX6_oneHour_86 (by decide) rfl ?_
        obtain ⟨q17, e18, hf⟩ := kf_b hf
        refine k_callS C [.int (q15.1 + (1 : Int32)), .int (0 : Int32), .int (9999 : Int32)] (mX6_held e18) kw_4_118 kw_4_119 kw_1_7 kw_4_120 qX6_held rfl ⟨by decide, by decide⟩ ⟨rfl, rfl⟩ (Nat.le_of_ble_eq_true rfl) dX6_oneHour_89 rfl ?_ rfl
        refine (show kV Z 2 92 [(0, kr Z 59), (1, .int x1)] [.int q17.1, .int (4 : Int32), .int x1, kr Z 59] q17.2 from ?_)
        obtain ⟨s19, e20, hf⟩ := kf_b hf
        refine k_callV C [.int x1, .int (4 : Int32), .int q17.1] (mX6_puts e20) rfl (by decide) rfl kw_4_149 kw_4_151 kw_0_36 kw_1_7 kw_4_152 qX6_puts rfl ⟨by decide, by decide⟩ ⟨rfl, rfl⟩ (Nat.le_of_ble_eq_true rfl) dX6_oneHour_92 rfl ?_ rfl
        refine (show kV Z 2 95 [(0, kr Z 59), (1, .int x1)] [] s19 from ?_)
        refine k_iinc (lv' := [(1, .int (x1 + (1 : Int32))), (0, kr Z 59)]) C (x1 + (1 : Int32)) 1 dX6_oneHour_95 rfl rfl (by decide) rfl rfl ?_
        refine k_goto C 30 dX6_oneHour_98 rfl ?_
        refine k_lv (lv' := [(0, kr Z 59), (1, .int (x1 + (1 : Int32)))]) [1, 0] rfl ?_
        exact ih (x1 + (1 : Int32)) s19  hf
set_option maxRecDepth 100000 in
theorem tX6_oneHour_2 {Z : kZ} (C : kC Z cX6_oneHour RX6 2 rmX6_oneHour) {res : kM} (K : kEnd Z none none res) : ∀ (n : Nat) (x1 : Int32) (st : kM), fX6_oneHour_2 n x1 st = some res → kV Z 2 2 [(0, kr Z 59), (1, .int x1)] [] st := by
  intro n
  induction n with
  | zero => intro x1 st hf; cases hf
  | succ n ih =>
    intro x1 st hf
    unfold fX6_oneHour_2 at hf
    refine k_iload_n C 1 dX6_oneHour_2 rfl rfl rfl ?_
    refine k_iconst C (4 : Int32) dX6_oneHour_3 (by decide) rfl ?_
    refine k_icmp_ge C 28 dX6_oneHour_4 rfl rfl (fun b1 => ?_) (fun b1 => ?_)
    · replace hf := kf_t hf b1
      refine k_iconst C (0 : Int32) dX6_oneHour_28 (by decide) rfl ?_
      refine k_istore_n (lv' := [(1, .int (0 : Int32)), (0, kr Z 59)]) C dX6_oneHour_29 rfl (by decide) rfl rfl ?_
      refine k_lv (lv' := [(0, kr Z 59), (1, .int (0 : Int32))]) [1, 0] rfl ?_
      exact tX6_oneHour_30 C K _ (0 : Int32) st hf
    · replace hf := kf_f hf b1
      refine k_aload_n C 0 dX6_oneHour_7 rfl rfl rfl ?_
      refine k_iload_n C 1 dX6_oneHour_8 rfl rfl rfl ?_
      refine k_iconst C (1 : Int32) dX6_oneHour_9 (by decide) rfl ?_
      obtain ⟨q2, e3, hf⟩ := kf_b hf
      refine k_callV C [.int x1, .int (1 : Int32)] (mX6_ofMast e3) rfl (by decide) rfl kw_4_87 kw_4_89 kw_0_25 kw_1_7 kw_4_90 qX6_ofMast rfl ⟨by decide, by decide⟩ ⟨rfl, rfl⟩ (Nat.le_of_ble_eq_true rfl) dX6_oneHour_10 rfl ?_ rfl
      refine (show kV Z 2 13 [(0, kr Z 59), (1, .int x1)] [.int q2.1] q2.2 from ?_)
      refine k_iconst C (1 : Int32) dX6_oneHour_13 (by decide) rfl ?_
      refine k_icmp_ne C 22 dX6_oneHour_14 rfl rfl (fun b4 => ?_) (fun b4 => ?_)
      · replace hf := kf_f hf b4
        refine k_iinc (lv' := [(1, .int (x1 + (1 : Int32))), (0, kr Z 59)]) C (x1 + (1 : Int32)) 1 dX6_oneHour_22 rfl rfl (by decide) rfl rfl ?_
        refine k_goto C 2 dX6_oneHour_25 rfl ?_
        refine k_lv (lv' := [(0, kr Z 59), (1, .int (x1 + (1 : Int32)))]) [1, 0] rfl ?_
        exact ih (x1 + (1 : Int32)) q2.2  hf
      · replace hf := kf_t hf b4
        refine k_aload_n C 0 dX6_oneHour_17 rfl rfl rfl ?_
        refine k_iload_n C 1 dX6_oneHour_18 rfl rfl rfl ?_
        obtain ⟨s5, e6, hf⟩ := kf_b hf
        refine k_callV C [.int x1] (mX6_pulls e6) rfl (by decide) rfl kw_4_219 kw_4_221 kw_0_44 kw_1_7 kw_4_222 qX6_pulls rfl ⟨by decide, by decide⟩ ⟨rfl, rfl⟩ (Nat.le_of_ble_eq_true rfl) dX6_oneHour_19 rfl ?_ rfl
        refine (show kV Z 2 22 [(0, kr Z 59), (1, .int x1)] [] s5 from ?_)
        refine k_iinc (lv' := [(1, .int (x1 + (1 : Int32))), (0, kr Z 59)]) C (x1 + (1 : Int32)) 1 dX6_oneHour_22 rfl rfl (by decide) rfl rfl ?_
        refine k_goto C 2 dX6_oneHour_25 rfl ?_
        refine k_lv (lv' := [(0, kr Z 59), (1, .int (x1 + (1 : Int32)))]) [1, 0] rfl ?_
        exact ih (x1 + (1 : Int32)) s5  hf
set_option maxRecDepth 100000 in
theorem tX6_oneHour {Z : kZ} (C : kC Z cX6_oneHour RX6 2 rmX6_oneHour)   {st : kM} {res : kM} (hf : fX6_oneHour st = some res) (K : kEnd Z none none res) : kV Z 2 0 [(0, kr Z 59)] [] st := by
  unfold fX6_oneHour at hf
  refine k_iconst C (0 : Int32) dX6_oneHour_0 (by decide) rfl ?_
  refine k_istore_n (lv' := [(1, .int (0 : Int32)), (0, kr Z 59)]) C dX6_oneHour_1 rfl (by decide) rfl rfl ?_
  refine k_lv (lv' := [(0, kr Z 59), (1, .int (0 : Int32))]) [1, 0] rfl ?_
  exact tX6_oneHour_2 C K _ (0 : Int32) st hf
theorem mX6_oneHour {G : kG}   {st : kM} {res : kM} (hf : fX6_oneHour st = some res) : kCt G yX6_oneHour cX6_oneHour 2 none rmX6_oneHour [.ref (G.2.1 59)] st none res := kMet (by decide) (Nat.le_of_ble_eq_true rfl) ⟨rfl, rfl⟩ (fun X A Q C K => tX6_oneHour C  hf K)
theorem qX6_oneHour : yX6_oneHour.cls = RX6 ∧ yX6_oneHour.cls ≠ "java/lang/invoke/MethodHandle" ∧ yX6_oneHour.cls ≠ "java/lang/invoke/VarHandle" ∧ (parseMethodDescriptor yX6_oneHour.desc).map (fun d => d.parameters.length) = some 0 := ⟨rfl, by decide, by decide, by decide +kernel⟩
-- TalkKnotsModel.passes(I)V
def rmX6_passes : Room := { frames := 6, cells := 0, slots := 0, locals := 138 }
def fX6_passes_2 : Nat → Int32 → Int32 → kM → Option (kM)
  | 0, _, _, _ => none
  | n + 1, x1, x2, st =>
    if x1 ≤ x2 then (some st) else ((fX6_oneHour st).bind fun s2 => (fX6_passes_2 n x1 (x2 + (1 : Int32)) s2))
def fX6_passes (v1 : Int32) (st : kM) : Option (kM) :=
  fX6_passes_2 kfu v1 (0 : Int32) st
set_option maxRecDepth 100000 in
theorem tX6_passes_2 {Z : kZ} (C : kC Z cX6_passes RX6 3 rmX6_passes) {res : kM} (K : kEnd Z none none res) : ∀ (n : Nat) (x1 : Int32) (x2 : Int32) (st : kM), fX6_passes_2 n x1 x2 st = some res → kV Z 3 2 [(0, kr Z 59), (1, .int x1), (2, .int x2)] [] st := by
  intro n
  induction n with
  | zero => intro x1 x2 st hf; cases hf
  | succ n ih =>
    intro x1 x2 st hf
    unfold fX6_passes_2 at hf
    refine k_iload_n C 2 dX6_passes_2 rfl rfl rfl ?_
    refine k_iload_n C 1 dX6_passes_3 rfl rfl rfl ?_
    refine k_icmp_ge C 17 dX6_passes_4 rfl rfl (fun b1 => ?_) (fun b1 => ?_)
    · replace hf := kf_t hf b1
      exact k_vret C K hf dX6_passes_17
    · replace hf := kf_f hf b1
      refine k_aload_n C 0 dX6_passes_7 rfl rfl rfl ?_
      obtain ⟨s2, e3, hf⟩ := kf_b hf
      refine k_callV C [] (mX6_oneHour e3) rfl (by decide) rfl kw_4_215 kw_4_217 kw_0_43 kw_1_7 kw_4_218 qX6_oneHour rfl ⟨by decide, by decide⟩ ⟨rfl, rfl⟩ (Nat.le_of_ble_eq_true rfl) dX6_passes_8 rfl ?_ rfl
      refine (show kV Z 3 11 [(0, kr Z 59), (1, .int x1), (2, .int x2)] [] s2 from ?_)
      refine k_iinc (lv' := [(2, .int (x2 + (1 : Int32))), (0, kr Z 59), (1, .int x1)]) C (x2 + (1 : Int32)) 2 dX6_passes_11 rfl rfl (by decide) rfl rfl ?_
      refine k_goto C 2 dX6_passes_14 rfl ?_
      refine k_lv (lv' := [(0, kr Z 59), (1, .int x1), (2, .int (x2 + (1 : Int32)))]) [1, 2, 0] rfl ?_
      exact ih x1 (x2 + (1 : Int32)) s2  hf
set_option maxRecDepth 100000 in
theorem tX6_passes {Z : kZ} (C : kC Z cX6_passes RX6 3 rmX6_passes) {v1 : Int32}  {st : kM} {res : kM} (hf : fX6_passes v1 st = some res) (K : kEnd Z none none res) : kV Z 3 0 [(0, kr Z 59), (1, .int v1)] [] st := by
  unfold fX6_passes at hf
  refine k_iconst C (0 : Int32) dX6_passes_0 (by decide) rfl ?_
  refine k_istore_n (lv' := [(2, .int (0 : Int32)), (0, kr Z 59), (1, .int v1)]) C dX6_passes_1 rfl (by decide) rfl rfl ?_
  refine k_lv (lv' := [(0, kr Z 59), (1, .int v1), (2, .int (0 : Int32))]) [1, 2, 0] rfl ?_
  exact tX6_passes_2 C K _ v1 (0 : Int32) st hf
theorem mX6_passes {G : kG} {v1 : Int32}  {st : kM} {res : kM} (hf : fX6_passes v1 st = some res) : kCt G yX6_passes cX6_passes 3 none rmX6_passes [.ref (G.2.1 59), .int v1] st none res := kMet (by decide) (Nat.le_of_ble_eq_true rfl) ⟨rfl, rfl⟩ (fun X A Q C K => tX6_passes C  hf K)
theorem qX6_passes : yX6_passes.cls = RX6 ∧ yX6_passes.cls ≠ "java/lang/invoke/MethodHandle" ∧ yX6_passes.cls ≠ "java/lang/invoke/VarHandle" ∧ (parseMethodDescriptor yX6_passes.desc).map (fun d => d.parameters.length) = some 1 := ⟨rfl, by decide, by decide, by decide +kernel⟩
-- TalkKnotsModel.hours(I)I
def rmX6_hours : Room := { frames := 7, cells := 0, slots := 0, locals := 160 }
def fX6_hours (v1 : Int32) (st : kM) : Option (Int32 × kM) :=
  (fX6_in v1 (1 : Int32) (100 : Int32) st).bind fun q1 => (if q1.1 = 0 then ((fX6_finds (-1000000001 : Int32) q1.2).bind fun q11 => (some (q11.1, q11.2))) else (if ((q1.2.1 60 0) + v1) ≤ (99999 : Int32) then ((fX6_passes v1 q1.2).bind fun s5 => ((fX6_upSet s5).bind fun q7 => (some (q7.1, q7.2)))) else ((fX6_finds (-1000000005 : Int32) q1.2).bind fun q9 => (some (q9.1, q9.2)))))
set_option maxRecDepth 100000 in
theorem tX6_hours {Z : kZ} (C : kC Z cX6_hours RX6 2 rmX6_hours) {v1 : Int32}  {st : kM} {res : Int32 × kM} (hf : fX6_hours v1 st = some res) (K : kEnd Z (some .int) (some (.int res.1)) res.2) : kV Z 2 0 [(0, kr Z 59), (1, .int v1)] [] st := by
  unfold fX6_hours at hf
  refine k_iload_n C 1 dX6_hours_0 rfl rfl rfl ?_
  refine k_iconst C (1 : Int32) dX6_hours_1 (by decide) rfl ?_
  refine k_bipush C (100 : Int32) dX6_hours_2 (by decide) rfl ?_
  obtain ⟨q1, e2, hf⟩ := kf_b hf
  refine k_callS C [.int v1, .int (1 : Int32), .int (100 : Int32)] (mX6_in e2) kw_4_60 kw_4_61 kw_1_7 kw_4_62 qX6_in rfl ⟨by decide, by decide⟩ ⟨rfl, rfl⟩ (Nat.le_of_ble_eq_true rfl) dX6_hours_4 rfl ?_ rfl
  refine (show kV Z 2 7 [(0, kr Z 59), (1, .int v1)] [.int q1.1] q1.2 from ?_)
  refine k_if_ne C 17 dX6_hours_7 rfl rfl (fun b3 => ?_) (fun b3 => ?_)
  · replace hf := kf_f hf b3
    refine k_aload_n C 0 dX6_hours_17 rfl rfl rfl ?_
    refine g_X6_row C rfl kw_3_238 dX6_hours_18 rfl ?_
    refine k_iconst C (0 : Int32) dX6_hours_21 (by decide) rfl ?_
    refine k_iald (j := 0) C ⟨rfl, rfl⟩ (by decide) rfl dX6_hours_22 rfl ?_
    refine k_iload_n C 1 dX6_hours_23 rfl rfl rfl ?_
    refine k_iadd C dX6_hours_24 rfl ?_
    refine k_ldc C (99999 : Int32) kw_4_210 dX6_hours_25 rfl ?_
    refine k_icmp_le C 37 dX6_hours_27 rfl rfl (fun b4 => ?_) (fun b4 => ?_)
    · replace hf := kf_t hf b4
      refine k_aload_n C 0 dX6_hours_37 rfl rfl rfl ?_
      refine k_iload_n C 1 dX6_hours_38 rfl rfl rfl ?_
      obtain ⟨s5, e6, hf⟩ := kf_b hf
      refine k_callV C [.int v1] (mX6_passes e6) rfl (by decide) rfl kw_4_211 kw_4_213 kw_0_42 kw_1_7 kw_4_214 qX6_passes rfl ⟨by decide, by decide⟩ ⟨rfl, rfl⟩ (Nat.le_of_ble_eq_true rfl) dX6_hours_39 rfl ?_ rfl
      refine (show kV Z 2 42 [(0, kr Z 59), (1, .int v1)] [] s5 from ?_)
      refine k_aload_n C 0 dX6_hours_42 rfl rfl rfl ?_
      obtain ⟨q7, e8, hf⟩ := kf_b hf
      refine k_callV C [] (mX6_upSet e8) rfl (by decide) rfl kw_4_125 kw_4_127 kw_0_32 kw_1_7 kw_4_128 qX6_upSet rfl ⟨by decide, by decide⟩ ⟨rfl, rfl⟩ (Nat.le_of_ble_eq_true rfl) dX6_hours_43 rfl ?_ rfl
      refine (show kV Z 2 46 [(0, kr Z 59), (1, .int v1)] [.int q7.1] q7.2 from ?_)
      exact k_iret C K hf dX6_hours_46
    · replace hf := kf_f hf b4
      refine k_aload_n C 0 dX6_hours_30 rfl rfl rfl ?_
      refine k_ldc C (-1000000005 : Int32) kw_4_201 dX6_hours_31 rfl ?_
      obtain ⟨q9, e10, hf⟩ := kf_b hf
      refine k_callV C [.int (-1000000005 : Int32)] (mX6_finds e10) rfl (by decide) rfl kw_4_68 kw_4_70 kw_0_24 kw_1_7 kw_4_71 qX6_finds rfl ⟨by decide, by decide⟩ ⟨rfl, rfl⟩ (Nat.le_of_ble_eq_true rfl) dX6_hours_33 rfl ?_ rfl
      refine (show kV Z 2 36 [(0, kr Z 59), (1, .int v1)] [.int q9.1] q9.2 from ?_)
      exact k_iret C K hf dX6_hours_36
  · replace hf := kf_t hf b3
    refine k_aload_n C 0 dX6_hours_10 rfl rfl rfl ?_
    refine k_ldc C (-1000000001 : Int32) kw_4_67 dX6_hours_11 rfl ?_
    obtain ⟨q11, e12, hf⟩ := kf_b hf
    refine k_callV C [.int (-1000000001 : Int32)] (mX6_finds e12) rfl (by decide) rfl kw_4_68 kw_4_70 kw_0_24 kw_1_7 kw_4_71 qX6_finds rfl ⟨by decide, by decide⟩ ⟨rfl, rfl⟩ (Nat.le_of_ble_eq_true rfl) dX6_hours_13 rfl ?_ rfl
    refine (show kV Z 2 16 [(0, kr Z 59), (1, .int v1)] [.int q11.1] q11.2 from ?_)
    exact k_iret C K hf dX6_hours_16
theorem mX6_hours {G : kG} {v1 : Int32}  {st : kM} {res : Int32 × kM} (hf : fX6_hours v1 st = some res) : kCt G yX6_hours cX6_hours 2 (some .int) rmX6_hours [.ref (G.2.1 59), .int v1] st (some (.int res.1)) res.2 := kMet (by decide) (Nat.le_of_ble_eq_true rfl) ⟨rfl, rfl⟩ (fun X A Q C K => tX6_hours C  hf K)
theorem qX6_hours : yX6_hours.cls = RX6 ∧ yX6_hours.cls ≠ "java/lang/invoke/MethodHandle" ∧ yX6_hours.cls ≠ "java/lang/invoke/VarHandle" ∧ (parseMethodDescriptor yX6_hours.desc).map (fun d => d.parameters.length) = some 1 := ⟨rfl, by decide, by decide, by decide +kernel⟩
-- TalkKnotsModel.moveAll(Z[I)V
def rmX6_moveAll : Room := { frames := 0, cells := 0, slots := 0, locals := 0 }
def fX6_moveAll_2 : Nat → Int32 → Nat → Int32 → kM → Option (kM)
  | 0, _, _, _, _ => none
  | n + 1, x1, x2, x3, st =>
    if (72 : Int32) ≤ x3 then (some st) else (if x1 = 0 then (if x3 < 0 ∨ 72 ≤ x3.toNatClampNeg then none else ((some (kwr st 60 x3.toNatClampNeg (st.1 x2 x3.toNatClampNeg))).bind fun s4 => (fX6_moveAll_2 n x1 x2 (x3 + (1 : Int32)) s4))) else (if x3 < 0 ∨ 72 ≤ x3.toNatClampNeg then none else ((some (kwr st x2 x3.toNatClampNeg (st.1 60 x3.toNatClampNeg))).bind fun s7 => (fX6_moveAll_2 n x1 x2 (x3 + (1 : Int32)) s7))))
def fX6_moveAll (v1 : Int32) (c2 : Nat) (st : kM) : Option (kM) :=
  fX6_moveAll_2 kfu v1 c2 (0 : Int32) st
set_option maxRecDepth 100000 in
theorem tX6_moveAll_2 {Z : kZ} (C : kC Z cX6_moveAll RX6 4 rmX6_moveAll) {res : kM} (K : kEnd Z none none res) : ∀ (n : Nat) (x1 : Int32) (x2 : Nat) (x3 : Int32) (st : kM), (hx2 : kd x2 = 7 ∧ kl x2 = 72) → fX6_moveAll_2 n x1 x2 x3 st = some res → kV Z 4 2 [(0, kr Z 59), (1, .int x1), (2, kr Z x2), (3, .int x3)] [] st := by
  intro n
  induction n with
  | zero => intro x1 x2 x3 st hx2 hf; cases hf
  | succ n ih =>
    intro x1 x2 x3 st hx2 hf
    unfold fX6_moveAll_2 at hf
    refine k_iload_n C 3 dX6_moveAll_2 rfl rfl rfl ?_
    refine k_bipush C (72 : Int32) dX6_moveAll_3 (by decide) rfl ?_
    refine k_icmp_ge C 39 dX6_moveAll_5 rfl rfl (fun b1 => ?_) (fun b1 => ?_)
    · replace hf := kf_t hf b1
      exact k_vret C K hf dX6_moveAll_39
    · replace hf := kf_f hf b1
      refine k_iload_n C 1 dX6_moveAll_8 rfl rfl rfl ?_
      refine k_if_eq C 24 dX6_moveAll_9 rfl rfl (fun b2 => ?_) (fun b2 => ?_)
      · replace hf := kf_t hf b2
        refine k_aload_n C 0 dX6_moveAll_24 rfl rfl rfl ?_
        refine g_X6_row C rfl kw_3_238 dX6_moveAll_25 rfl ?_
        refine k_iload_n C 3 dX6_moveAll_28 rfl rfl rfl ?_
        refine k_aload_n C 2 dX6_moveAll_29 rfl rfl rfl ?_
        refine k_iload_n C 3 dX6_moveAll_30 rfl rfl rfl ?_
        obtain ⟨g3, hf⟩ := kf_g hf
        refine k_iald (j := x3.toNatClampNeg) C hx2 g3 rfl dX6_moveAll_31 rfl ?_
        refine k_iast (j := x3.toNatClampNeg) C ⟨rfl, rfl⟩ g3 rfl dX6_moveAll_32 rfl ?_
        obtain ⟨s4, e5, hf⟩ := kf_b hf
        refine k_st e5 ?_
        refine k_iinc (lv' := [(3, .int (x3 + (1 : Int32))), (0, kr Z 59), (1, .int x1), (2, kr Z x2)]) C (x3 + (1 : Int32)) 3 dX6_moveAll_33 rfl rfl (by decide) rfl rfl ?_
        refine k_goto C 2 dX6_moveAll_36 rfl ?_
        refine k_lv (lv' := [(0, kr Z 59), (1, .int x1), (2, kr Z x2), (3, .int (x3 + (1 : Int32)))]) [1, 2, 3, 0] rfl ?_
        exact ih x1 x2 (x3 + (1 : Int32)) s4 hx2 hf
      · replace hf := kf_f hf b2
        refine k_aload_n C 2 dX6_moveAll_12 rfl rfl rfl ?_
        refine k_iload_n C 3 dX6_moveAll_13 rfl rfl rfl ?_
        refine k_aload_n C 0 dX6_moveAll_14 rfl rfl rfl ?_
        refine g_X6_row C rfl kw_3_238 dX6_moveAll_15 rfl ?_
        refine k_iload_n C 3 dX6_moveAll_18 rfl rfl rfl ?_
        obtain ⟨g6, hf⟩ := kf_g hf
        refine k_iald (j := x3.toNatClampNeg) C ⟨rfl, rfl⟩ g6 rfl dX6_moveAll_19 rfl ?_
        refine k_iast (j := x3.toNatClampNeg) C hx2 g6 rfl dX6_moveAll_20 rfl ?_
        obtain ⟨s7, e8, hf⟩ := kf_b hf
        refine k_st e8 ?_
        refine k_goto C 33 dX6_moveAll_21 rfl ?_
        refine k_iinc (lv' := [(3, .int (x3 + (1 : Int32))), (0, kr Z 59), (1, .int x1), (2, kr Z x2)]) C (x3 + (1 : Int32)) 3 dX6_moveAll_33 rfl rfl (by decide) rfl rfl ?_
        refine k_goto C 2 dX6_moveAll_36 rfl ?_
        refine k_lv (lv' := [(0, kr Z 59), (1, .int x1), (2, kr Z x2), (3, .int (x3 + (1 : Int32)))]) [1, 2, 3, 0] rfl ?_
        exact ih x1 x2 (x3 + (1 : Int32)) s7 hx2 hf
set_option maxRecDepth 100000 in
theorem tX6_moveAll {Z : kZ} (C : kC Z cX6_moveAll RX6 4 rmX6_moveAll) {v1 : Int32} {c2 : Nat} (hc2 : kd c2 = 7 ∧ kl c2 = 72) {st : kM} {res : kM} (hf : fX6_moveAll v1 c2 st = some res) (K : kEnd Z none none res) : kV Z 4 0 [(0, kr Z 59), (1, .int v1), (2, kr Z c2)] [] st := by
  unfold fX6_moveAll at hf
  refine k_iconst C (0 : Int32) dX6_moveAll_0 (by decide) rfl ?_
  refine k_istore_n (lv' := [(3, .int (0 : Int32)), (0, kr Z 59), (1, .int v1), (2, kr Z c2)]) C dX6_moveAll_1 rfl (by decide) rfl rfl ?_
  refine k_lv (lv' := [(0, kr Z 59), (1, .int v1), (2, kr Z c2), (3, .int (0 : Int32))]) [1, 2, 3, 0] rfl ?_
  exact tX6_moveAll_2 C K _ v1 c2 (0 : Int32) st hc2 hf
theorem mX6_moveAll {G : kG} {v1 : Int32} {c2 : Nat} (hc2 : kd c2 = 7 ∧ kl c2 = 72) {st : kM} {res : kM} (hf : fX6_moveAll v1 c2 st = some res) : kCt G yX6_moveAll cX6_moveAll 4 none rmX6_moveAll [.ref (G.2.1 59), .int v1, .ref (G.2.1 c2)] st none res := kMet (by decide) (Nat.le_of_ble_eq_true rfl) ⟨rfl, rfl⟩ (fun X A Q C K => tX6_moveAll C hc2 hf K)
theorem qX6_moveAll : yX6_moveAll.cls = RX6 ∧ yX6_moveAll.cls ≠ "java/lang/invoke/MethodHandle" ∧ yX6_moveAll.cls ≠ "java/lang/invoke/VarHandle" ∧ (parseMethodDescriptor yX6_moveAll.desc).map (fun d => d.parameters.length) = some 2 := ⟨rfl, by decide, by decide, by decide +kernel⟩
-- TalkKnotsModel.on(III)I
def rmX6_on : Room := { frames := 7, cells := 0, slots := 0, locals := 160 }
def fX6_on (v1 : Int32) (v2 : Int32) (v3 : Int32) (st : kM) : Option (Int32 × kM) :=
  (fX6_isOne v1 st).bind fun q1 => (if q1.1 = 0 then ((fX6_finds (-1000000001 : Int32) q1.2).bind fun q4 => (some (q4.1, q4.2))) else ((fX6_in v2 (0 : Int32) (200 : Int32) q1.2).bind fun q6 => (if q6.1 = 0 then ((fX6_finds (-1000000001 : Int32) q6.2).bind fun q9 => (some (q9.1, q9.2))) else ((fX6_in v3 (0 : Int32) (2 : Int32) q6.2).bind fun q11 => (if q11.1 = 0 then ((fX6_finds (-1000000001 : Int32) q11.2).bind fun q22 => (some (q22.1, q22.2))) else ((fX6_moveAll (1 : Int32) 62 q11.2).bind fun s14 => ((fX6_passes v2 s14).bind fun s16 => ((fX6_its v1 ((2 : Int32) + v3) s16).bind fun q18 => ((fX6_moveAll (0 : Int32) 62 q18.2).bind fun s20 => (some (q18.1, s20)))))))))))
set_option maxRecDepth 100000 in
theorem tX6_on {Z : kZ} (C : kC Z cX6_on RX6 5 rmX6_on) {v1 : Int32} {v2 : Int32} {v3 : Int32}  {st : kM} {res : Int32 × kM} (hf : fX6_on v1 v2 v3 st = some res) (K : kEnd Z (some .int) (some (.int res.1)) res.2) : kV Z 5 0 [(0, kr Z 59), (1, .int v1), (2, .int v2), (3, .int v3)] [] st := by
  unfold fX6_on at hf
  refine k_aload_n C 0 dX6_on_0 rfl rfl rfl ?_
  refine k_iload_n C 1 dX6_on_1 rfl rfl rfl ?_
  obtain ⟨q1, e2, hf⟩ := kf_b hf
  refine k_callV C [.int v1] (mX6_isOne e2) rfl (by decide) rfl kw_4_157 kw_4_159 kw_0_37 kw_1_7 kw_4_160 qX6_isOne rfl ⟨by decide, by decide⟩ ⟨rfl, rfl⟩ (Nat.le_of_ble_eq_true rfl) dX6_on_2 rfl ?_ rfl
  refine (show kV Z 5 5 [(0, kr Z 59), (1, .int v1), (2, .int v2), (3, .int v3)] [.int q1.1] q1.2 from ?_)
  refine k_if_eq C 28 dX6_on_5 rfl rfl (fun b3 => ?_) (fun b3 => ?_)
  · replace hf := kf_t hf b3
    refine k_aload_n C 0 dX6_on_28 rfl rfl rfl ?_
    refine k_ldc C (-1000000001 : Int32) kw_4_67 dX6_on_29 rfl ?_
    obtain ⟨q4, e5, hf⟩ := kf_b hf
    refine k_callV C [.int (-1000000001 : Int32)] (mX6_finds e5) rfl (by decide) rfl kw_4_68 kw_4_70 kw_0_24 kw_1_7 kw_4_71 qX6_finds rfl ⟨by decide, by decide⟩ ⟨rfl, rfl⟩ (Nat.le_of_ble_eq_true rfl) dX6_on_31 rfl ?_ rfl
    refine (show kV Z 5 34 [(0, kr Z 59), (1, .int v1), (2, .int v2), (3, .int v3)] [.int q4.1] q4.2 from ?_)
    exact k_iret C K hf dX6_on_34
  · replace hf := kf_f hf b3
    refine k_iload_n C 2 dX6_on_8 rfl rfl rfl ?_
    refine k_iconst C (0 : Int32) dX6_on_9 (by decide) rfl ?_
    refine k_sipush C (200 : Int32) dX6_on_10 (by decide) rfl ?_
    obtain ⟨q6, e7, hf⟩ := kf_b hf
    refine k_callS C [.int v2, .int (0 : Int32), .int (200 : Int32)] (mX6_in e7) kw_4_60 kw_4_61 kw_1_7 kw_4_62 qX6_in rfl ⟨by decide, by decide⟩ ⟨rfl, rfl⟩ (Nat.le_of_ble_eq_true rfl) dX6_on_13 rfl ?_ rfl
    refine (show kV Z 5 16 [(0, kr Z 59), (1, .int v1), (2, .int v2), (3, .int v3)] [.int q6.1] q6.2 from ?_)
    refine k_if_eq C 28 dX6_on_16 rfl rfl (fun b8 => ?_) (fun b8 => ?_)
    · replace hf := kf_t hf b8
      refine k_aload_n C 0 dX6_on_28 rfl rfl rfl ?_
      refine k_ldc C (-1000000001 : Int32) kw_4_67 dX6_on_29 rfl ?_
      obtain ⟨q9, e10, hf⟩ := kf_b hf
      refine k_callV C [.int (-1000000001 : Int32)] (mX6_finds e10) rfl (by decide) rfl kw_4_68 kw_4_70 kw_0_24 kw_1_7 kw_4_71 qX6_finds rfl ⟨by decide, by decide⟩ ⟨rfl, rfl⟩ (Nat.le_of_ble_eq_true rfl) dX6_on_31 rfl ?_ rfl
      refine (show kV Z 5 34 [(0, kr Z 59), (1, .int v1), (2, .int v2), (3, .int v3)] [.int q9.1] q9.2 from ?_)
      exact k_iret C K hf dX6_on_34
    · replace hf := kf_f hf b8
      refine k_iload_n C 3 dX6_on_19 rfl rfl rfl ?_
      refine k_iconst C (0 : Int32) dX6_on_20 (by decide) rfl ?_
      refine k_iconst C (2 : Int32) dX6_on_21 (by decide) rfl ?_
      obtain ⟨q11, e12, hf⟩ := kf_b hf
      refine k_callS C [.int v3, .int (0 : Int32), .int (2 : Int32)] (mX6_in e12) kw_4_60 kw_4_61 kw_1_7 kw_4_62 qX6_in rfl ⟨by decide, by decide⟩ ⟨rfl, rfl⟩ (Nat.le_of_ble_eq_true rfl) dX6_on_22 rfl ?_ rfl
      refine (show kV Z 5 25 [(0, kr Z 59), (1, .int v1), (2, .int v2), (3, .int v3)] [.int q11.1] q11.2 from ?_)
      refine k_if_ne C 35 dX6_on_25 rfl rfl (fun b13 => ?_) (fun b13 => ?_)
      · replace hf := kf_f hf b13
        refine k_aload_n C 0 dX6_on_35 rfl rfl rfl ?_
        refine k_iconst C (1 : Int32) dX6_on_36 (by decide) rfl ?_
        refine k_aload_n C 0 dX6_on_37 rfl rfl rfl ?_
        refine g_X6_tried C rfl kw_4_0 dX6_on_38 rfl ?_
        obtain ⟨s14, e15, hf⟩ := kf_b hf
        refine k_callV C [.int (1 : Int32), kr Z 62] (mX6_moveAll ⟨rfl, rfl⟩ e15) rfl (by decide) rfl kw_4_227 kw_4_229 kw_0_45 kw_1_7 kw_4_230 qX6_moveAll rfl ⟨by decide, by decide⟩ ⟨rfl, rfl⟩ (Nat.le_of_ble_eq_true rfl) dX6_on_41 rfl ?_ rfl
        refine (show kV Z 5 44 [(0, kr Z 59), (1, .int v1), (2, .int v2), (3, .int v3)] [] s14 from ?_)
        refine k_aload_n C 0 dX6_on_44 rfl rfl rfl ?_
        refine k_iload_n C 2 dX6_on_45 rfl rfl rfl ?_
        obtain ⟨s16, e17, hf⟩ := kf_b hf
        refine k_callV C [.int v2] (mX6_passes e17) rfl (by decide) rfl kw_4_211 kw_4_213 kw_0_42 kw_1_7 kw_4_214 qX6_passes rfl ⟨by decide, by decide⟩ ⟨rfl, rfl⟩ (Nat.le_of_ble_eq_true rfl) dX6_on_46 rfl ?_ rfl
        refine (show kV Z 5 49 [(0, kr Z 59), (1, .int v1), (2, .int v2), (3, .int v3)] [] s16 from ?_)
        refine k_aload_n C 0 dX6_on_49 rfl rfl rfl ?_
        refine k_iload_n C 1 dX6_on_50 rfl rfl rfl ?_
        refine k_iconst C (2 : Int32) dX6_on_51 (by decide) rfl ?_
        refine k_iload_n C 3 dX6_on_52 rfl rfl rfl ?_
        refine k_iadd C dX6_on_53 rfl ?_
        obtain ⟨q18, e19, hf⟩ := kf_b hf
        refine k_callV C [.int v1, .int ((2 : Int32) + v3)] (mX6_its e19) rfl (by decide) rfl kw_4_95 kw_4_97 kw_0_27 kw_1_7 kw_4_98 qX6_its rfl ⟨by decide, by decide⟩ ⟨rfl, rfl⟩ (Nat.le_of_ble_eq_true rfl) dX6_on_54 rfl ?_ rfl
        refine (show kV Z 5 57 [(0, kr Z 59), (1, .int v1), (2, .int v2), (3, .int v3)] [.int q18.1] q18.2 from ?_)
        refine k_istore (lv' := [(4, .int q18.1), (0, kr Z 59), (1, .int v1), (2, .int v2), (3, .int v3)]) C dX6_on_57 (by decide) rfl rfl ?_
        refine k_aload_n C 1 dX6_on_59 rfl rfl rfl ?_
        refine k_iconst C (0 : Int32) dX6_on_60 (by decide) rfl ?_
        refine k_aload_n C 1 dX6_on_61 rfl rfl rfl ?_
        refine g_X6_tried C rfl kw_4_0 dX6_on_62 rfl ?_
        obtain ⟨s20, e21, hf⟩ := kf_b hf
        refine k_callV C [.int (0 : Int32), kr Z 62] (mX6_moveAll ⟨rfl, rfl⟩ e21) rfl (by decide) rfl kw_4_227 kw_4_229 kw_0_45 kw_1_7 kw_4_230 qX6_moveAll rfl ⟨by decide, by decide⟩ ⟨rfl, rfl⟩ (Nat.le_of_ble_eq_true rfl) dX6_on_65 rfl ?_ rfl
        refine (show kV Z 5 68 [(4, .int q18.1), (0, kr Z 59), (1, .int v1), (2, .int v2), (3, .int v3)] [] s20 from ?_)
        refine k_iload C 0 dX6_on_68 rfl rfl ?_
        exact k_iret C K hf dX6_on_70
      · replace hf := kf_t hf b13
        refine k_aload_n C 0 dX6_on_28 rfl rfl rfl ?_
        refine k_ldc C (-1000000001 : Int32) kw_4_67 dX6_on_29 rfl ?_
        obtain ⟨q22, e23, hf⟩ := kf_b hf
        refine k_callV C [.int (-1000000001 : Int32)] (mX6_finds e23) rfl (by decide) rfl kw_4_68 kw_4_70 kw_0_24 kw_1_7 kw_4_71 qX6_finds rfl ⟨by decide, by decide⟩ ⟨rfl, rfl⟩ (Nat.le_of_ble_eq_true rfl) dX6_on_31 rfl ?_ rfl
        refine (show kV Z 5 34 [(0, kr Z 59), (1, .int v1), (2, .int v2), (3, .int v3)] [.int q22.1] q22.2 from ?_)
        exact k_iret C K hf dX6_on_34
theorem mX6_on {G : kG} {v1 : Int32} {v2 : Int32} {v3 : Int32}  {st : kM} {res : Int32 × kM} (hf : fX6_on v1 v2 v3 st = some res) : kCt G yX6_on cX6_on 5 (some .int) rmX6_on [.ref (G.2.1 59), .int v1, .int v2, .int v3] st (some (.int res.1)) res.2 := kMet (by decide) (Nat.le_of_ble_eq_true rfl) ⟨rfl, rfl⟩ (fun X A Q C K => tX6_on C  hf K)
theorem qX6_on : yX6_on.cls = RX6 ∧ yX6_on.cls ≠ "java/lang/invoke/MethodHandle" ∧ yX6_on.cls ≠ "java/lang/invoke/VarHandle" ∧ (parseMethodDescriptor yX6_on.desc).map (fun d => d.parameters.length) = some 3 := ⟨rfl, by decide, by decide, by decide +kernel⟩
-- TalkKnotsModel.then(II)I
def rmX6_then : Room := { frames := 7, cells := 0, slots := 0, locals := 160 }
def fX6_then (v1 : Int32) (v2 : Int32) (st : kM) : Option (Int32 × kM) :=
  (fX6_in v1 (0 : Int32) (200 : Int32) st).bind fun q1 => (if q1.1 = 0 then ((fX6_finds (-1000000001 : Int32) q1.2).bind fun q4 => (some (q4.1, q4.2))) else ((fX6_in v2 (0 : Int32) (1 : Int32) q1.2).bind fun q6 => (if q6.1 = 0 then ((fX6_finds (-1000000001 : Int32) q6.2).bind fun q22 => (some (q22.1, q22.2))) else ((fX6_moveAll (1 : Int32) 62 q6.2).bind fun s9 => ((fX6_passes v1 s9).bind fun s11 => (if v2 = 0 then ((fX6_upSet s11).bind fun q18 => ((fX6_moveAll (0 : Int32) 62 q18.2).bind fun s20 => (some (q18.1, s20)))) else ((fX6_fastSet s11).bind fun q14 => ((fX6_moveAll (0 : Int32) 62 q14.2).bind fun s16 => (some (q14.1, s16))))))))))
set_option maxRecDepth 100000 in
theorem tX6_then {Z : kZ} (C : kC Z cX6_then RX6 4 rmX6_then) {v1 : Int32} {v2 : Int32}  {st : kM} {res : Int32 × kM} (hf : fX6_then v1 v2 st = some res) (K : kEnd Z (some .int) (some (.int res.1)) res.2) : kV Z 4 0 [(0, kr Z 59), (1, .int v1), (2, .int v2)] [] st := by
  unfold fX6_then at hf
  refine k_iload_n C 1 dX6_then_0 rfl rfl rfl ?_
  refine k_iconst C (0 : Int32) dX6_then_1 (by decide) rfl ?_
  refine k_sipush C (200 : Int32) dX6_then_2 (by decide) rfl ?_
  obtain ⟨q1, e2, hf⟩ := kf_b hf
  refine k_callS C [.int v1, .int (0 : Int32), .int (200 : Int32)] (mX6_in e2) kw_4_60 kw_4_61 kw_1_7 kw_4_62 qX6_in rfl ⟨by decide, by decide⟩ ⟨rfl, rfl⟩ (Nat.le_of_ble_eq_true rfl) dX6_then_5 rfl ?_ rfl
  refine (show kV Z 4 8 [(0, kr Z 59), (1, .int v1), (2, .int v2)] [.int q1.1] q1.2 from ?_)
  refine k_if_eq C 20 dX6_then_8 rfl rfl (fun b3 => ?_) (fun b3 => ?_)
  · replace hf := kf_t hf b3
    refine k_aload_n C 0 dX6_then_20 rfl rfl rfl ?_
    refine k_ldc C (-1000000001 : Int32) kw_4_67 dX6_then_21 rfl ?_
    obtain ⟨q4, e5, hf⟩ := kf_b hf
    refine k_callV C [.int (-1000000001 : Int32)] (mX6_finds e5) rfl (by decide) rfl kw_4_68 kw_4_70 kw_0_24 kw_1_7 kw_4_71 qX6_finds rfl ⟨by decide, by decide⟩ ⟨rfl, rfl⟩ (Nat.le_of_ble_eq_true rfl) dX6_then_23 rfl ?_ rfl
    refine (show kV Z 4 26 [(0, kr Z 59), (1, .int v1), (2, .int v2)] [.int q4.1] q4.2 from ?_)
    exact k_iret C K hf dX6_then_26
  · replace hf := kf_f hf b3
    refine k_iload_n C 2 dX6_then_11 rfl rfl rfl ?_
    refine k_iconst C (0 : Int32) dX6_then_12 (by decide) rfl ?_
    refine k_iconst C (1 : Int32) dX6_then_13 (by decide) rfl ?_
    obtain ⟨q6, e7, hf⟩ := kf_b hf
    refine k_callS C [.int v2, .int (0 : Int32), .int (1 : Int32)] (mX6_in e7) kw_4_60 kw_4_61 kw_1_7 kw_4_62 qX6_in rfl ⟨by decide, by decide⟩ ⟨rfl, rfl⟩ (Nat.le_of_ble_eq_true rfl) dX6_then_14 rfl ?_ rfl
    refine (show kV Z 4 17 [(0, kr Z 59), (1, .int v1), (2, .int v2)] [.int q6.1] q6.2 from ?_)
    refine k_if_ne C 27 dX6_then_17 rfl rfl (fun b8 => ?_) (fun b8 => ?_)
    · replace hf := kf_f hf b8
      refine k_aload_n C 0 dX6_then_27 rfl rfl rfl ?_
      refine k_iconst C (1 : Int32) dX6_then_28 (by decide) rfl ?_
      refine k_aload_n C 0 dX6_then_29 rfl rfl rfl ?_
      refine g_X6_tried C rfl kw_4_0 dX6_then_30 rfl ?_
      obtain ⟨s9, e10, hf⟩ := kf_b hf
      refine k_callV C [.int (1 : Int32), kr Z 62] (mX6_moveAll ⟨rfl, rfl⟩ e10) rfl (by decide) rfl kw_4_227 kw_4_229 kw_0_45 kw_1_7 kw_4_230 qX6_moveAll rfl ⟨by decide, by decide⟩ ⟨rfl, rfl⟩ (Nat.le_of_ble_eq_true rfl) dX6_then_33 rfl ?_ rfl
      refine (show kV Z 4 36 [(0, kr Z 59), (1, .int v1), (2, .int v2)] [] s9 from ?_)
      refine k_aload_n C 0 dX6_then_36 rfl rfl rfl ?_
      refine k_iload_n C 1 dX6_then_37 rfl rfl rfl ?_
      obtain ⟨s11, e12, hf⟩ := kf_b hf
      refine k_callV C [.int v1] (mX6_passes e12) rfl (by decide) rfl kw_4_211 kw_4_213 kw_0_42 kw_1_7 kw_4_214 qX6_passes rfl ⟨by decide, by decide⟩ ⟨rfl, rfl⟩ (Nat.le_of_ble_eq_true rfl) dX6_then_38 rfl ?_ rfl
      refine (show kV Z 4 41 [(0, kr Z 59), (1, .int v1), (2, .int v2)] [] s11 from ?_)
      refine k_iload_n C 2 dX6_then_41 rfl rfl rfl ?_
      refine k_if_ne C 52 dX6_then_42 rfl rfl (fun b13 => ?_) (fun b13 => ?_)
      · replace hf := kf_f hf b13
        refine k_aload_n C 0 dX6_then_52 rfl rfl rfl ?_
        obtain ⟨q14, e15, hf⟩ := kf_b hf
        refine k_callV C [] (mX6_fastSet e15) rfl (by decide) rfl kw_4_129 kw_4_131 kw_0_33 kw_1_7 kw_4_132 qX6_fastSet rfl ⟨by decide, by decide⟩ ⟨rfl, rfl⟩ (Nat.le_of_ble_eq_true rfl) dX6_then_53 rfl ?_ rfl
        refine (show kV Z 4 56 [(0, kr Z 59), (1, .int v1), (2, .int v2)] [.int q14.1] q14.2 from ?_)
        refine k_istore_n (lv' := [(3, .int q14.1), (0, kr Z 59), (1, .int v1), (2, .int v2)]) C dX6_then_56 rfl (by decide) rfl rfl ?_
        refine k_aload_n C 1 dX6_then_57 rfl rfl rfl ?_
        refine k_iconst C (0 : Int32) dX6_then_58 (by decide) rfl ?_
        refine k_aload_n C 1 dX6_then_59 rfl rfl rfl ?_
        refine g_X6_tried C rfl kw_4_0 dX6_then_60 rfl ?_
        obtain ⟨s16, e17, hf⟩ := kf_b hf
        refine k_callV C [.int (0 : Int32), kr Z 62] (mX6_moveAll ⟨rfl, rfl⟩ e17) rfl (by decide) rfl kw_4_227 kw_4_229 kw_0_45 kw_1_7 kw_4_230 qX6_moveAll rfl ⟨by decide, by decide⟩ ⟨rfl, rfl⟩ (Nat.le_of_ble_eq_true rfl) dX6_then_63 rfl ?_ rfl
        refine (show kV Z 4 66 [(3, .int q14.1), (0, kr Z 59), (1, .int v1), (2, .int v2)] [] s16 from ?_)
        refine k_iload_n C 0 dX6_then_66 rfl rfl rfl ?_
        exact k_iret C K hf dX6_then_67
      · replace hf := kf_t hf b13
        refine k_aload_n C 0 dX6_then_45 rfl rfl rfl ?_
        obtain ⟨q18, e19, hf⟩ := kf_b hf
        refine k_callV C [] (mX6_upSet e19) rfl (by decide) rfl kw_4_125 kw_4_127 kw_0_32 kw_1_7 kw_4_128 qX6_upSet rfl ⟨by decide, by decide⟩ ⟨rfl, rfl⟩ (Nat.le_of_ble_eq_true rfl) dX6_then_46 rfl ?_ rfl
        refine (show kV Z 4 49 [(0, kr Z 59), (1, .int v1), (2, .int v2)] [.int q18.1] q18.2 from ?_)
        refine k_goto C 56 dX6_then_49 rfl ?_
        refine k_istore_n (lv' := [(3, .int q18.1), (0, kr Z 59), (1, .int v1), (2, .int v2)]) C dX6_then_56 rfl (by decide) rfl rfl ?_
        refine k_aload_n C 1 dX6_then_57 rfl rfl rfl ?_
        refine k_iconst C (0 : Int32) dX6_then_58 (by decide) rfl ?_
        refine k_aload_n C 1 dX6_then_59 rfl rfl rfl ?_
        refine g_X6_tried C rfl kw_4_0 dX6_then_60 rfl ?_
        obtain ⟨s20, e21, hf⟩ := kf_b hf
        refine k_callV C [.int (0 : Int32), kr Z 62] (mX6_moveAll ⟨rfl, rfl⟩ e21) rfl (by decide) rfl kw_4_227 kw_4_229 kw_0_45 kw_1_7 kw_4_230 qX6_moveAll rfl ⟨by decide, by decide⟩ ⟨rfl, rfl⟩ (Nat.le_of_ble_eq_true rfl) dX6_then_63 rfl ?_ rfl
        refine (show kV Z 4 66 [(3, .int q18.1), (0, kr Z 59), (1, .int v1), (2, .int v2)] [] s20 from ?_)
        refine k_iload_n C 0 dX6_then_66 rfl rfl rfl ?_
        exact k_iret C K hf dX6_then_67
    · replace hf := kf_t hf b8
      refine k_aload_n C 0 dX6_then_20 rfl rfl rfl ?_
      refine k_ldc C (-1000000001 : Int32) kw_4_67 dX6_then_21 rfl ?_
      obtain ⟨q22, e23, hf⟩ := kf_b hf
      refine k_callV C [.int (-1000000001 : Int32)] (mX6_finds e23) rfl (by decide) rfl kw_4_68 kw_4_70 kw_0_24 kw_1_7 kw_4_71 qX6_finds rfl ⟨by decide, by decide⟩ ⟨rfl, rfl⟩ (Nat.le_of_ble_eq_true rfl) dX6_then_23 rfl ?_ rfl
      refine (show kV Z 4 26 [(0, kr Z 59), (1, .int v1), (2, .int v2)] [.int q22.1] q22.2 from ?_)
      exact k_iret C K hf dX6_then_26
theorem mX6_then {G : kG} {v1 : Int32} {v2 : Int32}  {st : kM} {res : Int32 × kM} (hf : fX6_then v1 v2 st = some res) : kCt G yX6_then cX6_then 4 (some .int) rmX6_then [.ref (G.2.1 59), .int v1, .int v2] st (some (.int res.1)) res.2 := kMet (by decide) (Nat.le_of_ble_eq_true rfl) ⟨rfl, rfl⟩ (fun X A Q C K => tX6_then C  hf K)
theorem qX6_then : yX6_then.cls = RX6 ∧ yX6_then.cls ≠ "java/lang/invoke/MethodHandle" ∧ yX6_then.cls ≠ "java/lang/invoke/VarHandle" ∧ (parseMethodDescriptor yX6_then.desc).map (fun d => d.parameters.length) = some 2 := ⟨rfl, by decide, by decide, by decide +kernel⟩
-- TalkKnotsModel.goneIn(I)I
def rmX6_goneIn : Room := { frames := 6, cells := 0, slots := 0, locals := 138 }
def fX6_goneIn_2 : Nat → Int32 → Int32 → kM → Option (Int32 × kM)
  | 0, _, _, _ => none
  | n + 1, x1, x2, st =>
    if (200 : Int32) < x2 then ((fX6_moveAll (0 : Int32) 62 st).bind fun s2 => (some (x2, s2))) else (if x1 < 0 ∨ 72 ≤ x1.toNatClampNeg then none else (if (st.1 60 x1.toNatClampNeg) = (1 : Int32) then ((fX6_oneHour st).bind fun s8 => (fX6_goneIn_2 n x1 (x2 + (1 : Int32)) s8)) else ((fX6_moveAll (0 : Int32) 62 st).bind fun s6 => (some (x2, s6)))))
def fX6_goneIn (v1 : Int32) (st : kM) : Option (Int32 × kM) :=
  fX6_goneIn_2 kfu v1 (0 : Int32) st
set_option maxRecDepth 100000 in
theorem tX6_goneIn_2 {Z : kZ} (C : kC Z cX6_goneIn RX6 3 rmX6_goneIn) {res : Int32 × kM} (K : kEnd Z (some .int) (some (.int res.1)) res.2) : ∀ (n : Nat) (x1 : Int32) (x2 : Int32) (st : kM), fX6_goneIn_2 n x1 x2 st = some res → kV Z 3 2 [(0, kr Z 59), (1, .int x1), (2, .int x2)] [] st := by
  intro n
  induction n with
  | zero => intro x1 x2 st hf; cases hf
  | succ n ih =>
    intro x1 x2 st hf
    unfold fX6_goneIn_2 at hf
    refine k_iload_n C 2 dX6_goneIn_2 rfl rfl rfl ?_
    refine k_sipush C (200 : Int32) dX6_goneIn_3 (by decide) rfl ?_
    refine k_icmp_gt C 29 dX6_goneIn_6 rfl rfl (fun b1 => ?_) (fun b1 => ?_)
    · replace hf := kf_t hf b1
      refine k_aload_n C 0 dX6_goneIn_29 rfl rfl rfl ?_
      refine k_iconst C (0 : Int32) dX6_goneIn_30 (by decide) rfl ?_
      refine k_aload_n C 0 dX6_goneIn_31 rfl rfl rfl ?_
      refine g_X6_tried C rfl kw_4_0 dX6_goneIn_32 rfl ?_
      obtain ⟨s2, e3, hf⟩ := kf_b hf
      refine k_callV C [.int (0 : Int32), kr Z 62] (mX6_moveAll ⟨rfl, rfl⟩ e3) rfl (by decide) rfl kw_4_227 kw_4_229 kw_0_45 kw_1_7 kw_4_230 qX6_moveAll rfl ⟨by decide, by decide⟩ ⟨rfl, rfl⟩ (Nat.le_of_ble_eq_true rfl) dX6_goneIn_35 rfl ?_ rfl
      refine (show kV Z 3 38 [(0, kr Z 59), (1, .int x1), (2, .int x2)] [] s2 from ?_)
      refine k_iload_n C 2 dX6_goneIn_38 rfl rfl rfl ?_
      exact k_iret C K hf dX6_goneIn_39
    · replace hf := kf_f hf b1
      refine k_aload_n C 0 dX6_goneIn_9 rfl rfl rfl ?_
      refine g_X6_row C rfl kw_3_238 dX6_goneIn_10 rfl ?_
      refine k_iload_n C 1 dX6_goneIn_13 rfl rfl rfl ?_
      obtain ⟨g4, hf⟩ := kf_g hf
      refine k_iald (j := x1.toNatClampNeg) C ⟨rfl, rfl⟩ g4 rfl dX6_goneIn_14 rfl ?_
      refine k_iconst C (1 : Int32) dX6_goneIn_15 (by decide) rfl ?_
      refine k_icmp_ne C 29 dX6_goneIn_16 rfl rfl (fun b5 => ?_) (fun b5 => ?_)
      · replace hf := kf_f hf b5
        refine k_aload_n C 0 dX6_goneIn_29 rfl rfl rfl ?_
        refine k_iconst C (0 : Int32) dX6_goneIn_30 (by decide) rfl ?_
        refine k_aload_n C 0 dX6_goneIn_31 rfl rfl rfl ?_
        refine g_X6_tried C rfl kw_4_0 dX6_goneIn_32 rfl ?_
        obtain ⟨s6, e7, hf⟩ := kf_b hf
        refine k_callV C [.int (0 : Int32), kr Z 62] (mX6_moveAll ⟨rfl, rfl⟩ e7) rfl (by decide) rfl kw_4_227 kw_4_229 kw_0_45 kw_1_7 kw_4_230 qX6_moveAll rfl ⟨by decide, by decide⟩ ⟨rfl, rfl⟩ (Nat.le_of_ble_eq_true rfl) dX6_goneIn_35 rfl ?_ rfl
        refine (show kV Z 3 38 [(0, kr Z 59), (1, .int x1), (2, .int x2)] [] s6 from ?_)
        refine k_iload_n C 2 dX6_goneIn_38 rfl rfl rfl ?_
        exact k_iret C K hf dX6_goneIn_39
      · replace hf := kf_t hf b5
        refine k_aload_n C 0 dX6_goneIn_19 rfl rfl rfl ?_
        obtain ⟨s8, e9, hf⟩ := kf_b hf
        refine k_callV C [] (mX6_oneHour e9) rfl (by decide) rfl kw_4_215 kw_4_217 kw_0_43 kw_1_7 kw_4_218 qX6_oneHour rfl ⟨by decide, by decide⟩ ⟨rfl, rfl⟩ (Nat.le_of_ble_eq_true rfl) dX6_goneIn_20 rfl ?_ rfl
        refine (show kV Z 3 23 [(0, kr Z 59), (1, .int x1), (2, .int x2)] [] s8 from ?_)
        refine k_iinc (lv' := [(2, .int (x2 + (1 : Int32))), (0, kr Z 59), (1, .int x1)]) C (x2 + (1 : Int32)) 2 dX6_goneIn_23 rfl rfl (by decide) rfl rfl ?_
        refine k_goto C 2 dX6_goneIn_26 rfl ?_
        refine k_lv (lv' := [(0, kr Z 59), (1, .int x1), (2, .int (x2 + (1 : Int32)))]) [1, 2, 0] rfl ?_
        exact ih x1 (x2 + (1 : Int32)) s8  hf
set_option maxRecDepth 100000 in
theorem tX6_goneIn {Z : kZ} (C : kC Z cX6_goneIn RX6 3 rmX6_goneIn) {v1 : Int32}  {st : kM} {res : Int32 × kM} (hf : fX6_goneIn v1 st = some res) (K : kEnd Z (some .int) (some (.int res.1)) res.2) : kV Z 3 0 [(0, kr Z 59), (1, .int v1)] [] st := by
  unfold fX6_goneIn at hf
  refine k_iconst C (0 : Int32) dX6_goneIn_0 (by decide) rfl ?_
  refine k_istore_n (lv' := [(2, .int (0 : Int32)), (0, kr Z 59), (1, .int v1)]) C dX6_goneIn_1 rfl (by decide) rfl rfl ?_
  refine k_lv (lv' := [(0, kr Z 59), (1, .int v1), (2, .int (0 : Int32))]) [1, 2, 0] rfl ?_
  exact tX6_goneIn_2 C K _ v1 (0 : Int32) st hf
theorem mX6_goneIn {G : kG} {v1 : Int32}  {st : kM} {res : Int32 × kM} (hf : fX6_goneIn v1 st = some res) : kCt G yX6_goneIn cX6_goneIn 3 (some .int) rmX6_goneIn [.ref (G.2.1 59), .int v1] st (some (.int res.1)) res.2 := kMet (by decide) (Nat.le_of_ble_eq_true rfl) ⟨rfl, rfl⟩ (fun X A Q C K => tX6_goneIn C  hf K)
theorem qX6_goneIn : yX6_goneIn.cls = RX6 ∧ yX6_goneIn.cls ≠ "java/lang/invoke/MethodHandle" ∧ yX6_goneIn.cls ≠ "java/lang/invoke/VarHandle" ∧ (parseMethodDescriptor yX6_goneIn.desc).map (fun d => d.parameters.length) = some 1 := ⟨rfl, by decide, by decide, by decide +kernel⟩
-- TalkKnotsModel.falls(I)I
def rmX6_falls : Room := { frames := 7, cells := 0, slots := 0, locals := 160 }
def fX6_falls (v1 : Int32) (st : kM) : Option (Int32 × kM) :=
  (fX6_isMast v1 st).bind fun q1 => (if q1.1 = 0 then ((fX6_finds (-1000000001 : Int32) q1.2).bind fun q11 => (some (q11.1, q11.2))) else ((fX6_moveAll (1 : Int32) 62 q1.2).bind fun s4 => ((fX6_goneIn (((14 : Int32) + ((2 : Int32) * v1)) + (1 : Int32)) s4).bind fun q6 => (if q6.1 ≤ (200 : Int32) then (some (q6.1, q6.2)) else ((fX6_finds (-1000000004 : Int32) q6.2).bind fun q9 => (some (q9.1, q9.2)))))))
set_option maxRecDepth 100000 in
theorem tX6_falls {Z : kZ} (C : kC Z cX6_falls RX6 3 rmX6_falls) {v1 : Int32}  {st : kM} {res : Int32 × kM} (hf : fX6_falls v1 st = some res) (K : kEnd Z (some .int) (some (.int res.1)) res.2) : kV Z 3 0 [(0, kr Z 59), (1, .int v1)] [] st := by
  unfold fX6_falls at hf
  refine k_iload_n C 1 dX6_falls_0 rfl rfl rfl ?_
  obtain ⟨q1, e2, hf⟩ := kf_b hf
  refine k_callS C [.int v1] (mX6_isMast e2) kw_4_76 kw_4_77 kw_1_7 kw_4_78 qX6_isMast rfl ⟨by decide, by decide⟩ ⟨rfl, rfl⟩ (Nat.le_of_ble_eq_true rfl) dX6_falls_1 rfl ?_ rfl
  refine (show kV Z 3 4 [(0, kr Z 59), (1, .int v1)] [.int q1.1] q1.2 from ?_)
  refine k_if_ne C 14 dX6_falls_4 rfl rfl (fun b3 => ?_) (fun b3 => ?_)
  · replace hf := kf_f hf b3
    refine k_aload_n C 0 dX6_falls_14 rfl rfl rfl ?_
    refine k_iconst C (1 : Int32) dX6_falls_15 (by decide) rfl ?_
    refine k_aload_n C 0 dX6_falls_16 rfl rfl rfl ?_
    refine g_X6_tried C rfl kw_4_0 dX6_falls_17 rfl ?_
    obtain ⟨s4, e5, hf⟩ := kf_b hf
    refine k_callV C [.int (1 : Int32), kr Z 62] (mX6_moveAll ⟨rfl, rfl⟩ e5) rfl (by decide) rfl kw_4_227 kw_4_229 kw_0_45 kw_1_7 kw_4_230 qX6_moveAll rfl ⟨by decide, by decide⟩ ⟨rfl, rfl⟩ (Nat.le_of_ble_eq_true rfl) dX6_falls_20 rfl ?_ rfl
    refine (show kV Z 3 23 [(0, kr Z 59), (1, .int v1)] [] s4 from ?_)
    refine k_aload_n C 0 dX6_falls_23 rfl rfl rfl ?_
    refine k_bipush C (14 : Int32) dX6_falls_24 (by decide) rfl ?_
    refine k_iconst C (2 : Int32) dX6_falls_26 (by decide) rfl ?_
    refine k_iload_n C 1 dX6_falls_27 rfl rfl rfl ?_
    refine k_imul C dX6_falls_28 rfl ?_
    refine k_iadd C dX6_falls_29 rfl ?_
    refine k_iconst C (1 : Int32) dX6_falls_30 (by decide) rfl ?_
    refine k_iadd C dX6_falls_31 rfl ?_
    obtain ⟨q6, e7, hf⟩ := kf_b hf
    refine k_callV C [.int (((14 : Int32) + ((2 : Int32) * v1)) + (1 : Int32))] (mX6_goneIn e7) rfl (by decide) rfl kw_4_239 kw_5_1 kw_0_46 kw_1_7 kw_5_2 qX6_goneIn rfl ⟨by decide, by decide⟩ ⟨rfl, rfl⟩ (Nat.le_of_ble_eq_true rfl) dX6_falls_32 rfl ?_ rfl
    refine (show kV Z 3 35 [(0, kr Z 59), (1, .int v1)] [.int q6.1] q6.2 from ?_)
    refine k_istore_n (lv' := [(2, .int q6.1), (0, kr Z 59), (1, .int v1)]) C dX6_falls_35 rfl (by decide) rfl rfl ?_
    refine k_iload_n C 0 dX6_falls_36 rfl rfl rfl ?_
    refine k_sipush C (200 : Int32) dX6_falls_37 (by decide) rfl ?_
    refine k_icmp_le C 52 dX6_falls_40 rfl rfl (fun b8 => ?_) (fun b8 => ?_)
    · replace hf := kf_t hf b8
      refine k_iload_n C 0 dX6_falls_52 rfl rfl rfl ?_
      exact k_iret C K hf dX6_falls_53
    · replace hf := kf_f hf b8
      refine k_aload_n C 1 dX6_falls_43 rfl rfl rfl ?_
      refine k_ldc C (-1000000004 : Int32) kw_5_3 dX6_falls_44 rfl ?_
      obtain ⟨q9, e10, hf⟩ := kf_b hf
      refine k_callV C [.int (-1000000004 : Int32)] (mX6_finds e10) rfl (by decide) rfl kw_4_68 kw_4_70 kw_0_24 kw_1_7 kw_4_71 qX6_finds rfl ⟨by decide, by decide⟩ ⟨rfl, rfl⟩ (Nat.le_of_ble_eq_true rfl) dX6_falls_46 rfl ?_ rfl
      refine (show kV Z 3 49 [(2, .int q6.1), (0, kr Z 59), (1, .int v1)] [.int q9.1] q9.2 from ?_)
      refine k_goto C 53 dX6_falls_49 rfl ?_
      exact k_iret C K hf dX6_falls_53
  · replace hf := kf_t hf b3
    refine k_aload_n C 0 dX6_falls_7 rfl rfl rfl ?_
    refine k_ldc C (-1000000001 : Int32) kw_4_67 dX6_falls_8 rfl ?_
    obtain ⟨q11, e12, hf⟩ := kf_b hf
    refine k_callV C [.int (-1000000001 : Int32)] (mX6_finds e12) rfl (by decide) rfl kw_4_68 kw_4_70 kw_0_24 kw_1_7 kw_4_71 qX6_finds rfl ⟨by decide, by decide⟩ ⟨rfl, rfl⟩ (Nat.le_of_ble_eq_true rfl) dX6_falls_10 rfl ?_ rfl
    refine (show kV Z 3 13 [(0, kr Z 59), (1, .int v1)] [.int q11.1] q11.2 from ?_)
    exact k_iret C K hf dX6_falls_13
theorem mX6_falls {G : kG} {v1 : Int32}  {st : kM} {res : Int32 × kM} (hf : fX6_falls v1 st = some res) : kCt G yX6_falls cX6_falls 3 (some .int) rmX6_falls [.ref (G.2.1 59), .int v1] st (some (.int res.1)) res.2 := kMet (by decide) (Nat.le_of_ble_eq_true rfl) ⟨rfl, rfl⟩ (fun X A Q C K => tX6_falls C  hf K)
theorem qX6_falls : yX6_falls.cls = RX6 ∧ yX6_falls.cls ≠ "java/lang/invoke/MethodHandle" ∧ yX6_falls.cls ≠ "java/lang/invoke/VarHandle" ∧ (parseMethodDescriptor yX6_falls.desc).map (fun d => d.parameters.length) = some 1 := ⟨rfl, by decide, by decide, by decide +kernel⟩
-- TalkKnotsModel.gives(I)I
def rmX6_gives : Room := { frames := 7, cells := 0, slots := 0, locals := 160 }
def fX6_gives (v1 : Int32) (st : kM) : Option (Int32 × kM) :=
  (fX6_isOne v1 st).bind fun q1 => (if q1.1 = 0 then ((fX6_finds (-1000000001 : Int32) q1.2).bind fun q11 => (some (q11.1, q11.2))) else ((fX6_moveAll (1 : Int32) 62 q1.2).bind fun s4 => ((fX6_goneIn (((22 : Int32) + ((5 : Int32) * v1)) + (3 : Int32)) s4).bind fun q6 => (if q6.1 ≤ (200 : Int32) then (some (q6.1, q6.2)) else ((fX6_finds (-1000000004 : Int32) q6.2).bind fun q9 => (some (q9.1, q9.2)))))))
set_option maxRecDepth 100000 in
theorem tX6_gives {Z : kZ} (C : kC Z cX6_gives RX6 3 rmX6_gives) {v1 : Int32}  {st : kM} {res : Int32 × kM} (hf : fX6_gives v1 st = some res) (K : kEnd Z (some .int) (some (.int res.1)) res.2) : kV Z 3 0 [(0, kr Z 59), (1, .int v1)] [] st := by
  unfold fX6_gives at hf
  refine k_aload_n C 0 dX6_gives_0 rfl rfl rfl ?_
  refine k_iload_n C 1 dX6_gives_1 rfl rfl rfl ?_
  obtain ⟨q1, e2, hf⟩ := kf_b hf
  refine k_callV C [.int v1] (mX6_isOne e2) rfl (by decide) rfl kw_4_157 kw_4_159 kw_0_37 kw_1_7 kw_4_160 qX6_isOne rfl ⟨by decide, by decide⟩ ⟨rfl, rfl⟩ (Nat.le_of_ble_eq_true rfl) dX6_gives_2 rfl ?_ rfl
  refine (show kV Z 3 5 [(0, kr Z 59), (1, .int v1)] [.int q1.1] q1.2 from ?_)
  refine k_if_ne C 15 dX6_gives_5 rfl rfl (fun b3 => ?_) (fun b3 => ?_)
  · replace hf := kf_f hf b3
    refine k_aload_n C 0 dX6_gives_15 rfl rfl rfl ?_
    refine k_iconst C (1 : Int32) dX6_gives_16 (by decide) rfl ?_
    refine k_aload_n C 0 dX6_gives_17 rfl rfl rfl ?_
    refine g_X6_tried C rfl kw_4_0 dX6_gives_18 rfl ?_
    obtain ⟨s4, e5, hf⟩ := kf_b hf
    refine k_callV C [.int (1 : Int32), kr Z 62] (mX6_moveAll ⟨rfl, rfl⟩ e5) rfl (by decide) rfl kw_4_227 kw_4_229 kw_0_45 kw_1_7 kw_4_230 qX6_moveAll rfl ⟨by decide, by decide⟩ ⟨rfl, rfl⟩ (Nat.le_of_ble_eq_true rfl) dX6_gives_21 rfl ?_ rfl
    refine (show kV Z 3 24 [(0, kr Z 59), (1, .int v1)] [] s4 from ?_)
    refine k_aload_n C 0 dX6_gives_24 rfl rfl rfl ?_
    refine k_bipush C (22 : Int32) dX6_gives_25 (by decide) rfl ?_
    refine k_iconst C (5 : Int32) dX6_gives_27 (by decide) rfl ?_
    refine k_iload_n C 1 dX6_gives_28 rfl rfl rfl ?_
    refine k_imul C dX6_gives_29 rfl ?_
    refine k_iadd C dX6_gives_30 rfl ?_
    refine k_iconst C (3 : Int32) dX6_gives_31 (by decide) rfl ?_
    refine k_iadd C dX6_gives_32 rfl ?_
    obtain ⟨q6, e7, hf⟩ := kf_b hf
    refine k_callV C [.int (((22 : Int32) + ((5 : Int32) * v1)) + (3 : Int32))] (mX6_goneIn e7) rfl (by decide) rfl kw_4_239 kw_5_1 kw_0_46 kw_1_7 kw_5_2 qX6_goneIn rfl ⟨by decide, by decide⟩ ⟨rfl, rfl⟩ (Nat.le_of_ble_eq_true rfl) dX6_gives_33 rfl ?_ rfl
    refine (show kV Z 3 36 [(0, kr Z 59), (1, .int v1)] [.int q6.1] q6.2 from ?_)
    refine k_istore_n (lv' := [(2, .int q6.1), (0, kr Z 59), (1, .int v1)]) C dX6_gives_36 rfl (by decide) rfl rfl ?_
    refine k_iload_n C 0 dX6_gives_37 rfl rfl rfl ?_
    refine k_sipush C (200 : Int32) dX6_gives_38 (by decide) rfl ?_
    refine k_icmp_le C 53 dX6_gives_41 rfl rfl (fun b8 => ?_) (fun b8 => ?_)
    · replace hf := kf_t hf b8
      refine k_iload_n C 0 dX6_gives_53 rfl rfl rfl ?_
      exact k_iret C K hf dX6_gives_54
    · replace hf := kf_f hf b8
      refine k_aload_n C 1 dX6_gives_44 rfl rfl rfl ?_
      refine k_ldc C (-1000000004 : Int32) kw_5_3 dX6_gives_45 rfl ?_
      obtain ⟨q9, e10, hf⟩ := kf_b hf
      refine k_callV C [.int (-1000000004 : Int32)] (mX6_finds e10) rfl (by decide) rfl kw_4_68 kw_4_70 kw_0_24 kw_1_7 kw_4_71 qX6_finds rfl ⟨by decide, by decide⟩ ⟨rfl, rfl⟩ (Nat.le_of_ble_eq_true rfl) dX6_gives_47 rfl ?_ rfl
      refine (show kV Z 3 50 [(2, .int q6.1), (0, kr Z 59), (1, .int v1)] [.int q9.1] q9.2 from ?_)
      refine k_goto C 54 dX6_gives_50 rfl ?_
      exact k_iret C K hf dX6_gives_54
  · replace hf := kf_t hf b3
    refine k_aload_n C 0 dX6_gives_8 rfl rfl rfl ?_
    refine k_ldc C (-1000000001 : Int32) kw_4_67 dX6_gives_9 rfl ?_
    obtain ⟨q11, e12, hf⟩ := kf_b hf
    refine k_callV C [.int (-1000000001 : Int32)] (mX6_finds e12) rfl (by decide) rfl kw_4_68 kw_4_70 kw_0_24 kw_1_7 kw_4_71 qX6_finds rfl ⟨by decide, by decide⟩ ⟨rfl, rfl⟩ (Nat.le_of_ble_eq_true rfl) dX6_gives_11 rfl ?_ rfl
    refine (show kV Z 3 14 [(0, kr Z 59), (1, .int v1)] [.int q11.1] q11.2 from ?_)
    exact k_iret C K hf dX6_gives_14
theorem mX6_gives {G : kG} {v1 : Int32}  {st : kM} {res : Int32 × kM} (hf : fX6_gives v1 st = some res) : kCt G yX6_gives cX6_gives 3 (some .int) rmX6_gives [.ref (G.2.1 59), .int v1] st (some (.int res.1)) res.2 := kMet (by decide) (Nat.le_of_ble_eq_true rfl) ⟨rfl, rfl⟩ (fun X A Q C K => tX6_gives C  hf K)
theorem qX6_gives : yX6_gives.cls = RX6 ∧ yX6_gives.cls ≠ "java/lang/invoke/MethodHandle" ∧ yX6_gives.cls ≠ "java/lang/invoke/VarHandle" ∧ (parseMethodDescriptor yX6_gives.desc).map (fun d => d.parameters.length) = some 1 := ⟨rfl, by decide, by decide, by decide +kernel⟩
-- TalkKnotsModel.best(I)I
def rmX6_best : Room := { frames := 7, cells := 0, slots := 0, locals := 160 }
def fX6_best_84 (k41 : Int32 → Int32 → Int32 → Int32 → kM → Option (Int32 × kM)) (x1 : Int32) (x3 : Int32) (x4 : Int32) (x5 : Int32) (y0 : Int32) (st : kM) : Option (Int32 × kM) :=
  if x5 ≤ x3 then (k41 x1 y0 x3 (x4 + (1 : Int32)) st) else (k41 x1 y0 x5 (x4 + (1 : Int32)) st)
def fX6_best_41 : Nat → Int32 → Int32 → Int32 → Int32 → kM → Option (Int32 × kM)
  | 0, _, _, _, _, _ => none
  | n + 1, x1, x2, x3, x4, st =>
    if (st.1 60 1) ≤ x4 then (if 0 ≤ x2 then (some (x2, st)) else ((fX6_finds (-1000000004 : Int32) st).bind fun q3 => (some (q3.1, q3.2)))) else ((fX6_teases x4 st).bind fun s5 => ((fX6_goneIn (((14 : Int32) + ((2 : Int32) * x1)) + (1 : Int32)) s5).bind fun q7 => (if q7.1 ≤ x3 then (fX6_best_84 (fX6_best_41 n) x1 x3 x4 q7.1 x2 q7.2) else (fX6_best_84 (fX6_best_41 n) x1 x3 x4 q7.1 x4 q7.2))))
def fX6_best (v1 : Int32) (st : kM) : Option (Int32 × kM) :=
  (fX6_isMast v1 st).bind fun q1 => (if q1.1 = 0 then ((fX6_finds (-1000000001 : Int32) q1.2).bind fun q8 => (some (q8.1, q8.2))) else ((fX6_moveAll (1 : Int32) 62 q1.2).bind fun s4 => ((fX6_goneIn (((14 : Int32) + ((2 : Int32) * v1)) + (1 : Int32)) s4).bind fun q6 => (fX6_best_41 kfu v1 (-1 : Int32) q6.1 (0 : Int32) q6.2))))
set_option maxRecDepth 100000 in
theorem tX6_best_84 {Z : kZ} (C : kC Z cX6_best RX6 6 rmX6_best) {res : Int32 × kM} {k41 : Int32 → Int32 → Int32 → Int32 → kM → Option (Int32 × kM)} (hk41 : ∀ (x1 : Int32) (x2 : Int32) (x3 : Int32) (x4 : Int32) (st : kM), k41 x1 x2 x3 x4 st = some res → kV Z 6 41 [(0, kr Z 59), (1, .int x1), (2, .int x2), (3, .int x3), (4, .int x4)] [] st) (K : kEnd Z (some .int) (some (.int res.1)) res.2) : ∀ (x1 : Int32) (x3 : Int32) (x4 : Int32) (x5 : Int32) (y0 : Int32) (st : kM), fX6_best_84 k41 x1 x3 x4 x5 y0 st = some res → kV Z 6 84 [(0, kr Z 59), (1, .int x1), (3, .int x3), (4, .int x4), (5, .int x5)] [.int y0] st := by
  intro x1 x3 x4 x5 y0 st hf
  unfold fX6_best_84 at hf
  refine k_istore_n (lv' := [(2, .int y0), (0, kr Z 59), (1, .int x1), (3, .int x3), (4, .int x4), (5, .int x5)]) C dX6_best_84 rfl (by decide) rfl rfl ?_
  refine k_iload C 5 dX6_best_85 rfl rfl ?_
  refine k_iload_n C 3 dX6_best_87 rfl rfl rfl ?_
  refine k_icmp_le C 96 dX6_best_88 rfl rfl (fun b1 => ?_) (fun b1 => ?_)
  · replace hf := kf_t hf b1
    refine k_iload_n C 3 dX6_best_96 rfl rfl rfl ?_
    refine k_istore_n (lv' := [(3, .int x3), (2, .int y0), (0, kr Z 59), (1, .int x1), (4, .int x4), (5, .int x5)]) C dX6_best_97 rfl (by decide) rfl rfl ?_
    refine k_iinc (lv' := [(4, .int (x4 + (1 : Int32))), (3, .int x3), (2, .int y0), (0, kr Z 59), (1, .int x1), (5, .int x5)]) C (x4 + (1 : Int32)) 4 dX6_best_98 rfl rfl (by decide) rfl rfl ?_
    refine k_goto C 41 dX6_best_101 rfl ?_
    refine k_lv (lv' := [(0, kr Z 59), (1, .int x1), (2, .int y0), (3, .int x3), (4, .int (x4 + (1 : Int32)))]) [3, 4, 2, 1, 0] rfl ?_
    exact hk41 x1 y0 x3 (x4 + (1 : Int32)) st  hf
  · replace hf := kf_f hf b1
    refine k_iload C 5 dX6_best_91 rfl rfl ?_
    refine k_goto C 97 dX6_best_93 rfl ?_
    refine k_istore_n (lv' := [(3, .int x5), (2, .int y0), (0, kr Z 59), (1, .int x1), (4, .int x4), (5, .int x5)]) C dX6_best_97 rfl (by decide) rfl rfl ?_
    refine k_iinc (lv' := [(4, .int (x4 + (1 : Int32))), (3, .int x5), (2, .int y0), (0, kr Z 59), (1, .int x1), (5, .int x5)]) C (x4 + (1 : Int32)) 4 dX6_best_98 rfl rfl (by decide) rfl rfl ?_
    refine k_goto C 41 dX6_best_101 rfl ?_
    refine k_lv (lv' := [(0, kr Z 59), (1, .int x1), (2, .int y0), (3, .int x5), (4, .int (x4 + (1 : Int32)))]) [3, 4, 2, 1, 0] rfl ?_
    exact hk41 x1 y0 x5 (x4 + (1 : Int32)) st  hf
set_option maxRecDepth 100000 in
theorem tX6_best_41 {Z : kZ} (C : kC Z cX6_best RX6 6 rmX6_best) {res : Int32 × kM} (K : kEnd Z (some .int) (some (.int res.1)) res.2) : ∀ (n : Nat) (x1 : Int32) (x2 : Int32) (x3 : Int32) (x4 : Int32) (st : kM), fX6_best_41 n x1 x2 x3 x4 st = some res → kV Z 6 41 [(0, kr Z 59), (1, .int x1), (2, .int x2), (3, .int x3), (4, .int x4)] [] st := by
  intro n
  induction n with
  | zero => intro x1 x2 x3 x4 st hf; cases hf
  | succ n ih =>
    intro x1 x2 x3 x4 st hf
    unfold fX6_best_41 at hf
    refine k_iload C 4 dX6_best_41 rfl rfl ?_
    refine k_aload_n C 0 dX6_best_43 rfl rfl rfl ?_
    refine g_X6_row C rfl kw_3_238 dX6_best_44 rfl ?_
    refine k_iconst C (1 : Int32) dX6_best_47 (by decide) rfl ?_
    refine k_iald (j := 1) C ⟨rfl, rfl⟩ (by decide) rfl dX6_best_48 rfl ?_
    refine k_icmp_ge C 104 dX6_best_49 rfl rfl (fun b1 => ?_) (fun b1 => ?_)
    · replace hf := kf_t hf b1
      refine k_iload_n C 2 dX6_best_104 rfl rfl rfl ?_
      refine k_if_ge C 117 dX6_best_105 rfl rfl (fun b2 => ?_) (fun b2 => ?_)
      · replace hf := kf_t hf b2
        refine k_iload_n C 2 dX6_best_117 rfl rfl rfl ?_
        exact k_iret C K hf dX6_best_118
      · replace hf := kf_f hf b2
        refine k_aload_n C 0 dX6_best_108 rfl rfl rfl ?_
        refine k_ldc C (-1000000004 : Int32) kw_5_3 dX6_best_109 rfl ?_
        obtain ⟨q3, e4, hf⟩ := kf_b hf
        refine k_callV C [.int (-1000000004 : Int32)] (mX6_finds e4) rfl (by decide) rfl kw_4_68 kw_4_70 kw_0_24 kw_1_7 kw_4_71 qX6_finds rfl ⟨by decide, by decide⟩ ⟨rfl, rfl⟩ (Nat.le_of_ble_eq_true rfl) dX6_best_111 rfl ?_ rfl
        refine (show kV Z 6 114 [(0, kr Z 59), (1, .int x1), (2, .int x2), (3, .int x3), (4, .int x4)] [.int q3.1] q3.2 from ?_)
        refine k_goto C 118 dX6_best_114 rfl ?_
        exact k_iret C K hf dX6_best_118
    · replace hf := kf_f hf b1
      refine k_aload_n C 0 dX6_best_52 rfl rfl rfl ?_
      refine k_iload C 4 dX6_best_53 rfl rfl ?_
      obtain ⟨s5, e6, hf⟩ := kf_b hf
      refine k_callV C [.int x4] (mX6_teases e6) rfl (by decide) rfl kw_4_193 kw_4_195 kw_0_41 kw_1_7 kw_4_196 qX6_teases rfl ⟨by decide, by decide⟩ ⟨rfl, rfl⟩ (Nat.le_of_ble_eq_true rfl) dX6_best_55 rfl ?_ rfl
      refine (show kV Z 6 58 [(0, kr Z 59), (1, .int x1), (2, .int x2), (3, .int x3), (4, .int x4)] [] s5 from ?_)
      refine k_aload_n C 0 dX6_best_58 rfl rfl rfl ?_
      refine k_bipush C (14 : Int32) dX6_best_59 (by decide) rfl ?_
      refine k_iconst C (2 : Int32) dX6_best_61 (by decide) rfl ?_
      refine k_iload_n C 1 dX6_best_62 rfl rfl rfl ?_
      refine k_imul C dX6_best_63 rfl ?_
      refine k_iadd C dX6_best_64 rfl ?_
      refine k_iconst C (1 : Int32) dX6_best_65 (by decide) rfl ?_
      refine k_iadd C dX6_best_66 rfl ?_
      obtain ⟨q7, e8, hf⟩ := kf_b hf
      refine k_callV C [.int (((14 : Int32) + ((2 : Int32) * x1)) + (1 : Int32))] (mX6_goneIn e8) rfl (by decide) rfl kw_4_239 kw_5_1 kw_0_46 kw_1_7 kw_5_2 qX6_goneIn rfl ⟨by decide, by decide⟩ ⟨rfl, rfl⟩ (Nat.le_of_ble_eq_true rfl) dX6_best_67 rfl ?_ rfl
      refine (show kV Z 6 70 [(0, kr Z 59), (1, .int x1), (2, .int x2), (3, .int x3), (4, .int x4)] [.int q7.1] q7.2 from ?_)
      refine k_istore (lv' := [(5, .int q7.1), (0, kr Z 59), (1, .int x1), (2, .int x2), (3, .int x3), (4, .int x4)]) C dX6_best_70 (by decide) rfl rfl ?_
      refine k_iload C 0 dX6_best_72 rfl rfl ?_
      refine k_iload_n C 4 dX6_best_74 rfl rfl rfl ?_
      refine k_icmp_le C 83 dX6_best_75 rfl rfl (fun b9 => ?_) (fun b9 => ?_)
      · replace hf := kf_t hf b9
        refine k_iload_n C 3 dX6_best_83 rfl rfl rfl ?_
        refine k_lv (lv' := [(0, kr Z 59), (1, .int x1), (3, .int x3), (4, .int x4), (5, .int q7.1)]) [1, 2, 4, 5, 0] rfl ?_
        exact tX6_best_84 C ih K x1 x3 x4 q7.1 x2 q7.2 hf
      · replace hf := kf_f hf b9
        refine k_iload C 5 dX6_best_78 rfl rfl ?_
        refine k_goto C 84 dX6_best_80 rfl ?_
        refine k_lv (lv' := [(0, kr Z 59), (1, .int x1), (3, .int x3), (4, .int x4), (5, .int q7.1)]) [1, 2, 4, 5, 0] rfl ?_
        exact tX6_best_84 C ih K x1 x3 x4 q7.1 x4 q7.2 hf
set_option maxRecDepth 100000 in
theorem tX6_best {Z : kZ} (C : kC Z cX6_best RX6 6 rmX6_best) {v1 : Int32}  {st : kM} {res : Int32 × kM} (hf : fX6_best v1 st = some res) (K : kEnd Z (some .int) (some (.int res.1)) res.2) : kV Z 6 0 [(0, kr Z 59), (1, .int v1)] [] st := by
  unfold fX6_best at hf
  refine k_iload_n C 1 dX6_best_0 rfl rfl rfl ?_
  obtain ⟨q1, e2, hf⟩ := kf_b hf
  refine k_callS C [.int v1] (mX6_isMast e2) kw_4_76 kw_4_77 kw_1_7 kw_4_78 qX6_isMast rfl ⟨by decide, by decide⟩ ⟨rfl, rfl⟩ (Nat.le_of_ble_eq_true rfl) dX6_best_1 rfl ?_ rfl
  refine (show kV Z 6 4 [(0, kr Z 59), (1, .int v1)] [.int q1.1] q1.2 from ?_)
  refine k_if_ne C 14 dX6_best_4 rfl rfl (fun b3 => ?_) (fun b3 => ?_)
  · replace hf := kf_f hf b3
    refine k_aload_n C 0 dX6_best_14 rfl rfl rfl ?_
    refine k_iconst C (1 : Int32) dX6_best_15 (by decide) rfl ?_
    refine k_aload_n C 0 dX6_best_16 rfl rfl rfl ?_
    refine g_X6_tried C rfl kw_4_0 dX6_best_17 rfl ?_
    obtain ⟨s4, e5, hf⟩ := kf_b hf
    refine k_callV C [.int (1 : Int32), kr Z 62] (mX6_moveAll ⟨rfl, rfl⟩ e5) rfl (by decide) rfl kw_4_227 kw_4_229 kw_0_45 kw_1_7 kw_4_230 qX6_moveAll rfl ⟨by decide, by decide⟩ ⟨rfl, rfl⟩ (Nat.le_of_ble_eq_true rfl) dX6_best_20 rfl ?_ rfl
    refine (show kV Z 6 23 [(0, kr Z 59), (1, .int v1)] [] s4 from ?_)
    refine k_iconst C (-1 : Int32) dX6_best_23 (by decide) rfl ?_
    refine k_istore_n (lv' := [(2, .int (-1 : Int32)), (0, kr Z 59), (1, .int v1)]) C dX6_best_24 rfl (by decide) rfl rfl ?_
    refine k_aload_n C 1 dX6_best_25 rfl rfl rfl ?_
    refine k_bipush C (14 : Int32) dX6_best_26 (by decide) rfl ?_
    refine k_iconst C (2 : Int32) dX6_best_28 (by decide) rfl ?_
    refine k_iload_n C 2 dX6_best_29 rfl rfl rfl ?_
    refine k_imul C dX6_best_30 rfl ?_
    refine k_iadd C dX6_best_31 rfl ?_
    refine k_iconst C (1 : Int32) dX6_best_32 (by decide) rfl ?_
    refine k_iadd C dX6_best_33 rfl ?_
    obtain ⟨q6, e7, hf⟩ := kf_b hf
    refine k_callV C [.int (((14 : Int32) + ((2 : Int32) * v1)) + (1 : Int32))] (mX6_goneIn e7) rfl (by decide) rfl kw_4_239 kw_5_1 kw_0_46 kw_1_7 kw_5_2 qX6_goneIn rfl ⟨by decide, by decide⟩ ⟨rfl, rfl⟩ (Nat.le_of_ble_eq_true rfl) dX6_best_34 rfl ?_ rfl
    refine (show kV Z 6 37 [(2, .int (-1 : Int32)), (0, kr Z 59), (1, .int v1)] [.int q6.1] q6.2 from ?_)
    refine k_istore_n (lv' := [(3, .int q6.1), (2, .int (-1 : Int32)), (0, kr Z 59), (1, .int v1)]) C dX6_best_37 rfl (by decide) rfl rfl ?_
    refine k_iconst C (0 : Int32) dX6_best_38 (by decide) rfl ?_
    refine k_istore (lv' := [(4, .int (0 : Int32)), (3, .int q6.1), (2, .int (-1 : Int32)), (0, kr Z 59), (1, .int v1)]) C dX6_best_39 (by decide) rfl rfl ?_
    refine k_lv (lv' := [(0, kr Z 59), (1, .int v1), (2, .int (-1 : Int32)), (3, .int q6.1), (4, .int (0 : Int32))]) [3, 4, 2, 1, 0] rfl ?_
    exact tX6_best_41 C K _ v1 (-1 : Int32) q6.1 (0 : Int32) q6.2 hf
  · replace hf := kf_t hf b3
    refine k_aload_n C 0 dX6_best_7 rfl rfl rfl ?_
    refine k_ldc C (-1000000001 : Int32) kw_4_67 dX6_best_8 rfl ?_
    obtain ⟨q8, e9, hf⟩ := kf_b hf
    refine k_callV C [.int (-1000000001 : Int32)] (mX6_finds e9) rfl (by decide) rfl kw_4_68 kw_4_70 kw_0_24 kw_1_7 kw_4_71 qX6_finds rfl ⟨by decide, by decide⟩ ⟨rfl, rfl⟩ (Nat.le_of_ble_eq_true rfl) dX6_best_10 rfl ?_ rfl
    refine (show kV Z 6 13 [(0, kr Z 59), (1, .int v1)] [.int q8.1] q8.2 from ?_)
    exact k_iret C K hf dX6_best_13
theorem mX6_best {G : kG} {v1 : Int32}  {st : kM} {res : Int32 × kM} (hf : fX6_best v1 st = some res) : kCt G yX6_best cX6_best 6 (some .int) rmX6_best [.ref (G.2.1 59), .int v1] st (some (.int res.1)) res.2 := kMet (by decide) (Nat.le_of_ble_eq_true rfl) ⟨rfl, rfl⟩ (fun X A Q C K => tX6_best C  hf K)
theorem qX6_best : yX6_best.cls = RX6 ∧ yX6_best.cls ≠ "java/lang/invoke/MethodHandle" ∧ yX6_best.cls ≠ "java/lang/invoke/VarHandle" ∧ (parseMethodDescriptor yX6_best.desc).map (fun d => d.parameters.length) = some 1 := ⟨rfl, by decide, by decide, by decide +kernel⟩
-- TalkKnotsModel.kind(I)I
def rmX6_kind : Room := { frames := 7, cells := 0, slots := 0, locals := 160 }
def fX6_kind_71 (k31 : Int32 → Int32 → Int32 → Int32 → kM → Option (Int32 × kM)) (x1 : Int32) (x3 : Int32) (x4 : Int32) (x5 : Int32) (y0 : Int32) (st : kM) : Option (Int32 × kM) :=
  if x5 ≤ x3 then (k31 x1 y0 x3 (x4 + (1 : Int32)) st) else (k31 x1 y0 x5 (x4 + (1 : Int32)) st)
def fX6_kind_31 : Nat → Int32 → Int32 → Int32 → Int32 → kM → Option (Int32 × kM)
  | 0, _, _, _, _, _ => none
  | n + 1, x1, x2, x3, x4, st =>
    if (5 : Int32) < x4 then (some (x2, st)) else ((fX6_puts x1 (0 : Int32) x4 st).bind fun s2 => ((fX6_goneIn (((22 : Int32) + ((5 : Int32) * x1)) + (3 : Int32)) s2).bind fun q4 => (if q4.1 ≤ x3 then (fX6_kind_71 (fX6_kind_31 n) x1 x3 x4 q4.1 x2 q4.2) else (fX6_kind_71 (fX6_kind_31 n) x1 x3 x4 q4.1 x4 q4.2))))
def fX6_kind (v1 : Int32) (st : kM) : Option (Int32 × kM) :=
  (fX6_isOne v1 st).bind fun q1 => (if q1.1 = 0 then ((fX6_finds (-1000000001 : Int32) q1.2).bind fun q6 => (some (q6.1, q6.2))) else ((fX6_moveAll (1 : Int32) 62 q1.2).bind fun s4 => (fX6_kind_31 kfu v1 (0 : Int32) (-1 : Int32) (0 : Int32) s4)))
set_option maxRecDepth 100000 in
theorem tX6_kind_71 {Z : kZ} (C : kC Z cX6_kind RX6 6 rmX6_kind) {res : Int32 × kM} {k31 : Int32 → Int32 → Int32 → Int32 → kM → Option (Int32 × kM)} (hk31 : ∀ (x1 : Int32) (x2 : Int32) (x3 : Int32) (x4 : Int32) (st : kM), k31 x1 x2 x3 x4 st = some res → kV Z 6 31 [(0, kr Z 59), (1, .int x1), (2, .int x2), (3, .int x3), (4, .int x4)] [] st) (K : kEnd Z (some .int) (some (.int res.1)) res.2) : ∀ (x1 : Int32) (x3 : Int32) (x4 : Int32) (x5 : Int32) (y0 : Int32) (st : kM), fX6_kind_71 k31 x1 x3 x4 x5 y0 st = some res → kV Z 6 71 [(0, kr Z 59), (1, .int x1), (3, .int x3), (4, .int x4), (5, .int x5)] [.int y0] st := by
  intro x1 x3 x4 x5 y0 st hf
  unfold fX6_kind_71 at hf
  refine k_istore_n (lv' := [(2, .int y0), (0, kr Z 59), (1, .int x1), (3, .int x3), (4, .int x4), (5, .int x5)]) C dX6_kind_71 rfl (by decide) rfl rfl ?_
  refine k_iload C 5 dX6_kind_72 rfl rfl ?_
  refine k_iload_n C 3 dX6_kind_74 rfl rfl rfl ?_
  refine k_icmp_le C 83 dX6_kind_75 rfl rfl (fun b1 => ?_) (fun b1 => ?_)
  · replace hf := kf_t hf b1
    refine k_iload_n C 3 dX6_kind_83 rfl rfl rfl ?_
    refine k_istore_n (lv' := [(3, .int x3), (2, .int y0), (0, kr Z 59), (1, .int x1), (4, .int x4), (5, .int x5)]) C dX6_kind_84 rfl (by decide) rfl rfl ?_
    refine k_iinc (lv' := [(4, .int (x4 + (1 : Int32))), (3, .int x3), (2, .int y0), (0, kr Z 59), (1, .int x1), (5, .int x5)]) C (x4 + (1 : Int32)) 4 dX6_kind_85 rfl rfl (by decide) rfl rfl ?_
    refine k_goto C 31 dX6_kind_88 rfl ?_
    refine k_lv (lv' := [(0, kr Z 59), (1, .int x1), (2, .int y0), (3, .int x3), (4, .int (x4 + (1 : Int32)))]) [3, 4, 2, 1, 0] rfl ?_
    exact hk31 x1 y0 x3 (x4 + (1 : Int32)) st  hf
  · replace hf := kf_f hf b1
    refine k_iload C 5 dX6_kind_78 rfl rfl ?_
    refine k_goto C 84 dX6_kind_80 rfl ?_
    refine k_istore_n (lv' := [(3, .int x5), (2, .int y0), (0, kr Z 59), (1, .int x1), (4, .int x4), (5, .int x5)]) C dX6_kind_84 rfl (by decide) rfl rfl ?_
    refine k_iinc (lv' := [(4, .int (x4 + (1 : Int32))), (3, .int x5), (2, .int y0), (0, kr Z 59), (1, .int x1), (5, .int x5)]) C (x4 + (1 : Int32)) 4 dX6_kind_85 rfl rfl (by decide) rfl rfl ?_
    refine k_goto C 31 dX6_kind_88 rfl ?_
    refine k_lv (lv' := [(0, kr Z 59), (1, .int x1), (2, .int y0), (3, .int x5), (4, .int (x4 + (1 : Int32)))]) [3, 4, 2, 1, 0] rfl ?_
    exact hk31 x1 y0 x5 (x4 + (1 : Int32)) st  hf
set_option maxRecDepth 100000 in
theorem tX6_kind_31 {Z : kZ} (C : kC Z cX6_kind RX6 6 rmX6_kind) {res : Int32 × kM} (K : kEnd Z (some .int) (some (.int res.1)) res.2) : ∀ (n : Nat) (x1 : Int32) (x2 : Int32) (x3 : Int32) (x4 : Int32) (st : kM), fX6_kind_31 n x1 x2 x3 x4 st = some res → kV Z 6 31 [(0, kr Z 59), (1, .int x1), (2, .int x2), (3, .int x3), (4, .int x4)] [] st := by
  intro n
  induction n with
  | zero => intro x1 x2 x3 x4 st hf; cases hf
  | succ n ih =>
    intro x1 x2 x3 x4 st hf
    unfold fX6_kind_31 at hf
    refine k_iload C 4 dX6_kind_31 rfl rfl ?_
    refine k_iconst C (5 : Int32) dX6_kind_33 (by decide) rfl ?_
    refine k_icmp_gt C 91 dX6_kind_34 rfl rfl (fun b1 => ?_) (fun b1 => ?_)
    · replace hf := kf_t hf b1
      refine k_iload_n C 2 dX6_kind_91 rfl rfl rfl ?_
      exact k_iret C K hf dX6_kind_92
    · replace hf := kf_f hf b1
      refine k_aload_n C 0 dX6_kind_37 rfl rfl rfl ?_
      refine k_iload_n C 1 dX6_kind_38 rfl rfl rfl ?_
      refine k_iconst C (0 : Int32) dX6_kind_39 (by decide) rfl ?_
      refine k_iload C 4 dX6_kind_40 rfl rfl ?_
      obtain ⟨s2, e3, hf⟩ := kf_b hf
      refine k_callV C [.int x1, .int (0 : Int32), .int x4] (mX6_puts e3) rfl (by decide) rfl kw_4_149 kw_4_151 kw_0_36 kw_1_7 kw_4_152 qX6_puts rfl ⟨by decide, by decide⟩ ⟨rfl, rfl⟩ (Nat.le_of_ble_eq_true rfl) dX6_kind_42 rfl ?_ rfl
      refine (show kV Z 6 45 [(0, kr Z 59), (1, .int x1), (2, .int x2), (3, .int x3), (4, .int x4)] [] s2 from ?_)
      refine k_aload_n C 0 dX6_kind_45 rfl rfl rfl ?_
      refine k_bipush C (22 : Int32) dX6_kind_46 (by decide) rfl ?_
      refine k_iconst C (5 : Int32) dX6_kind_48 (by decide) rfl ?_
      refine k_iload_n C 1 dX6_kind_49 rfl rfl rfl ?_
      refine k_imul C dX6_kind_50 rfl ?_
      refine k_iadd C dX6_kind_51 rfl ?_
      refine k_iconst C (3 : Int32) dX6_kind_52 (by decide) rfl ?_
      refine k_iadd C dX6_kind_53 rfl ?_
      obtain ⟨q4, e5, hf⟩ := kf_b hf
      refine k_callV C [.int (((22 : Int32) + ((5 : Int32) * x1)) + (3 : Int32))] (mX6_goneIn e5) rfl (by decide) rfl kw_4_239 kw_5_1 kw_0_46 kw_1_7 kw_5_2 qX6_goneIn rfl ⟨by decide, by decide⟩ ⟨rfl, rfl⟩ (Nat.le_of_ble_eq_true rfl) dX6_kind_54 rfl ?_ rfl
      refine (show kV Z 6 57 [(0, kr Z 59), (1, .int x1), (2, .int x2), (3, .int x3), (4, .int x4)] [.int q4.1] q4.2 from ?_)
      refine k_istore (lv' := [(5, .int q4.1), (0, kr Z 59), (1, .int x1), (2, .int x2), (3, .int x3), (4, .int x4)]) C dX6_kind_57 (by decide) rfl rfl ?_
      refine k_iload C 0 dX6_kind_59 rfl rfl ?_
      refine k_iload_n C 4 dX6_kind_61 rfl rfl rfl ?_
      refine k_icmp_le C 70 dX6_kind_62 rfl rfl (fun b6 => ?_) (fun b6 => ?_)
      · replace hf := kf_t hf b6
        refine k_iload_n C 3 dX6_kind_70 rfl rfl rfl ?_
        refine k_lv (lv' := [(0, kr Z 59), (1, .int x1), (3, .int x3), (4, .int x4), (5, .int q4.1)]) [1, 2, 4, 5, 0] rfl ?_
        exact tX6_kind_71 C ih K x1 x3 x4 q4.1 x2 q4.2 hf
      · replace hf := kf_f hf b6
        refine k_iload C 5 dX6_kind_65 rfl rfl ?_
        refine k_goto C 71 dX6_kind_67 rfl ?_
        refine k_lv (lv' := [(0, kr Z 59), (1, .int x1), (3, .int x3), (4, .int x4), (5, .int q4.1)]) [1, 2, 4, 5, 0] rfl ?_
        exact tX6_kind_71 C ih K x1 x3 x4 q4.1 x4 q4.2 hf
set_option maxRecDepth 100000 in
theorem tX6_kind {Z : kZ} (C : kC Z cX6_kind RX6 6 rmX6_kind) {v1 : Int32}  {st : kM} {res : Int32 × kM} (hf : fX6_kind v1 st = some res) (K : kEnd Z (some .int) (some (.int res.1)) res.2) : kV Z 6 0 [(0, kr Z 59), (1, .int v1)] [] st := by
  unfold fX6_kind at hf
  refine k_aload_n C 0 dX6_kind_0 rfl rfl rfl ?_
  refine k_iload_n C 1 dX6_kind_1 rfl rfl rfl ?_
  obtain ⟨q1, e2, hf⟩ := kf_b hf
  refine k_callV C [.int v1] (mX6_isOne e2) rfl (by decide) rfl kw_4_157 kw_4_159 kw_0_37 kw_1_7 kw_4_160 qX6_isOne rfl ⟨by decide, by decide⟩ ⟨rfl, rfl⟩ (Nat.le_of_ble_eq_true rfl) dX6_kind_2 rfl ?_ rfl
  refine (show kV Z 6 5 [(0, kr Z 59), (1, .int v1)] [.int q1.1] q1.2 from ?_)
  refine k_if_ne C 15 dX6_kind_5 rfl rfl (fun b3 => ?_) (fun b3 => ?_)
  · replace hf := kf_f hf b3
    refine k_aload_n C 0 dX6_kind_15 rfl rfl rfl ?_
    refine k_iconst C (1 : Int32) dX6_kind_16 (by decide) rfl ?_
    refine k_aload_n C 0 dX6_kind_17 rfl rfl rfl ?_
    refine g_X6_tried C rfl kw_4_0 dX6_kind_18 rfl ?_
    obtain ⟨s4, e5, hf⟩ := kf_b hf
    refine k_callV C [.int (1 : Int32), kr Z 62] (mX6_moveAll ⟨rfl, rfl⟩ e5) rfl (by decide) rfl kw_4_227 kw_4_229 kw_0_45 kw_1_7 kw_4_230 qX6_moveAll rfl ⟨by decide, by decide⟩ ⟨rfl, rfl⟩ (Nat.le_of_ble_eq_true rfl) dX6_kind_21 rfl ?_ rfl
    refine (show kV Z 6 24 [(0, kr Z 59), (1, .int v1)] [] s4 from ?_)
    refine k_iconst C (0 : Int32) dX6_kind_24 (by decide) rfl ?_
    refine k_istore_n (lv' := [(2, .int (0 : Int32)), (0, kr Z 59), (1, .int v1)]) C dX6_kind_25 rfl (by decide) rfl rfl ?_
    refine k_iconst C (-1 : Int32) dX6_kind_26 (by decide) rfl ?_
    refine k_istore_n (lv' := [(3, .int (-1 : Int32)), (2, .int (0 : Int32)), (0, kr Z 59), (1, .int v1)]) C dX6_kind_27 rfl (by decide) rfl rfl ?_
    refine k_iconst C (0 : Int32) dX6_kind_28 (by decide) rfl ?_
    refine k_istore (lv' := [(4, .int (0 : Int32)), (3, .int (-1 : Int32)), (2, .int (0 : Int32)), (0, kr Z 59), (1, .int v1)]) C dX6_kind_29 (by decide) rfl rfl ?_
    refine k_lv (lv' := [(0, kr Z 59), (1, .int v1), (2, .int (0 : Int32)), (3, .int (-1 : Int32)), (4, .int (0 : Int32))]) [3, 4, 2, 1, 0] rfl ?_
    exact tX6_kind_31 C K _ v1 (0 : Int32) (-1 : Int32) (0 : Int32) s4 hf
  · replace hf := kf_t hf b3
    refine k_aload_n C 0 dX6_kind_8 rfl rfl rfl ?_
    refine k_ldc C (-1000000001 : Int32) kw_4_67 dX6_kind_9 rfl ?_
    obtain ⟨q6, e7, hf⟩ := kf_b hf
    refine k_callV C [.int (-1000000001 : Int32)] (mX6_finds e7) rfl (by decide) rfl kw_4_68 kw_4_70 kw_0_24 kw_1_7 kw_4_71 qX6_finds rfl ⟨by decide, by decide⟩ ⟨rfl, rfl⟩ (Nat.le_of_ble_eq_true rfl) dX6_kind_11 rfl ?_ rfl
    refine (show kV Z 6 14 [(0, kr Z 59), (1, .int v1)] [.int q6.1] q6.2 from ?_)
    exact k_iret C K hf dX6_kind_14
theorem mX6_kind {G : kG} {v1 : Int32}  {st : kM} {res : Int32 × kM} (hf : fX6_kind v1 st = some res) : kCt G yX6_kind cX6_kind 6 (some .int) rmX6_kind [.ref (G.2.1 59), .int v1] st (some (.int res.1)) res.2 := kMet (by decide) (Nat.le_of_ble_eq_true rfl) ⟨rfl, rfl⟩ (fun X A Q C K => tX6_kind C  hf K)
theorem qX6_kind : yX6_kind.cls = RX6 ∧ yX6_kind.cls ≠ "java/lang/invoke/MethodHandle" ∧ yX6_kind.cls ≠ "java/lang/invoke/VarHandle" ∧ (parseMethodDescriptor yX6_kind.desc).map (fun d => d.parameters.length) = some 1 := ⟨rfl, by decide, by decide, by decide +kernel⟩
-- TalkKnotsModel.lasts(II)Z
def rmX6_lasts : Room := { frames := 6, cells := 0, slots := 0, locals := 138 }
def fX6_lasts_27 (x1 : Int32) (st : kM) : Option (Int32 × kM) :=
  if x1 < 0 ∨ 72 ≤ x1.toNatClampNeg then none else (if (st.1 60 x1.toNatClampNeg) = (1 : Int32) then ((fX6_moveAll (0 : Int32) 62 st).bind fun s5 => (some ((1 : Int32), s5))) else ((fX6_moveAll (0 : Int32) 62 st).bind fun s3 => (some ((0 : Int32), s3))))
def fX6_lasts_2 : Nat → Int32 → Int32 → Int32 → kM → Option (Int32 × kM)
  | 0, _, _, _, _ => none
  | n + 1, x1, x2, x3, st =>
    if x2 ≤ x3 then (fX6_lasts_27 x1 st) else (if x1 < 0 ∨ 72 ≤ x1.toNatClampNeg then none else (if (st.1 60 x1.toNatClampNeg) = (1 : Int32) then ((fX6_oneHour st).bind fun s4 => (fX6_lasts_2 n x1 x2 (x3 + (1 : Int32)) s4)) else (fX6_lasts_27 x1 st)))
def fX6_lasts (v1 : Int32) (v2 : Int32) (st : kM) : Option (Int32 × kM) :=
  fX6_lasts_2 kfu v1 v2 (0 : Int32) st
set_option maxRecDepth 100000 in
theorem tX6_lasts_27 {Z : kZ} (C : kC Z cX6_lasts RX6 4 rmX6_lasts) {res : Int32 × kM} (K : kEnd Z (some .boolean) (some (.int res.1)) res.2) : ∀ (x1 : Int32) (st : kM), fX6_lasts_27 x1 st = some res → kV Z 4 27 [(0, kr Z 59), (1, .int x1)] [] st := by
  intro x1 st hf
  unfold fX6_lasts_27 at hf
  refine k_aload_n C 0 dX6_lasts_27 rfl rfl rfl ?_
  refine g_X6_row C rfl kw_3_238 dX6_lasts_28 rfl ?_
  refine k_iload_n C 1 dX6_lasts_31 rfl rfl rfl ?_
  obtain ⟨g1, hf⟩ := kf_g hf
  refine k_iald (j := x1.toNatClampNeg) C ⟨rfl, rfl⟩ g1 rfl dX6_lasts_32 rfl ?_
  refine k_iconst C (1 : Int32) dX6_lasts_33 (by decide) rfl ?_
  refine k_icmp_ne C 41 dX6_lasts_34 rfl rfl (fun b2 => ?_) (fun b2 => ?_)
  · replace hf := kf_f hf b2
    refine k_iconst C (0 : Int32) dX6_lasts_41 (by decide) rfl ?_
    refine k_istore_n (lv' := [(3, .int (0 : Int32)), (0, kr Z 59), (1, .int x1)]) C dX6_lasts_42 rfl (by decide) rfl rfl ?_
    refine k_aload_n C 1 dX6_lasts_43 rfl rfl rfl ?_
    refine k_iconst C (0 : Int32) dX6_lasts_44 (by decide) rfl ?_
    refine k_aload_n C 1 dX6_lasts_45 rfl rfl rfl ?_
    refine g_X6_tried C rfl kw_4_0 dX6_lasts_46 rfl ?_
    obtain ⟨s3, e4, hf⟩ := kf_b hf
    refine k_callV C [.int (0 : Int32), kr Z 62] (mX6_moveAll ⟨rfl, rfl⟩ e4) rfl (by decide) rfl kw_4_227 kw_4_229 kw_0_45 kw_1_7 kw_4_230 qX6_moveAll rfl ⟨by decide, by decide⟩ ⟨rfl, rfl⟩ (Nat.le_of_ble_eq_true rfl) dX6_lasts_49 rfl ?_ rfl
    refine (show kV Z 4 52 [(3, .int (0 : Int32)), (0, kr Z 59), (1, .int x1)] [] s3 from ?_)
    refine k_iload_n C 0 dX6_lasts_52 rfl rfl rfl ?_
    exact k_zret C K hf rfl dX6_lasts_53
  · replace hf := kf_t hf b2
    refine k_iconst C (1 : Int32) dX6_lasts_37 (by decide) rfl ?_
    refine k_goto C 42 dX6_lasts_38 rfl ?_
    refine k_istore_n (lv' := [(3, .int (1 : Int32)), (0, kr Z 59), (1, .int x1)]) C dX6_lasts_42 rfl (by decide) rfl rfl ?_
    refine k_aload_n C 1 dX6_lasts_43 rfl rfl rfl ?_
    refine k_iconst C (0 : Int32) dX6_lasts_44 (by decide) rfl ?_
    refine k_aload_n C 1 dX6_lasts_45 rfl rfl rfl ?_
    refine g_X6_tried C rfl kw_4_0 dX6_lasts_46 rfl ?_
    obtain ⟨s5, e6, hf⟩ := kf_b hf
    refine k_callV C [.int (0 : Int32), kr Z 62] (mX6_moveAll ⟨rfl, rfl⟩ e6) rfl (by decide) rfl kw_4_227 kw_4_229 kw_0_45 kw_1_7 kw_4_230 qX6_moveAll rfl ⟨by decide, by decide⟩ ⟨rfl, rfl⟩ (Nat.le_of_ble_eq_true rfl) dX6_lasts_49 rfl ?_ rfl
    refine (show kV Z 4 52 [(3, .int (1 : Int32)), (0, kr Z 59), (1, .int x1)] [] s5 from ?_)
    refine k_iload_n C 0 dX6_lasts_52 rfl rfl rfl ?_
    exact k_zret C K hf rfl dX6_lasts_53
set_option maxRecDepth 100000 in
theorem tX6_lasts_2 {Z : kZ} (C : kC Z cX6_lasts RX6 4 rmX6_lasts) {res : Int32 × kM} (K : kEnd Z (some .boolean) (some (.int res.1)) res.2) : ∀ (n : Nat) (x1 : Int32) (x2 : Int32) (x3 : Int32) (st : kM), fX6_lasts_2 n x1 x2 x3 st = some res → kV Z 4 2 [(0, kr Z 59), (1, .int x1), (2, .int x2), (3, .int x3)] [] st := by
  intro n
  induction n with
  | zero => intro x1 x2 x3 st hf; cases hf
  | succ n ih =>
    intro x1 x2 x3 st hf
    unfold fX6_lasts_2 at hf
    refine k_iload_n C 3 dX6_lasts_2 rfl rfl rfl ?_
    refine k_iload_n C 2 dX6_lasts_3 rfl rfl rfl ?_
    refine k_icmp_ge C 27 dX6_lasts_4 rfl rfl (fun b1 => ?_) (fun b1 => ?_)
    · replace hf := kf_t hf b1
      refine k_lv (lv' := [(0, kr Z 59), (1, .int x1)]) [0, 1] rfl ?_
      exact tX6_lasts_27 C K x1 st hf
    · replace hf := kf_f hf b1
      refine k_aload_n C 0 dX6_lasts_7 rfl rfl rfl ?_
      refine g_X6_row C rfl kw_3_238 dX6_lasts_8 rfl ?_
      refine k_iload_n C 1 dX6_lasts_11 rfl rfl rfl ?_
      obtain ⟨g2, hf⟩ := kf_g hf
      refine k_iald (j := x1.toNatClampNeg) C ⟨rfl, rfl⟩ g2 rfl dX6_lasts_12 rfl ?_
      refine k_iconst C (1 : Int32) dX6_lasts_13 (by decide) rfl ?_
      refine k_icmp_ne C 27 dX6_lasts_14 rfl rfl (fun b3 => ?_) (fun b3 => ?_)
      · replace hf := kf_f hf b3
        refine k_lv (lv' := [(0, kr Z 59), (1, .int x1)]) [0, 1] rfl ?_
        exact tX6_lasts_27 C K x1 st hf
      · replace hf := kf_t hf b3
        refine k_aload_n C 0 dX6_lasts_17 rfl rfl rfl ?_
        obtain ⟨s4, e5, hf⟩ := kf_b hf
        refine k_callV C [] (mX6_oneHour e5) rfl (by decide) rfl kw_4_215 kw_4_217 kw_0_43 kw_1_7 kw_4_218 qX6_oneHour rfl ⟨by decide, by decide⟩ ⟨rfl, rfl⟩ (Nat.le_of_ble_eq_true rfl) dX6_lasts_18 rfl ?_ rfl
        refine (show kV Z 4 21 [(0, kr Z 59), (1, .int x1), (2, .int x2), (3, .int x3)] [] s4 from ?_)
        refine k_iinc (lv' := [(3, .int (x3 + (1 : Int32))), (0, kr Z 59), (1, .int x1), (2, .int x2)]) C (x3 + (1 : Int32)) 3 dX6_lasts_21 rfl rfl (by decide) rfl rfl ?_
        refine k_goto C 2 dX6_lasts_24 rfl ?_
        refine k_lv (lv' := [(0, kr Z 59), (1, .int x1), (2, .int x2), (3, .int (x3 + (1 : Int32)))]) [1, 2, 3, 0] rfl ?_
        exact ih x1 x2 (x3 + (1 : Int32)) s4  hf
set_option maxRecDepth 100000 in
theorem tX6_lasts {Z : kZ} (C : kC Z cX6_lasts RX6 4 rmX6_lasts) {v1 : Int32} {v2 : Int32}  {st : kM} {res : Int32 × kM} (hf : fX6_lasts v1 v2 st = some res) (K : kEnd Z (some .boolean) (some (.int res.1)) res.2) : kV Z 4 0 [(0, kr Z 59), (1, .int v1), (2, .int v2)] [] st := by
  unfold fX6_lasts at hf
  refine k_iconst C (0 : Int32) dX6_lasts_0 (by decide) rfl ?_
  refine k_istore_n (lv' := [(3, .int (0 : Int32)), (0, kr Z 59), (1, .int v1), (2, .int v2)]) C dX6_lasts_1 rfl (by decide) rfl rfl ?_
  refine k_lv (lv' := [(0, kr Z 59), (1, .int v1), (2, .int v2), (3, .int (0 : Int32))]) [1, 2, 3, 0] rfl ?_
  exact tX6_lasts_2 C K _ v1 v2 (0 : Int32) st hf
theorem mX6_lasts {G : kG} {v1 : Int32} {v2 : Int32}  {st : kM} {res : Int32 × kM} (hf : fX6_lasts v1 v2 st = some res) : kCt G yX6_lasts cX6_lasts 4 (some .boolean) rmX6_lasts [.ref (G.2.1 59), .int v1, .int v2] st (some (.int res.1)) res.2 := kMet (by decide) (Nat.le_of_ble_eq_true rfl) ⟨rfl, rfl⟩ (fun X A Q C K => tX6_lasts C  hf K)
theorem qX6_lasts : yX6_lasts.cls = RX6 ∧ yX6_lasts.cls ≠ "java/lang/invoke/MethodHandle" ∧ yX6_lasts.cls ≠ "java/lang/invoke/VarHandle" ∧ (parseMethodDescriptor yX6_lasts.desc).map (fun d => d.parameters.length) = some 2 := ⟨rfl, by decide, by decide, by decide +kernel⟩
-- TalkKnotsModel.open(II)I
def rmX6_open : Room := { frames := 7, cells := 0, slots := 0, locals := 161 }
def fX6_open_78 (x3 : Int32) (x4 : Int32) (st : kM) : Option (Int32 × kM) :=
  if x4 = 0 then ((fX6_finds (-1000000004 : Int32) st).bind fun q2 => (some (q2.1, q2.2))) else (some (x3, st))
def fX6_open_39 : Nat → Int32 → Int32 → Int32 → Int32 → kM → Option (Int32 × kM)
  | 0, _, _, _, _, _ => none
  | n + 1, x1, x2, x3, x4, st =>
    if (99 : Int32) ≤ x3 then (fX6_open_78 x3 x4 st) else (if x4 = 0 then ((fX6_puts x1 (2 : Int32) (x3 + (1 : Int32)) st).bind fun s3 => ((fX6_lasts (((22 : Int32) + ((5 : Int32) * x1)) + (3 : Int32)) x2 s3).bind fun q5 => (fX6_open_39 n x1 x2 (x3 + (1 : Int32)) q5.1 q5.2))) else (fX6_open_78 x3 x4 st))
def fX6_open (v1 : Int32) (v2 : Int32) (st : kM) : Option (Int32 × kM) :=
  (fX6_isOne v1 st).bind fun q1 => (if q1.1 = 0 then ((fX6_finds (-1000000001 : Int32) q1.2).bind fun q4 => (some (q4.1, q4.2))) else ((fX6_in v2 (0 : Int32) (100 : Int32) q1.2).bind fun q6 => (if q6.1 = 0 then ((fX6_finds (-1000000001 : Int32) q6.2).bind fun q11 => (some (q11.1, q11.2))) else ((fX6_moveAll (1 : Int32) 62 q6.2).bind fun s9 => (fX6_open_39 kfu v1 v2 (-1 : Int32) (0 : Int32) s9)))))
set_option maxRecDepth 100000 in
theorem tX6_open_78 {Z : kZ} (C : kC Z cX6_open RX6 5 rmX6_open) {res : Int32 × kM} (K : kEnd Z (some .int) (some (.int res.1)) res.2) : ∀ (x3 : Int32) (x4 : Int32) (st : kM), fX6_open_78 x3 x4 st = some res → kV Z 5 78 [(0, kr Z 59), (3, .int x3), (4, .int x4)] [] st := by
  intro x3 x4 st hf
  unfold fX6_open_78 at hf
  refine k_iload C 2 dX6_open_78 rfl rfl ?_
  refine k_if_eq C 87 dX6_open_80 rfl rfl (fun b1 => ?_) (fun b1 => ?_)
  · replace hf := kf_t hf b1
    refine k_aload_n C 0 dX6_open_87 rfl rfl rfl ?_
    refine k_ldc C (-1000000004 : Int32) kw_5_3 dX6_open_88 rfl ?_
    obtain ⟨q2, e3, hf⟩ := kf_b hf
    refine k_callV C [.int (-1000000004 : Int32)] (mX6_finds e3) rfl (by decide) rfl kw_4_68 kw_4_70 kw_0_24 kw_1_7 kw_4_71 qX6_finds rfl ⟨by decide, by decide⟩ ⟨rfl, rfl⟩ (Nat.le_of_ble_eq_true rfl) dX6_open_90 rfl ?_ rfl
    refine (show kV Z 5 93 [(0, kr Z 59), (3, .int x3), (4, .int x4)] [.int q2.1] q2.2 from ?_)
    exact k_iret C K hf dX6_open_93
  · replace hf := kf_f hf b1
    refine k_iload_n C 1 dX6_open_83 rfl rfl rfl ?_
    refine k_goto C 93 dX6_open_84 rfl ?_
    exact k_iret C K hf dX6_open_93
set_option maxRecDepth 100000 in
theorem tX6_open_39 {Z : kZ} (C : kC Z cX6_open RX6 5 rmX6_open) {res : Int32 × kM} (K : kEnd Z (some .int) (some (.int res.1)) res.2) : ∀ (n : Nat) (x1 : Int32) (x2 : Int32) (x3 : Int32) (x4 : Int32) (st : kM), fX6_open_39 n x1 x2 x3 x4 st = some res → kV Z 5 39 [(0, kr Z 59), (1, .int x1), (2, .int x2), (3, .int x3), (4, .int x4)] [] st := by
  intro n
  induction n with
  | zero => intro x1 x2 x3 x4 st hf; cases hf
  | succ n ih =>
    intro x1 x2 x3 x4 st hf
    unfold fX6_open_39 at hf
    refine k_iload_n C 3 dX6_open_39 rfl rfl rfl ?_
    refine k_bipush C (99 : Int32) dX6_open_40 (by decide) rfl ?_
    refine k_icmp_ge C 78 dX6_open_42 rfl rfl (fun b1 => ?_) (fun b1 => ?_)
    · replace hf := kf_t hf b1
      refine k_lv (lv' := [(0, kr Z 59), (3, .int x3), (4, .int x4)]) [0, 3, 4] rfl ?_
      exact tX6_open_78 C K x3 x4 st hf
    · replace hf := kf_f hf b1
      refine k_iload C 4 dX6_open_45 rfl rfl ?_
      refine k_if_ne C 78 dX6_open_47 rfl rfl (fun b2 => ?_) (fun b2 => ?_)
      · replace hf := kf_f hf b2
        refine k_lv (lv' := [(0, kr Z 59), (3, .int x3), (4, .int x4)]) [0, 3, 4] rfl ?_
        exact tX6_open_78 C K x3 x4 st hf
      · replace hf := kf_t hf b2
        refine k_iinc (lv' := [(3, .int (x3 + (1 : Int32))), (0, kr Z 59), (1, .int x1), (2, .int x2), (4, .int x4)]) C (x3 + (1 : Int32)) 3 dX6_open_50 rfl rfl (by decide) rfl rfl ?_
        refine k_aload_n C 1 dX6_open_53 rfl rfl rfl ?_
        refine k_iload_n C 2 dX6_open_54 rfl rfl rfl ?_
        refine k_iconst C (2 : Int32) dX6_open_55 (by decide) rfl ?_
        refine k_iload_n C 0 dX6_open_56 rfl rfl rfl ?_
        obtain ⟨s3, e4, hf⟩ := kf_b hf
        refine k_callV C [.int x1, .int (2 : Int32), .int (x3 + (1 : Int32))] (mX6_puts e4) rfl (by decide) rfl kw_4_149 kw_4_151 kw_0_36 kw_1_7 kw_4_152 qX6_puts rfl ⟨by decide, by decide⟩ ⟨rfl, rfl⟩ (Nat.le_of_ble_eq_true rfl) dX6_open_57 rfl ?_ rfl
        refine (show kV Z 5 60 [(3, .int (x3 + (1 : Int32))), (0, kr Z 59), (1, .int x1), (2, .int x2), (4, .int x4)] [] s3 from ?_)
        refine k_aload_n C 1 dX6_open_60 rfl rfl rfl ?_
        refine k_bipush C (22 : Int32) dX6_open_61 (by decide) rfl ?_
        refine k_iconst C (5 : Int32) dX6_open_63 (by decide) rfl ?_
        refine k_iload_n C 2 dX6_open_64 rfl rfl rfl ?_
        refine k_imul C dX6_open_65 rfl ?_
        refine k_iadd C dX6_open_66 rfl ?_
        refine k_iconst C (3 : Int32) dX6_open_67 (by decide) rfl ?_
        refine k_iadd C dX6_open_68 rfl ?_
        refine k_iload_n C 3 dX6_open_69 rfl rfl rfl ?_
        obtain ⟨q5, e6, hf⟩ := kf_b hf
        refine k_callV C [.int (((22 : Int32) + ((5 : Int32) * x1)) + (3 : Int32)), .int x2] (mX6_lasts e6) rfl (by decide) rfl kw_5_20 kw_5_22 kw_0_47 kw_1_7 kw_5_23 qX6_lasts rfl ⟨by decide, by decide⟩ ⟨rfl, rfl⟩ (Nat.le_of_ble_eq_true rfl) dX6_open_70 rfl ?_ rfl
        refine (show kV Z 5 73 [(3, .int (x3 + (1 : Int32))), (0, kr Z 59), (1, .int x1), (2, .int x2), (4, .int x4)] [.int q5.1] q5.2 from ?_)
        refine k_istore (lv' := [(4, .int q5.1), (3, .int (x3 + (1 : Int32))), (0, kr Z 59), (1, .int x1), (2, .int x2)]) C dX6_open_73 (by decide) rfl rfl ?_
        refine k_goto C 39 dX6_open_75 rfl ?_
        refine k_lv (lv' := [(0, kr Z 59), (1, .int x1), (2, .int x2), (3, .int (x3 + (1 : Int32))), (4, .int q5.1)]) [2, 3, 4, 1, 0] rfl ?_
        exact ih x1 x2 (x3 + (1 : Int32)) q5.1 q5.2  hf
set_option maxRecDepth 100000 in
theorem tX6_open {Z : kZ} (C : kC Z cX6_open RX6 5 rmX6_open) {v1 : Int32} {v2 : Int32}  {st : kM} {res : Int32 × kM} (hf : fX6_open v1 v2 st = some res) (K : kEnd Z (some .int) (some (.int res.1)) res.2) : kV Z 5 0 [(0, kr Z 59), (1, .int v1), (2, .int v2)] [] st := by
  unfold fX6_open at hf
  refine k_aload_n C 0 dX6_open_0 rfl rfl rfl ?_
  refine k_iload_n C 1 dX6_open_1 rfl rfl rfl ?_
  obtain ⟨q1, e2, hf⟩ := kf_b hf
  refine k_callV C [.int v1] (mX6_isOne e2) rfl (by decide) rfl kw_4_157 kw_4_159 kw_0_37 kw_1_7 kw_4_160 qX6_isOne rfl ⟨by decide, by decide⟩ ⟨rfl, rfl⟩ (Nat.le_of_ble_eq_true rfl) dX6_open_2 rfl ?_ rfl
  refine (show kV Z 5 5 [(0, kr Z 59), (1, .int v1), (2, .int v2)] [.int q1.1] q1.2 from ?_)
  refine k_if_eq C 18 dX6_open_5 rfl rfl (fun b3 => ?_) (fun b3 => ?_)
  · replace hf := kf_t hf b3
    refine k_aload_n C 0 dX6_open_18 rfl rfl rfl ?_
    refine k_ldc C (-1000000001 : Int32) kw_4_67 dX6_open_19 rfl ?_
    obtain ⟨q4, e5, hf⟩ := kf_b hf
    refine k_callV C [.int (-1000000001 : Int32)] (mX6_finds e5) rfl (by decide) rfl kw_4_68 kw_4_70 kw_0_24 kw_1_7 kw_4_71 qX6_finds rfl ⟨by decide, by decide⟩ ⟨rfl, rfl⟩ (Nat.le_of_ble_eq_true rfl) dX6_open_21 rfl ?_ rfl
    refine (show kV Z 5 24 [(0, kr Z 59), (1, .int v1), (2, .int v2)] [.int q4.1] q4.2 from ?_)
    exact k_iret C K hf dX6_open_24
  · replace hf := kf_f hf b3
    refine k_iload_n C 2 dX6_open_8 rfl rfl rfl ?_
    refine k_iconst C (0 : Int32) dX6_open_9 (by decide) rfl ?_
    refine k_bipush C (100 : Int32) dX6_open_10 (by decide) rfl ?_
    obtain ⟨q6, e7, hf⟩ := kf_b hf
    refine k_callS C [.int v2, .int (0 : Int32), .int (100 : Int32)] (mX6_in e7) kw_4_60 kw_4_61 kw_1_7 kw_4_62 qX6_in rfl ⟨by decide, by decide⟩ ⟨rfl, rfl⟩ (Nat.le_of_ble_eq_true rfl) dX6_open_12 rfl ?_ rfl
    refine (show kV Z 5 15 [(0, kr Z 59), (1, .int v1), (2, .int v2)] [.int q6.1] q6.2 from ?_)
    refine k_if_ne C 25 dX6_open_15 rfl rfl (fun b8 => ?_) (fun b8 => ?_)
    · replace hf := kf_f hf b8
      refine k_aload_n C 0 dX6_open_25 rfl rfl rfl ?_
      refine k_iconst C (1 : Int32) dX6_open_26 (by decide) rfl ?_
      refine k_aload_n C 0 dX6_open_27 rfl rfl rfl ?_
      refine g_X6_tried C rfl kw_4_0 dX6_open_28 rfl ?_
      obtain ⟨s9, e10, hf⟩ := kf_b hf
      refine k_callV C [.int (1 : Int32), kr Z 62] (mX6_moveAll ⟨rfl, rfl⟩ e10) rfl (by decide) rfl kw_4_227 kw_4_229 kw_0_45 kw_1_7 kw_4_230 qX6_moveAll rfl ⟨by decide, by decide⟩ ⟨rfl, rfl⟩ (Nat.le_of_ble_eq_true rfl) dX6_open_31 rfl ?_ rfl
      refine (show kV Z 5 34 [(0, kr Z 59), (1, .int v1), (2, .int v2)] [] s9 from ?_)
      refine k_iconst C (-1 : Int32) dX6_open_34 (by decide) rfl ?_
      refine k_istore_n (lv' := [(3, .int (-1 : Int32)), (0, kr Z 59), (1, .int v1), (2, .int v2)]) C dX6_open_35 rfl (by decide) rfl rfl ?_
      refine k_iconst C (0 : Int32) dX6_open_36 (by decide) rfl ?_
      refine k_istore (lv' := [(4, .int (0 : Int32)), (3, .int (-1 : Int32)), (0, kr Z 59), (1, .int v1), (2, .int v2)]) C dX6_open_37 (by decide) rfl rfl ?_
      refine k_lv (lv' := [(0, kr Z 59), (1, .int v1), (2, .int v2), (3, .int (-1 : Int32)), (4, .int (0 : Int32))]) [2, 3, 4, 1, 0] rfl ?_
      exact tX6_open_39 C K _ v1 v2 (-1 : Int32) (0 : Int32) s9 hf
    · replace hf := kf_t hf b8
      refine k_aload_n C 0 dX6_open_18 rfl rfl rfl ?_
      refine k_ldc C (-1000000001 : Int32) kw_4_67 dX6_open_19 rfl ?_
      obtain ⟨q11, e12, hf⟩ := kf_b hf
      refine k_callV C [.int (-1000000001 : Int32)] (mX6_finds e12) rfl (by decide) rfl kw_4_68 kw_4_70 kw_0_24 kw_1_7 kw_4_71 qX6_finds rfl ⟨by decide, by decide⟩ ⟨rfl, rfl⟩ (Nat.le_of_ble_eq_true rfl) dX6_open_21 rfl ?_ rfl
      refine (show kV Z 5 24 [(0, kr Z 59), (1, .int v1), (2, .int v2)] [.int q11.1] q11.2 from ?_)
      exact k_iret C K hf dX6_open_24
theorem mX6_open {G : kG} {v1 : Int32} {v2 : Int32}  {st : kM} {res : Int32 × kM} (hf : fX6_open v1 v2 st = some res) : kCt G yX6_open cX6_open 5 (some .int) rmX6_open [.ref (G.2.1 59), .int v1, .int v2] st (some (.int res.1)) res.2 := kMet (by decide) (Nat.le_of_ble_eq_true rfl) ⟨rfl, rfl⟩ (fun X A Q C K => tX6_open C  hf K)
theorem qX6_open : yX6_open.cls = RX6 ∧ yX6_open.cls ≠ "java/lang/invoke/MethodHandle" ∧ yX6_open.cls ≠ "java/lang/invoke/VarHandle" ∧ (parseMethodDescriptor yX6_open.desc).map (fun d => d.parameters.length) = some 2 := ⟨rfl, by decide, by decide, by decide +kernel⟩
-- TalkKnotsModel.bears(II)I
def rmX6_bears : Room := { frames := 7, cells := 0, slots := 0, locals := 161 }
def fX6_bears_77 (x3 : Int32) (x4 : Int32) (st : kM) : Option (Int32 × kM) :=
  if x4 = 0 then ((fX6_finds (-1000000004 : Int32) st).bind fun q2 => (some (q2.1, q2.2))) else (some (x3, st))
def fX6_bears_40 : Nat → Int32 → Int32 → Int32 → Int32 → kM → Option (Int32 × kM)
  | 0, _, _, _, _, _ => none
  | n + 1, x1, x2, x3, x4, st =>
    if x3 ≤ 0 then (fX6_bears_77 x3 x4 st) else (if x4 = 0 then ((fX6_puts1 x1 (0 : Int32) (x3 + (-1 : Int32)) st).bind fun s3 => ((fX6_lasts (((14 : Int32) + ((2 : Int32) * x1)) + (1 : Int32)) x2 s3).bind fun q5 => (fX6_bears_40 n x1 x2 (x3 + (-1 : Int32)) q5.1 q5.2))) else (fX6_bears_77 x3 x4 st))
def fX6_bears (v1 : Int32) (v2 : Int32) (st : kM) : Option (Int32 × kM) :=
  (fX6_isMast v1 st).bind fun q1 => (if q1.1 = 0 then ((fX6_finds (-1000000001 : Int32) q1.2).bind fun q4 => (some (q4.1, q4.2))) else ((fX6_in v2 (0 : Int32) (100 : Int32) q1.2).bind fun q6 => (if q6.1 = 0 then ((fX6_finds (-1000000001 : Int32) q6.2).bind fun q11 => (some (q11.1, q11.2))) else ((fX6_moveAll (1 : Int32) 62 q6.2).bind fun s9 => (fX6_bears_40 kfu v1 v2 (1000 : Int32) (0 : Int32) s9)))))
set_option maxRecDepth 100000 in
theorem tX6_bears_77 {Z : kZ} (C : kC Z cX6_bears RX6 5 rmX6_bears) {res : Int32 × kM} (K : kEnd Z (some .int) (some (.int res.1)) res.2) : ∀ (x3 : Int32) (x4 : Int32) (st : kM), fX6_bears_77 x3 x4 st = some res → kV Z 5 77 [(0, kr Z 59), (3, .int x3), (4, .int x4)] [] st := by
  intro x3 x4 st hf
  unfold fX6_bears_77 at hf
  refine k_iload C 2 dX6_bears_77 rfl rfl ?_
  refine k_if_eq C 86 dX6_bears_79 rfl rfl (fun b1 => ?_) (fun b1 => ?_)
  · replace hf := kf_t hf b1
    refine k_aload_n C 0 dX6_bears_86 rfl rfl rfl ?_
    refine k_ldc C (-1000000004 : Int32) kw_5_3 dX6_bears_87 rfl ?_
    obtain ⟨q2, e3, hf⟩ := kf_b hf
    refine k_callV C [.int (-1000000004 : Int32)] (mX6_finds e3) rfl (by decide) rfl kw_4_68 kw_4_70 kw_0_24 kw_1_7 kw_4_71 qX6_finds rfl ⟨by decide, by decide⟩ ⟨rfl, rfl⟩ (Nat.le_of_ble_eq_true rfl) dX6_bears_89 rfl ?_ rfl
    refine (show kV Z 5 92 [(0, kr Z 59), (3, .int x3), (4, .int x4)] [.int q2.1] q2.2 from ?_)
    exact k_iret C K hf dX6_bears_92
  · replace hf := kf_f hf b1
    refine k_iload_n C 1 dX6_bears_82 rfl rfl rfl ?_
    refine k_goto C 92 dX6_bears_83 rfl ?_
    exact k_iret C K hf dX6_bears_92
set_option maxRecDepth 100000 in
theorem tX6_bears_40 {Z : kZ} (C : kC Z cX6_bears RX6 5 rmX6_bears) {res : Int32 × kM} (K : kEnd Z (some .int) (some (.int res.1)) res.2) : ∀ (n : Nat) (x1 : Int32) (x2 : Int32) (x3 : Int32) (x4 : Int32) (st : kM), fX6_bears_40 n x1 x2 x3 x4 st = some res → kV Z 5 40 [(0, kr Z 59), (1, .int x1), (2, .int x2), (3, .int x3), (4, .int x4)] [] st := by
  intro n
  induction n with
  | zero => intro x1 x2 x3 x4 st hf; cases hf
  | succ n ih =>
    intro x1 x2 x3 x4 st hf
    unfold fX6_bears_40 at hf
    refine k_iload_n C 3 dX6_bears_40 rfl rfl rfl ?_
    refine k_if_le C 77 dX6_bears_41 rfl rfl (fun b1 => ?_) (fun b1 => ?_)
    · replace hf := kf_t hf b1
      refine k_lv (lv' := [(0, kr Z 59), (3, .int x3), (4, .int x4)]) [0, 3, 4] rfl ?_
      exact tX6_bears_77 C K x3 x4 st hf
    · replace hf := kf_f hf b1
      refine k_iload C 4 dX6_bears_44 rfl rfl ?_
      refine k_if_ne C 77 dX6_bears_46 rfl rfl (fun b2 => ?_) (fun b2 => ?_)
      · replace hf := kf_f hf b2
        refine k_lv (lv' := [(0, kr Z 59), (3, .int x3), (4, .int x4)]) [0, 3, 4] rfl ?_
        exact tX6_bears_77 C K x3 x4 st hf
      · replace hf := kf_t hf b2
        refine k_iinc (lv' := [(3, .int (x3 + (-1 : Int32))), (0, kr Z 59), (1, .int x1), (2, .int x2), (4, .int x4)]) C (x3 + (-1 : Int32)) 3 dX6_bears_49 rfl rfl (by decide) rfl rfl ?_
        refine k_aload_n C 1 dX6_bears_52 rfl rfl rfl ?_
        refine k_iload_n C 2 dX6_bears_53 rfl rfl rfl ?_
        refine k_iconst C (0 : Int32) dX6_bears_54 (by decide) rfl ?_
        refine k_iload_n C 0 dX6_bears_55 rfl rfl rfl ?_
        obtain ⟨s3, e4, hf⟩ := kf_b hf
        refine k_callV C [.int x1, .int (0 : Int32), .int (x3 + (-1 : Int32))] (mX6_puts1 e4) rfl (by decide) rfl kw_3_234 kw_3_236 kw_0_22 kw_1_7 kw_3_237 qX6_puts1 rfl ⟨by decide, by decide⟩ ⟨rfl, rfl⟩ (Nat.le_of_ble_eq_true rfl) dX6_bears_56 rfl ?_ rfl
        refine (show kV Z 5 59 [(3, .int (x3 + (-1 : Int32))), (0, kr Z 59), (1, .int x1), (2, .int x2), (4, .int x4)] [] s3 from ?_)
        refine k_aload_n C 1 dX6_bears_59 rfl rfl rfl ?_
        refine k_bipush C (14 : Int32) dX6_bears_60 (by decide) rfl ?_
        refine k_iconst C (2 : Int32) dX6_bears_62 (by decide) rfl ?_
        refine k_iload_n C 2 dX6_bears_63 rfl rfl rfl ?_
        refine k_imul C dX6_bears_64 rfl ?_
        refine k_iadd C dX6_bears_65 rfl ?_
        refine k_iconst C (1 : Int32) dX6_bears_66 (by decide) rfl ?_
        refine k_iadd C dX6_bears_67 rfl ?_
        refine k_iload_n C 3 dX6_bears_68 rfl rfl rfl ?_
        obtain ⟨q5, e6, hf⟩ := kf_b hf
        refine k_callV C [.int (((14 : Int32) + ((2 : Int32) * x1)) + (1 : Int32)), .int x2] (mX6_lasts e6) rfl (by decide) rfl kw_5_20 kw_5_22 kw_0_47 kw_1_7 kw_5_23 qX6_lasts rfl ⟨by decide, by decide⟩ ⟨rfl, rfl⟩ (Nat.le_of_ble_eq_true rfl) dX6_bears_69 rfl ?_ rfl
        refine (show kV Z 5 72 [(3, .int (x3 + (-1 : Int32))), (0, kr Z 59), (1, .int x1), (2, .int x2), (4, .int x4)] [.int q5.1] q5.2 from ?_)
        refine k_istore (lv' := [(4, .int q5.1), (3, .int (x3 + (-1 : Int32))), (0, kr Z 59), (1, .int x1), (2, .int x2)]) C dX6_bears_72 (by decide) rfl rfl ?_
        refine k_goto C 40 dX6_bears_74 rfl ?_
        refine k_lv (lv' := [(0, kr Z 59), (1, .int x1), (2, .int x2), (3, .int (x3 + (-1 : Int32))), (4, .int q5.1)]) [2, 3, 4, 1, 0] rfl ?_
        exact ih x1 x2 (x3 + (-1 : Int32)) q5.1 q5.2  hf
set_option maxRecDepth 100000 in
theorem tX6_bears {Z : kZ} (C : kC Z cX6_bears RX6 5 rmX6_bears) {v1 : Int32} {v2 : Int32}  {st : kM} {res : Int32 × kM} (hf : fX6_bears v1 v2 st = some res) (K : kEnd Z (some .int) (some (.int res.1)) res.2) : kV Z 5 0 [(0, kr Z 59), (1, .int v1), (2, .int v2)] [] st := by
  unfold fX6_bears at hf
  refine k_iload_n C 1 dX6_bears_0 rfl rfl rfl ?_
  obtain ⟨q1, e2, hf⟩ := kf_b hf
  refine k_callS C [.int v1] (mX6_isMast e2) kw_4_76 kw_4_77 kw_1_7 kw_4_78 qX6_isMast rfl ⟨by decide, by decide⟩ ⟨rfl, rfl⟩ (Nat.le_of_ble_eq_true rfl) dX6_bears_1 rfl ?_ rfl
  refine (show kV Z 5 4 [(0, kr Z 59), (1, .int v1), (2, .int v2)] [.int q1.1] q1.2 from ?_)
  refine k_if_eq C 17 dX6_bears_4 rfl rfl (fun b3 => ?_) (fun b3 => ?_)
  · replace hf := kf_t hf b3
    refine k_aload_n C 0 dX6_bears_17 rfl rfl rfl ?_
    refine k_ldc C (-1000000001 : Int32) kw_4_67 dX6_bears_18 rfl ?_
    obtain ⟨q4, e5, hf⟩ := kf_b hf
    refine k_callV C [.int (-1000000001 : Int32)] (mX6_finds e5) rfl (by decide) rfl kw_4_68 kw_4_70 kw_0_24 kw_1_7 kw_4_71 qX6_finds rfl ⟨by decide, by decide⟩ ⟨rfl, rfl⟩ (Nat.le_of_ble_eq_true rfl) dX6_bears_20 rfl ?_ rfl
    refine (show kV Z 5 23 [(0, kr Z 59), (1, .int v1), (2, .int v2)] [.int q4.1] q4.2 from ?_)
    exact k_iret C K hf dX6_bears_23
  · replace hf := kf_f hf b3
    refine k_iload_n C 2 dX6_bears_7 rfl rfl rfl ?_
    refine k_iconst C (0 : Int32) dX6_bears_8 (by decide) rfl ?_
    refine k_bipush C (100 : Int32) dX6_bears_9 (by decide) rfl ?_
    obtain ⟨q6, e7, hf⟩ := kf_b hf
    refine k_callS C [.int v2, .int (0 : Int32), .int (100 : Int32)] (mX6_in e7) kw_4_60 kw_4_61 kw_1_7 kw_4_62 qX6_in rfl ⟨by decide, by decide⟩ ⟨rfl, rfl⟩ (Nat.le_of_ble_eq_true rfl) dX6_bears_11 rfl ?_ rfl
    refine (show kV Z 5 14 [(0, kr Z 59), (1, .int v1), (2, .int v2)] [.int q6.1] q6.2 from ?_)
    refine k_if_ne C 24 dX6_bears_14 rfl rfl (fun b8 => ?_) (fun b8 => ?_)
    · replace hf := kf_f hf b8
      refine k_aload_n C 0 dX6_bears_24 rfl rfl rfl ?_
      refine k_iconst C (1 : Int32) dX6_bears_25 (by decide) rfl ?_
      refine k_aload_n C 0 dX6_bears_26 rfl rfl rfl ?_
      refine g_X6_tried C rfl kw_4_0 dX6_bears_27 rfl ?_
      obtain ⟨s9, e10, hf⟩ := kf_b hf
      refine k_callV C [.int (1 : Int32), kr Z 62] (mX6_moveAll ⟨rfl, rfl⟩ e10) rfl (by decide) rfl kw_4_227 kw_4_229 kw_0_45 kw_1_7 kw_4_230 qX6_moveAll rfl ⟨by decide, by decide⟩ ⟨rfl, rfl⟩ (Nat.le_of_ble_eq_true rfl) dX6_bears_30 rfl ?_ rfl
      refine (show kV Z 5 33 [(0, kr Z 59), (1, .int v1), (2, .int v2)] [] s9 from ?_)
      refine k_sipush C (1000 : Int32) dX6_bears_33 (by decide) rfl ?_
      refine k_istore_n (lv' := [(3, .int (1000 : Int32)), (0, kr Z 59), (1, .int v1), (2, .int v2)]) C dX6_bears_36 rfl (by decide) rfl rfl ?_
      refine k_iconst C (0 : Int32) dX6_bears_37 (by decide) rfl ?_
      refine k_istore (lv' := [(4, .int (0 : Int32)), (3, .int (1000 : Int32)), (0, kr Z 59), (1, .int v1), (2, .int v2)]) C dX6_bears_38 (by decide) rfl rfl ?_
      refine k_lv (lv' := [(0, kr Z 59), (1, .int v1), (2, .int v2), (3, .int (1000 : Int32)), (4, .int (0 : Int32))]) [2, 3, 4, 1, 0] rfl ?_
      exact tX6_bears_40 C K _ v1 v2 (1000 : Int32) (0 : Int32) s9 hf
    · replace hf := kf_t hf b8
      refine k_aload_n C 0 dX6_bears_17 rfl rfl rfl ?_
      refine k_ldc C (-1000000001 : Int32) kw_4_67 dX6_bears_18 rfl ?_
      obtain ⟨q11, e12, hf⟩ := kf_b hf
      refine k_callV C [.int (-1000000001 : Int32)] (mX6_finds e12) rfl (by decide) rfl kw_4_68 kw_4_70 kw_0_24 kw_1_7 kw_4_71 qX6_finds rfl ⟨by decide, by decide⟩ ⟨rfl, rfl⟩ (Nat.le_of_ble_eq_true rfl) dX6_bears_20 rfl ?_ rfl
      refine (show kV Z 5 23 [(0, kr Z 59), (1, .int v1), (2, .int v2)] [.int q11.1] q11.2 from ?_)
      exact k_iret C K hf dX6_bears_23
theorem mX6_bears {G : kG} {v1 : Int32} {v2 : Int32}  {st : kM} {res : Int32 × kM} (hf : fX6_bears v1 v2 st = some res) : kCt G yX6_bears cX6_bears 5 (some .int) rmX6_bears [.ref (G.2.1 59), .int v1, .int v2] st (some (.int res.1)) res.2 := kMet (by decide) (Nat.le_of_ble_eq_true rfl) ⟨rfl, rfl⟩ (fun X A Q C K => tX6_bears C  hf K)
theorem qX6_bears : yX6_bears.cls = RX6 ∧ yX6_bears.cls ≠ "java/lang/invoke/MethodHandle" ∧ yX6_bears.cls ≠ "java/lang/invoke/VarHandle" ∧ (parseMethodDescriptor yX6_bears.desc).map (fun d => d.parameters.length) = some 2 := ⟨rfl, by decide, by decide, by decide +kernel⟩
-- TalkKnotsModel.move(II)I
def rmX6_move : Room := { frames := 7, cells := 0, slots := 0, locals := 160 }
def fX6_move_92 (k42 : Int32 → Int32 → Int32 → Int32 → Int32 → kM → Option (Int32 × kM)) (x1 : Int32) (x2 : Int32) (x4 : Int32) (x5 : Int32) (x6 : Int32) (y0 : Int32) (st : kM) : Option (Int32 × kM) :=
  if x6 ≤ x4 then (k42 x1 x2 y0 x4 (x5 + (1 : Int32)) st) else (k42 x1 x2 y0 x6 (x5 + (1 : Int32)) st)
def fX6_move_42 : Nat → Int32 → Int32 → Int32 → Int32 → Int32 → kM → Option (Int32 × kM)
  | 0, _, _, _, _, _, _ => none
  | n + 1, x1, x2, x3, x4, x5, st =>
    if (4 : Int32) ≤ x5 then (some (x3, st)) else ((fX6_puts x1 (1 : Int32) x5 st).bind fun s2 => ((fX6_passes x2 s2).bind fun s4 => ((fX6_upSet s4).bind fun q6 => ((fX6_bits q6.1 q6.2).bind fun q8 => ((fX6_moveAll (0 : Int32) 62 q8.2).bind fun s10 => (if q8.1 ≤ x4 then (fX6_move_92 (fX6_move_42 n) x1 x2 x4 x5 q8.1 x3 s10) else (fX6_move_92 (fX6_move_42 n) x1 x2 x4 x5 q8.1 x5 s10)))))))
def fX6_move (v1 : Int32) (v2 : Int32) (st : kM) : Option (Int32 × kM) :=
  (fX6_isOne v1 st).bind fun q1 => (if q1.1 = 0 then ((fX6_finds (-1000000001 : Int32) q1.2).bind fun q4 => (some (q4.1, q4.2))) else ((fX6_in v2 (1 : Int32) (100 : Int32) q1.2).bind fun q6 => (if q6.1 = 0 then ((fX6_finds (-1000000001 : Int32) q6.2).bind fun q11 => (some (q11.1, q11.2))) else ((fX6_moveAll (1 : Int32) 62 q6.2).bind fun s9 => (fX6_move_42 kfu v1 v2 (0 : Int32) (-1 : Int32) (0 : Int32) s9)))))
set_option maxRecDepth 100000 in
theorem tX6_move_92 {Z : kZ} (C : kC Z cX6_move RX6 7 rmX6_move) {res : Int32 × kM} {k42 : Int32 → Int32 → Int32 → Int32 → Int32 → kM → Option (Int32 × kM)} (hk42 : ∀ (x1 : Int32) (x2 : Int32) (x3 : Int32) (x4 : Int32) (x5 : Int32) (st : kM), k42 x1 x2 x3 x4 x5 st = some res → kV Z 7 42 [(0, kr Z 59), (1, .int x1), (2, .int x2), (3, .int x3), (4, .int x4), (5, .int x5)] [] st) (K : kEnd Z (some .int) (some (.int res.1)) res.2) : ∀ (x1 : Int32) (x2 : Int32) (x4 : Int32) (x5 : Int32) (x6 : Int32) (y0 : Int32) (st : kM), fX6_move_92 k42 x1 x2 x4 x5 x6 y0 st = some res → kV Z 7 92 [(0, kr Z 59), (1, .int x1), (2, .int x2), (4, .int x4), (5, .int x5), (6, .int x6)] [.int y0] st := by
  intro x1 x2 x4 x5 x6 y0 st hf
  unfold fX6_move_92 at hf
  refine k_istore_n (lv' := [(3, .int y0), (0, kr Z 59), (1, .int x1), (2, .int x2), (4, .int x4), (5, .int x5), (6, .int x6)]) C dX6_move_92 rfl (by decide) rfl rfl ?_
  refine k_iload C 6 dX6_move_93 rfl rfl ?_
  refine k_iload C 4 dX6_move_95 rfl rfl ?_
  refine k_icmp_le C 105 dX6_move_97 rfl rfl (fun b1 => ?_) (fun b1 => ?_)
  · replace hf := kf_t hf b1
    refine k_iload C 4 dX6_move_105 rfl rfl ?_
    refine k_istore (lv' := [(4, .int x4), (3, .int y0), (0, kr Z 59), (1, .int x1), (2, .int x2), (5, .int x5), (6, .int x6)]) C dX6_move_107 (by decide) rfl rfl ?_
    refine k_iinc (lv' := [(5, .int (x5 + (1 : Int32))), (4, .int x4), (3, .int y0), (0, kr Z 59), (1, .int x1), (2, .int x2), (6, .int x6)]) C (x5 + (1 : Int32)) 5 dX6_move_109 rfl rfl (by decide) rfl rfl ?_
    refine k_goto C 42 dX6_move_112 rfl ?_
    refine k_lv (lv' := [(0, kr Z 59), (1, .int x1), (2, .int x2), (3, .int y0), (4, .int x4), (5, .int (x5 + (1 : Int32)))]) [3, 4, 5, 2, 1, 0] rfl ?_
    exact hk42 x1 x2 y0 x4 (x5 + (1 : Int32)) st  hf
  · replace hf := kf_f hf b1
    refine k_iload C 6 dX6_move_100 rfl rfl ?_
    refine k_goto C 107 dX6_move_102 rfl ?_
    refine k_istore (lv' := [(4, .int x6), (3, .int y0), (0, kr Z 59), (1, .int x1), (2, .int x2), (5, .int x5), (6, .int x6)]) C dX6_move_107 (by decide) rfl rfl ?_
    refine k_iinc (lv' := [(5, .int (x5 + (1 : Int32))), (4, .int x6), (3, .int y0), (0, kr Z 59), (1, .int x1), (2, .int x2), (6, .int x6)]) C (x5 + (1 : Int32)) 5 dX6_move_109 rfl rfl (by decide) rfl rfl ?_
    refine k_goto C 42 dX6_move_112 rfl ?_
    refine k_lv (lv' := [(0, kr Z 59), (1, .int x1), (2, .int x2), (3, .int y0), (4, .int x6), (5, .int (x5 + (1 : Int32)))]) [3, 4, 5, 2, 1, 0] rfl ?_
    exact hk42 x1 x2 y0 x6 (x5 + (1 : Int32)) st  hf
set_option maxRecDepth 100000 in
theorem tX6_move_42 {Z : kZ} (C : kC Z cX6_move RX6 7 rmX6_move) {res : Int32 × kM} (K : kEnd Z (some .int) (some (.int res.1)) res.2) : ∀ (n : Nat) (x1 : Int32) (x2 : Int32) (x3 : Int32) (x4 : Int32) (x5 : Int32) (st : kM), fX6_move_42 n x1 x2 x3 x4 x5 st = some res → kV Z 7 42 [(0, kr Z 59), (1, .int x1), (2, .int x2), (3, .int x3), (4, .int x4), (5, .int x5)] [] st := by
  intro n
  induction n with
  | zero => intro x1 x2 x3 x4 x5 st hf; cases hf
  | succ n ih =>
    intro x1 x2 x3 x4 x5 st hf
    unfold fX6_move_42 at hf
    refine k_iload C 5 dX6_move_42 rfl rfl ?_
    refine k_iconst C (4 : Int32) dX6_move_44 (by decide) rfl ?_
    refine k_icmp_ge C 115 dX6_move_45 rfl rfl (fun b1 => ?_) (fun b1 => ?_)
    · replace hf := kf_t hf b1
      refine k_iload_n C 3 dX6_move_115 rfl rfl rfl ?_
      exact k_iret C K hf dX6_move_116
    · replace hf := kf_f hf b1
      refine k_aload_n C 0 dX6_move_48 rfl rfl rfl ?_
      refine k_iload_n C 1 dX6_move_49 rfl rfl rfl ?_
      refine k_iconst C (1 : Int32) dX6_move_50 (by decide) rfl ?_
      refine k_iload C 5 dX6_move_51 rfl rfl ?_
      obtain ⟨s2, e3, hf⟩ := kf_b hf
      refine k_callV C [.int x1, .int (1 : Int32), .int x5] (mX6_puts e3) rfl (by decide) rfl kw_4_149 kw_4_151 kw_0_36 kw_1_7 kw_4_152 qX6_puts rfl ⟨by decide, by decide⟩ ⟨rfl, rfl⟩ (Nat.le_of_ble_eq_true rfl) dX6_move_53 rfl ?_ rfl
      refine (show kV Z 7 56 [(0, kr Z 59), (1, .int x1), (2, .int x2), (3, .int x3), (4, .int x4), (5, .int x5)] [] s2 from ?_)
      refine k_aload_n C 0 dX6_move_56 rfl rfl rfl ?_
      refine k_iload_n C 2 dX6_move_57 rfl rfl rfl ?_
      obtain ⟨s4, e5, hf⟩ := kf_b hf
      refine k_callV C [.int x2] (mX6_passes e5) rfl (by decide) rfl kw_4_211 kw_4_213 kw_0_42 kw_1_7 kw_4_214 qX6_passes rfl ⟨by decide, by decide⟩ ⟨rfl, rfl⟩ (Nat.le_of_ble_eq_true rfl) dX6_move_58 rfl ?_ rfl
      refine (show kV Z 7 61 [(0, kr Z 59), (1, .int x1), (2, .int x2), (3, .int x3), (4, .int x4), (5, .int x5)] [] s4 from ?_)
      refine k_aload_n C 0 dX6_move_61 rfl rfl rfl ?_
      obtain ⟨q6, e7, hf⟩ := kf_b hf
      refine k_callV C [] (mX6_upSet e7) rfl (by decide) rfl kw_4_125 kw_4_127 kw_0_32 kw_1_7 kw_4_128 qX6_upSet rfl ⟨by decide, by decide⟩ ⟨rfl, rfl⟩ (Nat.le_of_ble_eq_true rfl) dX6_move_62 rfl ?_ rfl
      refine (show kV Z 7 65 [(0, kr Z 59), (1, .int x1), (2, .int x2), (3, .int x3), (4, .int x4), (5, .int x5)] [.int q6.1] q6.2 from ?_)
      obtain ⟨q8, e9, hf⟩ := kf_b hf
      refine k_callS C [.int q6.1] (mX6_bits e9) kw_4_103 kw_4_104 kw_1_7 kw_4_105 qX6_bits rfl ⟨by decide, by decide⟩ ⟨rfl, rfl⟩ (Nat.le_of_ble_eq_true rfl) dX6_move_65 rfl ?_ rfl
      refine (show kV Z 7 68 [(0, kr Z 59), (1, .int x1), (2, .int x2), (3, .int x3), (4, .int x4), (5, .int x5)] [.int q8.1] q8.2 from ?_)
      refine k_istore (lv' := [(6, .int q8.1), (0, kr Z 59), (1, .int x1), (2, .int x2), (3, .int x3), (4, .int x4), (5, .int x5)]) C dX6_move_68 (by decide) rfl rfl ?_
      refine k_aload_n C 1 dX6_move_70 rfl rfl rfl ?_
      refine k_iconst C (0 : Int32) dX6_move_71 (by decide) rfl ?_
      refine k_aload_n C 1 dX6_move_72 rfl rfl rfl ?_
      refine g_X6_tried C rfl kw_4_0 dX6_move_73 rfl ?_
      obtain ⟨s10, e11, hf⟩ := kf_b hf
      refine k_callV C [.int (0 : Int32), kr Z 62] (mX6_moveAll ⟨rfl, rfl⟩ e11) rfl (by decide) rfl kw_4_227 kw_4_229 kw_0_45 kw_1_7 kw_4_230 qX6_moveAll rfl ⟨by decide, by decide⟩ ⟨rfl, rfl⟩ (Nat.le_of_ble_eq_true rfl) dX6_move_76 rfl ?_ rfl
      refine (show kV Z 7 79 [(6, .int q8.1), (0, kr Z 59), (1, .int x1), (2, .int x2), (3, .int x3), (4, .int x4), (5, .int x5)] [] s10 from ?_)
      refine k_iload C 0 dX6_move_79 rfl rfl ?_
      refine k_iload C 5 dX6_move_81 rfl rfl ?_
      refine k_icmp_le C 91 dX6_move_83 rfl rfl (fun b12 => ?_) (fun b12 => ?_)
      · replace hf := kf_t hf b12
        refine k_iload_n C 4 dX6_move_91 rfl rfl rfl ?_
        refine k_lv (lv' := [(0, kr Z 59), (1, .int x1), (2, .int x2), (4, .int x4), (5, .int x5), (6, .int q8.1)]) [1, 2, 3, 5, 6, 0] rfl ?_
        exact tX6_move_92 C ih K x1 x2 x4 x5 q8.1 x3 s10 hf
      · replace hf := kf_f hf b12
        refine k_iload C 6 dX6_move_86 rfl rfl ?_
        refine k_goto C 92 dX6_move_88 rfl ?_
        refine k_lv (lv' := [(0, kr Z 59), (1, .int x1), (2, .int x2), (4, .int x4), (5, .int x5), (6, .int q8.1)]) [1, 2, 3, 5, 6, 0] rfl ?_
        exact tX6_move_92 C ih K x1 x2 x4 x5 q8.1 x5 s10 hf
set_option maxRecDepth 100000 in
theorem tX6_move {Z : kZ} (C : kC Z cX6_move RX6 7 rmX6_move) {v1 : Int32} {v2 : Int32}  {st : kM} {res : Int32 × kM} (hf : fX6_move v1 v2 st = some res) (K : kEnd Z (some .int) (some (.int res.1)) res.2) : kV Z 7 0 [(0, kr Z 59), (1, .int v1), (2, .int v2)] [] st := by
  unfold fX6_move at hf
  refine k_aload_n C 0 dX6_move_0 rfl rfl rfl ?_
  refine k_iload_n C 1 dX6_move_1 rfl rfl rfl ?_
  obtain ⟨q1, e2, hf⟩ := kf_b hf
  refine k_callV C [.int v1] (mX6_isOne e2) rfl (by decide) rfl kw_4_157 kw_4_159 kw_0_37 kw_1_7 kw_4_160 qX6_isOne rfl ⟨by decide, by decide⟩ ⟨rfl, rfl⟩ (Nat.le_of_ble_eq_true rfl) dX6_move_2 rfl ?_ rfl
  refine (show kV Z 7 5 [(0, kr Z 59), (1, .int v1), (2, .int v2)] [.int q1.1] q1.2 from ?_)
  refine k_if_eq C 18 dX6_move_5 rfl rfl (fun b3 => ?_) (fun b3 => ?_)
  · replace hf := kf_t hf b3
    refine k_aload_n C 0 dX6_move_18 rfl rfl rfl ?_
    refine k_ldc C (-1000000001 : Int32) kw_4_67 dX6_move_19 rfl ?_
    obtain ⟨q4, e5, hf⟩ := kf_b hf
    refine k_callV C [.int (-1000000001 : Int32)] (mX6_finds e5) rfl (by decide) rfl kw_4_68 kw_4_70 kw_0_24 kw_1_7 kw_4_71 qX6_finds rfl ⟨by decide, by decide⟩ ⟨rfl, rfl⟩ (Nat.le_of_ble_eq_true rfl) dX6_move_21 rfl ?_ rfl
    refine (show kV Z 7 24 [(0, kr Z 59), (1, .int v1), (2, .int v2)] [.int q4.1] q4.2 from ?_)
    exact k_iret C K hf dX6_move_24
  · replace hf := kf_f hf b3
    refine k_iload_n C 2 dX6_move_8 rfl rfl rfl ?_
    refine k_iconst C (1 : Int32) dX6_move_9 (by decide) rfl ?_
    refine k_bipush C (100 : Int32) dX6_move_10 (by decide) rfl ?_
    obtain ⟨q6, e7, hf⟩ := kf_b hf
    refine k_callS C [.int v2, .int (1 : Int32), .int (100 : Int32)] (mX6_in e7) kw_4_60 kw_4_61 kw_1_7 kw_4_62 qX6_in rfl ⟨by decide, by decide⟩ ⟨rfl, rfl⟩ (Nat.le_of_ble_eq_true rfl) dX6_move_12 rfl ?_ rfl
    refine (show kV Z 7 15 [(0, kr Z 59), (1, .int v1), (2, .int v2)] [.int q6.1] q6.2 from ?_)
    refine k_if_ne C 25 dX6_move_15 rfl rfl (fun b8 => ?_) (fun b8 => ?_)
    · replace hf := kf_f hf b8
      refine k_iconst C (0 : Int32) dX6_move_25 (by decide) rfl ?_
      refine k_istore_n (lv' := [(3, .int (0 : Int32)), (0, kr Z 59), (1, .int v1), (2, .int v2)]) C dX6_move_26 rfl (by decide) rfl rfl ?_
      refine k_iconst C (-1 : Int32) dX6_move_27 (by decide) rfl ?_
      refine k_istore (lv' := [(4, .int (-1 : Int32)), (3, .int (0 : Int32)), (0, kr Z 59), (1, .int v1), (2, .int v2)]) C dX6_move_28 (by decide) rfl rfl ?_
      refine k_aload_n C 2 dX6_move_30 rfl rfl rfl ?_
      refine k_iconst C (1 : Int32) dX6_move_31 (by decide) rfl ?_
      refine k_aload_n C 2 dX6_move_32 rfl rfl rfl ?_
      refine g_X6_tried C rfl kw_4_0 dX6_move_33 rfl ?_
      obtain ⟨s9, e10, hf⟩ := kf_b hf
      refine k_callV C [.int (1 : Int32), kr Z 62] (mX6_moveAll ⟨rfl, rfl⟩ e10) rfl (by decide) rfl kw_4_227 kw_4_229 kw_0_45 kw_1_7 kw_4_230 qX6_moveAll rfl ⟨by decide, by decide⟩ ⟨rfl, rfl⟩ (Nat.le_of_ble_eq_true rfl) dX6_move_36 rfl ?_ rfl
      refine (show kV Z 7 39 [(4, .int (-1 : Int32)), (3, .int (0 : Int32)), (0, kr Z 59), (1, .int v1), (2, .int v2)] [] s9 from ?_)
      refine k_iconst C (0 : Int32) dX6_move_39 (by decide) rfl ?_
      refine k_istore (lv' := [(5, .int (0 : Int32)), (4, .int (-1 : Int32)), (3, .int (0 : Int32)), (0, kr Z 59), (1, .int v1), (2, .int v2)]) C dX6_move_40 (by decide) rfl rfl ?_
      refine k_lv (lv' := [(0, kr Z 59), (1, .int v1), (2, .int v2), (3, .int (0 : Int32)), (4, .int (-1 : Int32)), (5, .int (0 : Int32))]) [3, 4, 5, 2, 1, 0] rfl ?_
      exact tX6_move_42 C K _ v1 v2 (0 : Int32) (-1 : Int32) (0 : Int32) s9 hf
    · replace hf := kf_t hf b8
      refine k_aload_n C 0 dX6_move_18 rfl rfl rfl ?_
      refine k_ldc C (-1000000001 : Int32) kw_4_67 dX6_move_19 rfl ?_
      obtain ⟨q11, e12, hf⟩ := kf_b hf
      refine k_callV C [.int (-1000000001 : Int32)] (mX6_finds e12) rfl (by decide) rfl kw_4_68 kw_4_70 kw_0_24 kw_1_7 kw_4_71 qX6_finds rfl ⟨by decide, by decide⟩ ⟨rfl, rfl⟩ (Nat.le_of_ble_eq_true rfl) dX6_move_21 rfl ?_ rfl
      refine (show kV Z 7 24 [(0, kr Z 59), (1, .int v1), (2, .int v2)] [.int q11.1] q11.2 from ?_)
      exact k_iret C K hf dX6_move_24
theorem mX6_move {G : kG} {v1 : Int32} {v2 : Int32}  {st : kM} {res : Int32 × kM} (hf : fX6_move v1 v2 st = some res) : kCt G yX6_move cX6_move 7 (some .int) rmX6_move [.ref (G.2.1 59), .int v1, .int v2] st (some (.int res.1)) res.2 := kMet (by decide) (Nat.le_of_ble_eq_true rfl) ⟨rfl, rfl⟩ (fun X A Q C K => tX6_move C  hf K)
theorem qX6_move : yX6_move.cls = RX6 ∧ yX6_move.cls ≠ "java/lang/invoke/MethodHandle" ∧ yX6_move.cls ≠ "java/lang/invoke/VarHandle" ∧ (parseMethodDescriptor yX6_move.desc).map (fun d => d.parameters.length) = some 2 := ⟨rfl, by decide, by decide, by decide +kernel⟩
-- TalkKnotsModel.calm(I)I
def rmX6_calm : Room := { frames := 7, cells := 0, slots := 0, locals := 160 }
def fX6_calm_85 (k33 : Int32 → Int32 → Int32 → Int32 → kM → Option (Int32 × kM)) (x1 : Int32) (x3 : Int32) (x4 : Int32) (x5 : Int32) (y0 : Int32) (st : kM) : Option (Int32 × kM) :=
  if x5 ≤ x3 then (k33 x1 y0 x3 (x4 + (1 : Int32)) st) else (k33 x1 y0 x5 (x4 + (1 : Int32)) st)
def fX6_calm_33 : Nat → Int32 → Int32 → Int32 → Int32 → kM → Option (Int32 × kM)
  | 0, _, _, _, _, _ => none
  | n + 1, x1, x2, x3, x4, st =>
    if (12 : Int32) ≤ x4 then (some (x2, st)) else (if ((2 : Int32) + x4) < 0 ∨ 72 ≤ ((2 : Int32) + x4).toNatClampNeg then none else ((some (kwr st 60 (((2 : Int32) + x4).toNatClampNeg) (0 : Int32))).bind fun s3 => ((fX6_passes x1 s3).bind fun s5 => ((fX6_fastSet s5).bind fun q7 => ((fX6_bits q7.1 q7.2).bind fun q9 => ((fX6_moveAll (0 : Int32) 62 q9.2).bind fun s11 => (if q9.1 ≤ x3 then (fX6_calm_85 (fX6_calm_33 n) x1 x3 x4 q9.1 x2 s11) else (fX6_calm_85 (fX6_calm_33 n) x1 x3 x4 q9.1 x4 s11))))))))
def fX6_calm (v1 : Int32) (st : kM) : Option (Int32 × kM) :=
  (fX6_in v1 (1 : Int32) (100 : Int32) st).bind fun q1 => (if q1.1 = 0 then ((fX6_finds (-1000000001 : Int32) q1.2).bind fun q6 => (some (q6.1, q6.2))) else ((fX6_moveAll (1 : Int32) 62 q1.2).bind fun s4 => (fX6_calm_33 kfu v1 (0 : Int32) (-1 : Int32) (0 : Int32) s4)))
set_option maxRecDepth 100000 in
theorem tX6_calm_85 {Z : kZ} (C : kC Z cX6_calm RX6 6 rmX6_calm) {res : Int32 × kM} {k33 : Int32 → Int32 → Int32 → Int32 → kM → Option (Int32 × kM)} (hk33 : ∀ (x1 : Int32) (x2 : Int32) (x3 : Int32) (x4 : Int32) (st : kM), k33 x1 x2 x3 x4 st = some res → kV Z 6 33 [(0, kr Z 59), (1, .int x1), (2, .int x2), (3, .int x3), (4, .int x4)] [] st) (K : kEnd Z (some .int) (some (.int res.1)) res.2) : ∀ (x1 : Int32) (x3 : Int32) (x4 : Int32) (x5 : Int32) (y0 : Int32) (st : kM), fX6_calm_85 k33 x1 x3 x4 x5 y0 st = some res → kV Z 6 85 [(0, kr Z 59), (1, .int x1), (3, .int x3), (4, .int x4), (5, .int x5)] [.int y0] st := by
  intro x1 x3 x4 x5 y0 st hf
  unfold fX6_calm_85 at hf
  refine k_istore_n (lv' := [(2, .int y0), (0, kr Z 59), (1, .int x1), (3, .int x3), (4, .int x4), (5, .int x5)]) C dX6_calm_85 rfl (by decide) rfl rfl ?_
  refine k_iload C 5 dX6_calm_86 rfl rfl ?_
  refine k_iload_n C 3 dX6_calm_88 rfl rfl rfl ?_
  refine k_icmp_le C 97 dX6_calm_89 rfl rfl (fun b1 => ?_) (fun b1 => ?_)
  · replace hf := kf_t hf b1
    refine k_iload_n C 3 dX6_calm_97 rfl rfl rfl ?_
    refine k_istore_n (lv' := [(3, .int x3), (2, .int y0), (0, kr Z 59), (1, .int x1), (4, .int x4), (5, .int x5)]) C dX6_calm_98 rfl (by decide) rfl rfl ?_
    refine k_iinc (lv' := [(4, .int (x4 + (1 : Int32))), (3, .int x3), (2, .int y0), (0, kr Z 59), (1, .int x1), (5, .int x5)]) C (x4 + (1 : Int32)) 4 dX6_calm_99 rfl rfl (by decide) rfl rfl ?_
    refine k_goto C 33 dX6_calm_102 rfl ?_
    refine k_lv (lv' := [(0, kr Z 59), (1, .int x1), (2, .int y0), (3, .int x3), (4, .int (x4 + (1 : Int32)))]) [3, 4, 2, 1, 0] rfl ?_
    exact hk33 x1 y0 x3 (x4 + (1 : Int32)) st  hf
  · replace hf := kf_f hf b1
    refine k_iload C 5 dX6_calm_92 rfl rfl ?_
    refine k_goto C 98 dX6_calm_94 rfl ?_
    refine k_istore_n (lv' := [(3, .int x5), (2, .int y0), (0, kr Z 59), (1, .int x1), (4, .int x4), (5, .int x5)]) C dX6_calm_98 rfl (by decide) rfl rfl ?_
    refine k_iinc (lv' := [(4, .int (x4 + (1 : Int32))), (3, .int x5), (2, .int y0), (0, kr Z 59), (1, .int x1), (5, .int x5)]) C (x4 + (1 : Int32)) 4 dX6_calm_99 rfl rfl (by decide) rfl rfl ?_
    refine k_goto C 33 dX6_calm_102 rfl ?_
    refine k_lv (lv' := [(0, kr Z 59), (1, .int x1), (2, .int y0), (3, .int x5), (4, .int (x4 + (1 : Int32)))]) [3, 4, 2, 1, 0] rfl ?_
    exact hk33 x1 y0 x5 (x4 + (1 : Int32)) st  hf
set_option maxRecDepth 100000 in
theorem tX6_calm_33 {Z : kZ} (C : kC Z cX6_calm RX6 6 rmX6_calm) {res : Int32 × kM} (K : kEnd Z (some .int) (some (.int res.1)) res.2) : ∀ (n : Nat) (x1 : Int32) (x2 : Int32) (x3 : Int32) (x4 : Int32) (st : kM), fX6_calm_33 n x1 x2 x3 x4 st = some res → kV Z 6 33 [(0, kr Z 59), (1, .int x1), (2, .int x2), (3, .int x3), (4, .int x4)] [] st := by
  intro n
  induction n with
  | zero => intro x1 x2 x3 x4 st hf; cases hf
  | succ n ih =>
    intro x1 x2 x3 x4 st hf
    unfold fX6_calm_33 at hf
    refine k_iload C 4 dX6_calm_33 rfl rfl ?_
    refine k_bipush C (12 : Int32) dX6_calm_35 (by decide) rfl ?_
    refine k_icmp_ge C 105 dX6_calm_37 rfl rfl (fun b1 => ?_) (fun b1 => ?_)
    · replace hf := kf_t hf b1
      refine k_iload_n C 2 dX6_calm_105 rfl rfl rfl ?_
      exact k_iret C K hf dX6_calm_106
    · replace hf := kf_f hf b1
      refine k_aload_n C 0 dX6_calm_40 rfl rfl rfl ?_
      refine g_X6_row C rfl kw_3_238 dX6_calm_41 rfl ?_
      refine k_iconst C (2 : Int32) dX6_calm_44 (by decide) rfl ?_
      refine k_iload C 4 dX6_calm_45 rfl rfl ?_
      refine k_iadd C dX6_calm_47 rfl ?_
      refine k_iconst C (0 : Int32) dX6_calm_48 (by decide) rfl ?_
      obtain ⟨g2, hf⟩ := kf_g hf
      refine k_iast (j := ((2 : Int32) + x4).toNatClampNeg) C ⟨rfl, rfl⟩ g2 rfl dX6_calm_49 rfl ?_
      obtain ⟨s3, e4, hf⟩ := kf_b hf
      refine k_st e4 ?_
      refine k_aload_n C 0 dX6_calm_50 rfl rfl rfl ?_
      refine k_iload_n C 1 dX6_calm_51 rfl rfl rfl ?_
      obtain ⟨s5, e6, hf⟩ := kf_b hf
      refine k_callV C [.int x1] (mX6_passes e6) rfl (by decide) rfl kw_4_211 kw_4_213 kw_0_42 kw_1_7 kw_4_214 qX6_passes rfl ⟨by decide, by decide⟩ ⟨rfl, rfl⟩ (Nat.le_of_ble_eq_true rfl) dX6_calm_52 rfl ?_ rfl
      refine (show kV Z 6 55 [(0, kr Z 59), (1, .int x1), (2, .int x2), (3, .int x3), (4, .int x4)] [] s5 from ?_)
      refine k_aload_n C 0 dX6_calm_55 rfl rfl rfl ?_
      obtain ⟨q7, e8, hf⟩ := kf_b hf
      refine k_callV C [] (mX6_fastSet e8) rfl (by decide) rfl kw_4_129 kw_4_131 kw_0_33 kw_1_7 kw_4_132 qX6_fastSet rfl ⟨by decide, by decide⟩ ⟨rfl, rfl⟩ (Nat.le_of_ble_eq_true rfl) dX6_calm_56 rfl ?_ rfl
      refine (show kV Z 6 59 [(0, kr Z 59), (1, .int x1), (2, .int x2), (3, .int x3), (4, .int x4)] [.int q7.1] q7.2 from ?_)
      obtain ⟨q9, e10, hf⟩ := kf_b hf
      refine k_callS C [.int q7.1] (mX6_bits e10) kw_4_103 kw_4_104 kw_1_7 kw_4_105 qX6_bits rfl ⟨by decide, by decide⟩ ⟨rfl, rfl⟩ (Nat.le_of_ble_eq_true rfl) dX6_calm_59 rfl ?_ rfl
      refine (show kV Z 6 62 [(0, kr Z 59), (1, .int x1), (2, .int x2), (3, .int x3), (4, .int x4)] [.int q9.1] q9.2 from ?_)
      refine k_istore (lv' := [(5, .int q9.1), (0, kr Z 59), (1, .int x1), (2, .int x2), (3, .int x3), (4, .int x4)]) C dX6_calm_62 (by decide) rfl rfl ?_
      refine k_aload_n C 1 dX6_calm_64 rfl rfl rfl ?_
      refine k_iconst C (0 : Int32) dX6_calm_65 (by decide) rfl ?_
      refine k_aload_n C 1 dX6_calm_66 rfl rfl rfl ?_
      refine g_X6_tried C rfl kw_4_0 dX6_calm_67 rfl ?_
      obtain ⟨s11, e12, hf⟩ := kf_b hf
      refine k_callV C [.int (0 : Int32), kr Z 62] (mX6_moveAll ⟨rfl, rfl⟩ e12) rfl (by decide) rfl kw_4_227 kw_4_229 kw_0_45 kw_1_7 kw_4_230 qX6_moveAll rfl ⟨by decide, by decide⟩ ⟨rfl, rfl⟩ (Nat.le_of_ble_eq_true rfl) dX6_calm_70 rfl ?_ rfl
      refine (show kV Z 6 73 [(5, .int q9.1), (0, kr Z 59), (1, .int x1), (2, .int x2), (3, .int x3), (4, .int x4)] [] s11 from ?_)
      refine k_iload C 0 dX6_calm_73 rfl rfl ?_
      refine k_iload_n C 4 dX6_calm_75 rfl rfl rfl ?_
      refine k_icmp_le C 84 dX6_calm_76 rfl rfl (fun b13 => ?_) (fun b13 => ?_)
      · replace hf := kf_t hf b13
        refine k_iload_n C 3 dX6_calm_84 rfl rfl rfl ?_
        refine k_lv (lv' := [(0, kr Z 59), (1, .int x1), (3, .int x3), (4, .int x4), (5, .int q9.1)]) [1, 2, 4, 5, 0] rfl ?_
        exact tX6_calm_85 C ih K x1 x3 x4 q9.1 x2 s11 hf
      · replace hf := kf_f hf b13
        refine k_iload C 5 dX6_calm_79 rfl rfl ?_
        refine k_goto C 85 dX6_calm_81 rfl ?_
        refine k_lv (lv' := [(0, kr Z 59), (1, .int x1), (3, .int x3), (4, .int x4), (5, .int q9.1)]) [1, 2, 4, 5, 0] rfl ?_
        exact tX6_calm_85 C ih K x1 x3 x4 q9.1 x4 s11 hf
set_option maxRecDepth 100000 in
theorem tX6_calm {Z : kZ} (C : kC Z cX6_calm RX6 6 rmX6_calm) {v1 : Int32}  {st : kM} {res : Int32 × kM} (hf : fX6_calm v1 st = some res) (K : kEnd Z (some .int) (some (.int res.1)) res.2) : kV Z 6 0 [(0, kr Z 59), (1, .int v1)] [] st := by
  unfold fX6_calm at hf
  refine k_iload_n C 1 dX6_calm_0 rfl rfl rfl ?_
  refine k_iconst C (1 : Int32) dX6_calm_1 (by decide) rfl ?_
  refine k_bipush C (100 : Int32) dX6_calm_2 (by decide) rfl ?_
  obtain ⟨q1, e2, hf⟩ := kf_b hf
  refine k_callS C [.int v1, .int (1 : Int32), .int (100 : Int32)] (mX6_in e2) kw_4_60 kw_4_61 kw_1_7 kw_4_62 qX6_in rfl ⟨by decide, by decide⟩ ⟨rfl, rfl⟩ (Nat.le_of_ble_eq_true rfl) dX6_calm_4 rfl ?_ rfl
  refine (show kV Z 6 7 [(0, kr Z 59), (1, .int v1)] [.int q1.1] q1.2 from ?_)
  refine k_if_ne C 17 dX6_calm_7 rfl rfl (fun b3 => ?_) (fun b3 => ?_)
  · replace hf := kf_f hf b3
    refine k_iconst C (0 : Int32) dX6_calm_17 (by decide) rfl ?_
    refine k_istore_n (lv' := [(2, .int (0 : Int32)), (0, kr Z 59), (1, .int v1)]) C dX6_calm_18 rfl (by decide) rfl rfl ?_
    refine k_iconst C (-1 : Int32) dX6_calm_19 (by decide) rfl ?_
    refine k_istore_n (lv' := [(3, .int (-1 : Int32)), (2, .int (0 : Int32)), (0, kr Z 59), (1, .int v1)]) C dX6_calm_20 rfl (by decide) rfl rfl ?_
    refine k_aload_n C 2 dX6_calm_21 rfl rfl rfl ?_
    refine k_iconst C (1 : Int32) dX6_calm_22 (by decide) rfl ?_
    refine k_aload_n C 2 dX6_calm_23 rfl rfl rfl ?_
    refine g_X6_tried C rfl kw_4_0 dX6_calm_24 rfl ?_
    obtain ⟨s4, e5, hf⟩ := kf_b hf
    refine k_callV C [.int (1 : Int32), kr Z 62] (mX6_moveAll ⟨rfl, rfl⟩ e5) rfl (by decide) rfl kw_4_227 kw_4_229 kw_0_45 kw_1_7 kw_4_230 qX6_moveAll rfl ⟨by decide, by decide⟩ ⟨rfl, rfl⟩ (Nat.le_of_ble_eq_true rfl) dX6_calm_27 rfl ?_ rfl
    refine (show kV Z 6 30 [(3, .int (-1 : Int32)), (2, .int (0 : Int32)), (0, kr Z 59), (1, .int v1)] [] s4 from ?_)
    refine k_iconst C (0 : Int32) dX6_calm_30 (by decide) rfl ?_
    refine k_istore (lv' := [(4, .int (0 : Int32)), (3, .int (-1 : Int32)), (2, .int (0 : Int32)), (0, kr Z 59), (1, .int v1)]) C dX6_calm_31 (by decide) rfl rfl ?_
    refine k_lv (lv' := [(0, kr Z 59), (1, .int v1), (2, .int (0 : Int32)), (3, .int (-1 : Int32)), (4, .int (0 : Int32))]) [3, 4, 2, 1, 0] rfl ?_
    exact tX6_calm_33 C K _ v1 (0 : Int32) (-1 : Int32) (0 : Int32) s4 hf
  · replace hf := kf_t hf b3
    refine k_aload_n C 0 dX6_calm_10 rfl rfl rfl ?_
    refine k_ldc C (-1000000001 : Int32) kw_4_67 dX6_calm_11 rfl ?_
    obtain ⟨q6, e7, hf⟩ := kf_b hf
    refine k_callV C [.int (-1000000001 : Int32)] (mX6_finds e7) rfl (by decide) rfl kw_4_68 kw_4_70 kw_0_24 kw_1_7 kw_4_71 qX6_finds rfl ⟨by decide, by decide⟩ ⟨rfl, rfl⟩ (Nat.le_of_ble_eq_true rfl) dX6_calm_13 rfl ?_ rfl
    refine (show kV Z 6 16 [(0, kr Z 59), (1, .int v1)] [.int q6.1] q6.2 from ?_)
    exact k_iret C K hf dX6_calm_16
theorem mX6_calm {G : kG} {v1 : Int32}  {st : kM} {res : Int32 × kM} (hf : fX6_calm v1 st = some res) : kCt G yX6_calm cX6_calm 6 (some .int) rmX6_calm [.ref (G.2.1 59), .int v1] st (some (.int res.1)) res.2 := kMet (by decide) (Nat.le_of_ble_eq_true rfl) ⟨rfl, rfl⟩ (fun X A Q C K => tX6_calm C  hf K)
theorem qX6_calm : yX6_calm.cls = RX6 ∧ yX6_calm.cls ≠ "java/lang/invoke/MethodHandle" ∧ yX6_calm.cls ≠ "java/lang/invoke/VarHandle" ∧ (parseMethodDescriptor yX6_calm.desc).map (fun d => d.parameters.length) = some 1 := ⟨rfl, by decide, by decide, by decide +kernel⟩
-- TalkKnotsModel.firmest(I)I
def rmX6_firmest : Room := { frames := 7, cells := 0, slots := 0, locals := 160 }
def fX6_firmest_36 : Nat → Int32 → Int32 → kM → Option (Int32 × kM)
  | 0, _, _, _ => none
  | n + 1, x2, x3, st =>
    if (st.1 60 1) ≤ x3 then ((fX6_moveAll (0 : Int32) 62 st).bind fun s2 => (if 0 ≤ x2 then (some (x2, s2)) else ((fX6_finds (-1000000004 : Int32) s2).bind fun q5 => (some (q5.1, q5.2))))) else (if x2 < 0 then (fX6_firmest_36 n x3 (x3 + (1 : Int32)) st) else ((fX6_holding x3 st).bind fun q8 => ((fX6_holding x2 q8.2).bind fun q10 => (if q8.1 ≤ q10.1 then (fX6_firmest_36 n x2 (x3 + (1 : Int32)) q10.2) else (fX6_firmest_36 n x3 (x3 + (1 : Int32)) q10.2)))))
def fX6_firmest (v1 : Int32) (st : kM) : Option (Int32 × kM) :=
  (fX6_in v1 (0 : Int32) (200 : Int32) st).bind fun q1 => (if q1.1 = 0 then ((fX6_finds (-1000000001 : Int32) q1.2).bind fun q8 => (some (q8.1, q8.2))) else ((fX6_moveAll (1 : Int32) 62 q1.2).bind fun s4 => ((fX6_passes v1 s4).bind fun s6 => (fX6_firmest_36 kfu (-1 : Int32) (0 : Int32) s6))))
set_option maxRecDepth 100000 in
theorem tX6_firmest_36 {Z : kZ} (C : kC Z cX6_firmest RX6 4 rmX6_firmest) {res : Int32 × kM} (K : kEnd Z (some .int) (some (.int res.1)) res.2) : ∀ (n : Nat) (x2 : Int32) (x3 : Int32) (st : kM), fX6_firmest_36 n x2 x3 st = some res → kV Z 4 36 [(0, kr Z 59), (2, .int x2), (3, .int x3)] [] st := by
  intro n
  induction n with
  | zero => intro x2 x3 st hf; cases hf
  | succ n ih =>
    intro x2 x3 st hf
    unfold fX6_firmest_36 at hf
    refine k_iload_n C 2 dX6_firmest_36 rfl rfl rfl ?_
    refine k_aload_n C 0 dX6_firmest_37 rfl rfl rfl ?_
    refine g_X6_row C rfl kw_3_238 dX6_firmest_38 rfl ?_
    refine k_iconst C (1 : Int32) dX6_firmest_41 (by decide) rfl ?_
    refine k_iald (j := 1) C ⟨rfl, rfl⟩ (by decide) rfl dX6_firmest_42 rfl ?_
    refine k_icmp_ge C 75 dX6_firmest_43 rfl rfl (fun b1 => ?_) (fun b1 => ?_)
    · replace hf := kf_t hf b1
      refine k_aload_n C 0 dX6_firmest_75 rfl rfl rfl ?_
      refine k_iconst C (0 : Int32) dX6_firmest_76 (by decide) rfl ?_
      refine k_aload_n C 0 dX6_firmest_77 rfl rfl rfl ?_
      refine g_X6_tried C rfl kw_4_0 dX6_firmest_78 rfl ?_
      obtain ⟨s2, e3, hf⟩ := kf_b hf
      refine k_callV C [.int (0 : Int32), kr Z 62] (mX6_moveAll ⟨rfl, rfl⟩ e3) rfl (by decide) rfl kw_4_227 kw_4_229 kw_0_45 kw_1_7 kw_4_230 qX6_moveAll rfl ⟨by decide, by decide⟩ ⟨rfl, rfl⟩ (Nat.le_of_ble_eq_true rfl) dX6_firmest_81 rfl ?_ rfl
      refine (show kV Z 4 84 [(0, kr Z 59), (2, .int x2), (3, .int x3)] [] s2 from ?_)
      refine k_iload_n C 1 dX6_firmest_84 rfl rfl rfl ?_
      refine k_if_ge C 97 dX6_firmest_85 rfl rfl (fun b4 => ?_) (fun b4 => ?_)
      · replace hf := kf_t hf b4
        refine k_iload_n C 1 dX6_firmest_97 rfl rfl rfl ?_
        exact k_iret C K hf dX6_firmest_98
      · replace hf := kf_f hf b4
        refine k_aload_n C 0 dX6_firmest_88 rfl rfl rfl ?_
        refine k_ldc C (-1000000004 : Int32) kw_5_3 dX6_firmest_89 rfl ?_
        obtain ⟨q5, e6, hf⟩ := kf_b hf
        refine k_callV C [.int (-1000000004 : Int32)] (mX6_finds e6) rfl (by decide) rfl kw_4_68 kw_4_70 kw_0_24 kw_1_7 kw_4_71 qX6_finds rfl ⟨by decide, by decide⟩ ⟨rfl, rfl⟩ (Nat.le_of_ble_eq_true rfl) dX6_firmest_91 rfl ?_ rfl
        refine (show kV Z 4 94 [(0, kr Z 59), (2, .int x2), (3, .int x3)] [.int q5.1] q5.2 from ?_)
        refine k_goto C 98 dX6_firmest_94 rfl ?_
        exact k_iret C K hf dX6_firmest_98
    · replace hf := kf_f hf b1
      refine k_iload_n C 1 dX6_firmest_46 rfl rfl rfl ?_
      refine k_if_lt C 63 dX6_firmest_47 rfl rfl (fun b7 => ?_) (fun b7 => ?_)
      · replace hf := kf_t hf b7
        refine k_iload_n C 2 dX6_firmest_63 rfl rfl rfl ?_
        refine k_goto C 68 dX6_firmest_64 rfl ?_
        refine k_istore_n (lv' := [(2, .int x3), (0, kr Z 59), (3, .int x3)]) C dX6_firmest_68 rfl (by decide) rfl rfl ?_
        refine k_iinc (lv' := [(3, .int (x3 + (1 : Int32))), (2, .int x3), (0, kr Z 59)]) C (x3 + (1 : Int32)) 2 dX6_firmest_69 rfl rfl (by decide) rfl rfl ?_
        refine k_goto C 36 dX6_firmest_72 rfl ?_
        refine k_lv (lv' := [(0, kr Z 59), (2, .int x3), (3, .int (x3 + (1 : Int32)))]) [2, 1, 0] rfl ?_
        exact ih x3 (x3 + (1 : Int32)) st  hf
      · replace hf := kf_f hf b7
        refine k_aload_n C 0 dX6_firmest_50 rfl rfl rfl ?_
        refine k_iload_n C 2 dX6_firmest_51 rfl rfl rfl ?_
        obtain ⟨q8, e9, hf⟩ := kf_b hf
        refine k_callV C [.int x3] (mX6_holding e9) rfl (by decide) rfl kw_4_114 kw_4_116 kw_0_31 kw_1_7 kw_4_117 qX6_holding rfl ⟨by decide, by decide⟩ ⟨rfl, rfl⟩ (Nat.le_of_ble_eq_true rfl) dX6_firmest_52 rfl ?_ rfl
        refine (show kV Z 4 55 [(0, kr Z 59), (2, .int x2), (3, .int x3)] [.int q8.1] q8.2 from ?_)
        refine k_aload_n C 0 dX6_firmest_55 rfl rfl rfl ?_
        refine k_iload_n C 1 dX6_firmest_56 rfl rfl rfl ?_
        obtain ⟨q10, e11, hf⟩ := kf_b hf
        refine k_callV C [.int x2] (mX6_holding e11) rfl (by decide) rfl kw_4_114 kw_4_116 kw_0_31 kw_1_7 kw_4_117 qX6_holding rfl ⟨by decide, by decide⟩ ⟨rfl, rfl⟩ (Nat.le_of_ble_eq_true rfl) dX6_firmest_57 rfl ?_ rfl
        refine (show kV Z 4 60 [(0, kr Z 59), (2, .int x2), (3, .int x3)] [.int q10.1, .int q8.1] q10.2 from ?_)
        refine k_icmp_le C 67 dX6_firmest_60 rfl rfl (fun b12 => ?_) (fun b12 => ?_)
        · replace hf := kf_t hf b12
          refine k_iload_n C 1 dX6_firmest_67 rfl rfl rfl ?_
          refine k_istore_n (lv' := [(2, .int x2), (0, kr Z 59), (3, .int x3)]) C dX6_firmest_68 rfl (by decide) rfl rfl ?_
          refine k_iinc (lv' := [(3, .int (x3 + (1 : Int32))), (2, .int x2), (0, kr Z 59)]) C (x3 + (1 : Int32)) 2 dX6_firmest_69 rfl rfl (by decide) rfl rfl ?_
          refine k_goto C 36 dX6_firmest_72 rfl ?_
          refine k_lv (lv' := [(0, kr Z 59), (2, .int x2), (3, .int (x3 + (1 : Int32)))]) [2, 1, 0] rfl ?_
          exact ih x2 (x3 + (1 : Int32)) q10.2  hf
        · replace hf := kf_f hf b12
          refine k_iload_n C 2 dX6_firmest_63 rfl rfl rfl ?_
          refine k_goto C 68 dX6_firmest_64 rfl ?_
          refine k_istore_n (lv' := [(2, .int x3), (0, kr Z 59), (3, .int x3)]) C dX6_firmest_68 rfl (by decide) rfl rfl ?_
          refine k_iinc (lv' := [(3, .int (x3 + (1 : Int32))), (2, .int x3), (0, kr Z 59)]) C (x3 + (1 : Int32)) 2 dX6_firmest_69 rfl rfl (by decide) rfl rfl ?_
          refine k_goto C 36 dX6_firmest_72 rfl ?_
          refine k_lv (lv' := [(0, kr Z 59), (2, .int x3), (3, .int (x3 + (1 : Int32)))]) [2, 1, 0] rfl ?_
          exact ih x3 (x3 + (1 : Int32)) q10.2  hf
set_option maxRecDepth 100000 in
theorem tX6_firmest {Z : kZ} (C : kC Z cX6_firmest RX6 4 rmX6_firmest) {v1 : Int32}  {st : kM} {res : Int32 × kM} (hf : fX6_firmest v1 st = some res) (K : kEnd Z (some .int) (some (.int res.1)) res.2) : kV Z 4 0 [(0, kr Z 59), (1, .int v1)] [] st := by
  unfold fX6_firmest at hf
  refine k_iload_n C 1 dX6_firmest_0 rfl rfl rfl ?_
  refine k_iconst C (0 : Int32) dX6_firmest_1 (by decide) rfl ?_
  refine k_sipush C (200 : Int32) dX6_firmest_2 (by decide) rfl ?_
  obtain ⟨q1, e2, hf⟩ := kf_b hf
  refine k_callS C [.int v1, .int (0 : Int32), .int (200 : Int32)] (mX6_in e2) kw_4_60 kw_4_61 kw_1_7 kw_4_62 qX6_in rfl ⟨by decide, by decide⟩ ⟨rfl, rfl⟩ (Nat.le_of_ble_eq_true rfl) dX6_firmest_5 rfl ?_ rfl
  refine (show kV Z 4 8 [(0, kr Z 59), (1, .int v1)] [.int q1.1] q1.2 from ?_)
  refine k_if_ne C 18 dX6_firmest_8 rfl rfl (fun b3 => ?_) (fun b3 => ?_)
  · replace hf := kf_f hf b3
    refine k_iconst C (-1 : Int32) dX6_firmest_18 (by decide) rfl ?_
    refine k_istore_n (lv' := [(2, .int (-1 : Int32)), (0, kr Z 59), (1, .int v1)]) C dX6_firmest_19 rfl (by decide) rfl rfl ?_
    refine k_aload_n C 1 dX6_firmest_20 rfl rfl rfl ?_
    refine k_iconst C (1 : Int32) dX6_firmest_21 (by decide) rfl ?_
    refine k_aload_n C 1 dX6_firmest_22 rfl rfl rfl ?_
    refine g_X6_tried C rfl kw_4_0 dX6_firmest_23 rfl ?_
    obtain ⟨s4, e5, hf⟩ := kf_b hf
    refine k_callV C [.int (1 : Int32), kr Z 62] (mX6_moveAll ⟨rfl, rfl⟩ e5) rfl (by decide) rfl kw_4_227 kw_4_229 kw_0_45 kw_1_7 kw_4_230 qX6_moveAll rfl ⟨by decide, by decide⟩ ⟨rfl, rfl⟩ (Nat.le_of_ble_eq_true rfl) dX6_firmest_26 rfl ?_ rfl
    refine (show kV Z 4 29 [(2, .int (-1 : Int32)), (0, kr Z 59), (1, .int v1)] [] s4 from ?_)
    refine k_aload_n C 1 dX6_firmest_29 rfl rfl rfl ?_
    refine k_iload_n C 2 dX6_firmest_30 rfl rfl rfl ?_
    obtain ⟨s6, e7, hf⟩ := kf_b hf
    refine k_callV C [.int v1] (mX6_passes e7) rfl (by decide) rfl kw_4_211 kw_4_213 kw_0_42 kw_1_7 kw_4_214 qX6_passes rfl ⟨by decide, by decide⟩ ⟨rfl, rfl⟩ (Nat.le_of_ble_eq_true rfl) dX6_firmest_31 rfl ?_ rfl
    refine (show kV Z 4 34 [(2, .int (-1 : Int32)), (0, kr Z 59), (1, .int v1)] [] s6 from ?_)
    refine k_iconst C (0 : Int32) dX6_firmest_34 (by decide) rfl ?_
    refine k_istore_n (lv' := [(3, .int (0 : Int32)), (2, .int (-1 : Int32)), (0, kr Z 59), (1, .int v1)]) C dX6_firmest_35 rfl (by decide) rfl rfl ?_
    refine k_lv (lv' := [(0, kr Z 59), (2, .int (-1 : Int32)), (3, .int (0 : Int32))]) [2, 1, 0] rfl ?_
    exact tX6_firmest_36 C K _ (-1 : Int32) (0 : Int32) s6 hf
  · replace hf := kf_t hf b3
    refine k_aload_n C 0 dX6_firmest_11 rfl rfl rfl ?_
    refine k_ldc C (-1000000001 : Int32) kw_4_67 dX6_firmest_12 rfl ?_
    obtain ⟨q8, e9, hf⟩ := kf_b hf
    refine k_callV C [.int (-1000000001 : Int32)] (mX6_finds e9) rfl (by decide) rfl kw_4_68 kw_4_70 kw_0_24 kw_1_7 kw_4_71 qX6_finds rfl ⟨by decide, by decide⟩ ⟨rfl, rfl⟩ (Nat.le_of_ble_eq_true rfl) dX6_firmest_14 rfl ?_ rfl
    refine (show kV Z 4 17 [(0, kr Z 59), (1, .int v1)] [.int q8.1] q8.2 from ?_)
    exact k_iret C K hf dX6_firmest_17
theorem mX6_firmest {G : kG} {v1 : Int32}  {st : kM} {res : Int32 × kM} (hf : fX6_firmest v1 st = some res) : kCt G yX6_firmest cX6_firmest 4 (some .int) rmX6_firmest [.ref (G.2.1 59), .int v1] st (some (.int res.1)) res.2 := kMet (by decide) (Nat.le_of_ble_eq_true rfl) ⟨rfl, rfl⟩ (fun X A Q C K => tX6_firmest C  hf K)
theorem qX6_firmest : yX6_firmest.cls = RX6 ∧ yX6_firmest.cls ≠ "java/lang/invoke/MethodHandle" ∧ yX6_firmest.cls ≠ "java/lang/invoke/VarHandle" ∧ (parseMethodDescriptor yX6_firmest.desc).map (fun d => d.parameters.length) = some 1 := ⟨rfl, by decide, by decide, by decide +kernel⟩
-- TalkKnotsModel.feed(II)I
def rmX6_feed : Room := { frames := 1, cells := 0, slots := 0, locals := 22 }
def fX6_feed_38 : Nat → Int32 → Int32 → kM → Option (Int32 × kM)
  | 0, _, _, _ => none
  | n + 1, x1, x3, st =>
    if x3 < 0 then (some ((st.1 59 5), st)) else (if (st.1 59 5) < 0 ∨ 120 ≤ (st.1 59 5).toNatClampNeg then none else ((some (kwr st 64 ((st.1 59 5).toNatClampNeg) ((x1 >>> (((8 : Int32) * x3) &&& 31)) &&& (255 : Int32)))).bind fun s3 => ((some (kwr s3 59 5 ((s3.1 59 5) + (1 : Int32)))).bind fun s5 => (fX6_feed_38 n x1 (x3 + (-1 : Int32)) s5))))
def fX6_feed (v1 : Int32) (v2 : Int32) (st : kM) : Option (Int32 × kM) :=
  (fX6_in v2 (1 : Int32) (4 : Int32) st).bind fun q1 => (if q1.1 = 0 then ((fX6_finds (-1000000001 : Int32) q1.2).bind fun q9 => (some (q9.1, q9.2))) else (if ((q1.2.1 59 5) + v2) ≤ (120 : Int32) then ((some (v2 - (1 : Int32))).bind fun z5 => (fX6_feed_38 kfu v1 z5 q1.2)) else ((fX6_finds (-1000000002 : Int32) q1.2).bind fun q7 => (some (q7.1, q7.2)))))
set_option maxRecDepth 100000 in
theorem tX6_feed_38 {Z : kZ} (C : kC Z cX6_feed RX6 4 rmX6_feed) {res : Int32 × kM} (K : kEnd Z (some .int) (some (.int res.1)) res.2) : ∀ (n : Nat) (x1 : Int32) (x3 : Int32) (st : kM), fX6_feed_38 n x1 x3 st = some res → kV Z 4 38 [(0, kr Z 59), (1, .int x1), (3, .int x3)] [] st := by
  intro n
  induction n with
  | zero => intro x1 x3 st hf; cases hf
  | succ n ih =>
    intro x1 x3 st hf
    unfold fX6_feed_38 at hf
    refine k_iload_n C 2 dX6_feed_38 rfl rfl rfl ?_
    refine k_if_lt C 77 dX6_feed_39 rfl rfl (fun b1 => ?_) (fun b1 => ?_)
    · replace hf := kf_t hf b1
      refine k_aload_n C 0 dX6_feed_77 rfl rfl rfl ?_
      refine g_X6_tapeMany C rfl kw_4_3 dX6_feed_78 rfl ?_
      exact k_iret C K hf dX6_feed_81
    · replace hf := kf_f hf b1
      refine k_aload_n C 0 dX6_feed_42 rfl rfl rfl ?_
      refine g_X6_tape C rfl kw_4_2 dX6_feed_43 rfl ?_
      refine k_aload_n C 0 dX6_feed_46 rfl rfl rfl ?_
      refine g_X6_tapeMany C rfl kw_4_3 dX6_feed_47 rfl ?_
      refine k_iload_n C 1 dX6_feed_50 rfl rfl rfl ?_
      refine k_bipush C (8 : Int32) dX6_feed_51 (by decide) rfl ?_
      refine k_iload_n C 2 dX6_feed_53 rfl rfl rfl ?_
      refine k_imul C dX6_feed_54 rfl ?_
      refine k_ishr C dX6_feed_55 rfl ?_
      refine k_sipush C (255 : Int32) dX6_feed_56 (by decide) rfl ?_
      refine k_iand C dX6_feed_59 rfl ?_
      obtain ⟨g2, hf⟩ := kf_g hf
      refine k_iast (j := (st.1 59 5).toNatClampNeg) C ⟨rfl, rfl⟩ g2 rfl dX6_feed_60 rfl ?_
      obtain ⟨s3, e4, hf⟩ := kf_b hf
      refine k_st e4 ?_
      refine k_aload_n C 0 dX6_feed_61 rfl rfl rfl ?_
      refine k_dup C rfl dX6_feed_62 rfl ?_
      refine g_X6_tapeMany C rfl kw_4_3 dX6_feed_63 rfl ?_
      refine k_iconst C (1 : Int32) dX6_feed_66 (by decide) rfl ?_
      refine k_iadd C dX6_feed_67 rfl ?_
      refine p_X6_tapeMany C rfl kw_4_3 dX6_feed_68 rfl ?_
      obtain ⟨s5, e6, hf⟩ := kf_b hf
      refine k_st e6 ?_
      refine k_iinc (lv' := [(3, .int (x3 + (-1 : Int32))), (0, kr Z 59), (1, .int x1)]) C (x3 + (-1 : Int32)) 2 dX6_feed_71 rfl rfl (by decide) rfl rfl ?_
      refine k_goto C 38 dX6_feed_74 rfl ?_
      refine k_lv (lv' := [(0, kr Z 59), (1, .int x1), (3, .int (x3 + (-1 : Int32)))]) [1, 2, 0] rfl ?_
      exact ih x1 (x3 + (-1 : Int32)) s5  hf
set_option maxRecDepth 100000 in
theorem tX6_feed {Z : kZ} (C : kC Z cX6_feed RX6 4 rmX6_feed) {v1 : Int32} {v2 : Int32}  {st : kM} {res : Int32 × kM} (hf : fX6_feed v1 v2 st = some res) (K : kEnd Z (some .int) (some (.int res.1)) res.2) : kV Z 4 0 [(0, kr Z 59), (1, .int v1), (2, .int v2)] [] st := by
  unfold fX6_feed at hf
  refine k_iload_n C 2 dX6_feed_0 rfl rfl rfl ?_
  refine k_iconst C (1 : Int32) dX6_feed_1 (by decide) rfl ?_
  refine k_iconst C (4 : Int32) dX6_feed_2 (by decide) rfl ?_
  obtain ⟨q1, e2, hf⟩ := kf_b hf
  refine k_callS C [.int v2, .int (1 : Int32), .int (4 : Int32)] (mX6_in e2) kw_4_60 kw_4_61 kw_1_7 kw_4_62 qX6_in rfl ⟨by decide, by decide⟩ ⟨rfl, rfl⟩ (Nat.le_of_ble_eq_true rfl) dX6_feed_3 rfl ?_ rfl
  refine (show kV Z 4 6 [(0, kr Z 59), (1, .int v1), (2, .int v2)] [.int q1.1] q1.2 from ?_)
  refine k_if_ne C 16 dX6_feed_6 rfl rfl (fun b3 => ?_) (fun b3 => ?_)
  · replace hf := kf_f hf b3
    refine k_aload_n C 0 dX6_feed_16 rfl rfl rfl ?_
    refine g_X6_tapeMany C rfl kw_4_3 dX6_feed_17 rfl ?_
    refine k_iload_n C 2 dX6_feed_20 rfl rfl rfl ?_
    refine k_iadd C dX6_feed_21 rfl ?_
    refine k_bipush C (120 : Int32) dX6_feed_22 (by decide) rfl ?_
    refine k_icmp_le C 34 dX6_feed_24 rfl rfl (fun b4 => ?_) (fun b4 => ?_)
    · replace hf := kf_t hf b4
      refine k_iload_n C 2 dX6_feed_34 rfl rfl rfl ?_
      refine k_iconst C (1 : Int32) dX6_feed_35 (by decide) rfl ?_
      refine k_isub C dX6_feed_36 rfl ?_
      obtain ⟨z5, e6, hf⟩ := kf_b hf
      refine k_topi e6 ?_
      refine k_istore_n (lv' := [(3, .int z5), (0, kr Z 59), (1, .int v1), (2, .int v2)]) C dX6_feed_37 rfl (by decide) rfl rfl ?_
      refine k_lv (lv' := [(0, kr Z 59), (1, .int v1), (3, .int z5)]) [1, 2, 0] rfl ?_
      exact tX6_feed_38 C K _ v1 z5 q1.2 hf
    · replace hf := kf_f hf b4
      refine k_aload_n C 0 dX6_feed_27 rfl rfl rfl ?_
      refine k_ldc C (-1000000002 : Int32) kw_4_144 dX6_feed_28 rfl ?_
      obtain ⟨q7, e8, hf⟩ := kf_b hf
      refine k_callV C [.int (-1000000002 : Int32)] (mX6_finds e8) rfl (by decide) rfl kw_4_68 kw_4_70 kw_0_24 kw_1_7 kw_4_71 qX6_finds rfl ⟨by decide, by decide⟩ ⟨rfl, rfl⟩ (Nat.le_of_ble_eq_true rfl) dX6_feed_30 rfl ?_ rfl
      refine (show kV Z 4 33 [(0, kr Z 59), (1, .int v1), (2, .int v2)] [.int q7.1] q7.2 from ?_)
      exact k_iret C K hf dX6_feed_33
  · replace hf := kf_t hf b3
    refine k_aload_n C 0 dX6_feed_9 rfl rfl rfl ?_
    refine k_ldc C (-1000000001 : Int32) kw_4_67 dX6_feed_10 rfl ?_
    obtain ⟨q9, e10, hf⟩ := kf_b hf
    refine k_callV C [.int (-1000000001 : Int32)] (mX6_finds e10) rfl (by decide) rfl kw_4_68 kw_4_70 kw_0_24 kw_1_7 kw_4_71 qX6_finds rfl ⟨by decide, by decide⟩ ⟨rfl, rfl⟩ (Nat.le_of_ble_eq_true rfl) dX6_feed_12 rfl ?_ rfl
    refine (show kV Z 4 15 [(0, kr Z 59), (1, .int v1), (2, .int v2)] [.int q9.1] q9.2 from ?_)
    exact k_iret C K hf dX6_feed_15
theorem mX6_feed {G : kG} {v1 : Int32} {v2 : Int32}  {st : kM} {res : Int32 × kM} (hf : fX6_feed v1 v2 st = some res) : kCt G yX6_feed cX6_feed 4 (some .int) rmX6_feed [.ref (G.2.1 59), .int v1, .int v2] st (some (.int res.1)) res.2 := kMet (by decide) (Nat.le_of_ble_eq_true rfl) ⟨rfl, rfl⟩ (fun X A Q C K => tX6_feed C  hf K)
theorem qX6_feed : yX6_feed.cls = RX6 ∧ yX6_feed.cls ≠ "java/lang/invoke/MethodHandle" ∧ yX6_feed.cls ≠ "java/lang/invoke/VarHandle" ∧ (parseMethodDescriptor yX6_feed.desc).map (fun d => d.parameters.length) = some 2 := ⟨rfl, by decide, by decide, by decide +kernel⟩
-- TalkKnotsModel.wipe()I
def rmX6_wipe : Room := { frames := 0, cells := 0, slots := 0, locals := 0 }
def fX6_wipe (st : kM) : Option (Int32 × kM) :=
  (some (st.1 59 5)).bind fun z1 => ((some (kwr st 59 5 (0 : Int32))).bind fun s3 => (some (z1, s3)))
set_option maxRecDepth 100000 in
theorem tX6_wipe {Z : kZ} (C : kC Z cX6_wipe RX6 2 rmX6_wipe)   {st : kM} {res : Int32 × kM} (hf : fX6_wipe st = some res) (K : kEnd Z (some .int) (some (.int res.1)) res.2) : kV Z 2 0 [(0, kr Z 59)] [] st := by
  unfold fX6_wipe at hf
  refine k_aload_n C 0 dX6_wipe_0 rfl rfl rfl ?_
  refine g_X6_tapeMany C rfl kw_4_3 dX6_wipe_1 rfl ?_
  obtain ⟨z1, e2, hf⟩ := kf_b hf
  refine k_topi e2 ?_
  refine k_istore_n (lv' := [(1, .int z1), (0, kr Z 59)]) C dX6_wipe_4 rfl (by decide) rfl rfl ?_
  refine k_aload_n C 1 dX6_wipe_5 rfl rfl rfl ?_
  refine k_iconst C (0 : Int32) dX6_wipe_6 (by decide) rfl ?_
  refine p_X6_tapeMany C rfl kw_4_3 dX6_wipe_7 rfl ?_
  obtain ⟨s3, e4, hf⟩ := kf_b hf
  refine k_st e4 ?_
  refine k_iload_n C 0 dX6_wipe_10 rfl rfl rfl ?_
  exact k_iret C K hf dX6_wipe_11
theorem mX6_wipe {G : kG}   {st : kM} {res : Int32 × kM} (hf : fX6_wipe st = some res) : kCt G yX6_wipe cX6_wipe 2 (some .int) rmX6_wipe [.ref (G.2.1 59)] st (some (.int res.1)) res.2 := kMet (by decide) (Nat.le_of_ble_eq_true rfl) ⟨rfl, rfl⟩ (fun X A Q C K => tX6_wipe C  hf K)
theorem qX6_wipe : yX6_wipe.cls = RX6 ∧ yX6_wipe.cls ≠ "java/lang/invoke/MethodHandle" ∧ yX6_wipe.cls ≠ "java/lang/invoke/VarHandle" ∧ (parseMethodDescriptor yX6_wipe.desc).map (fun d => d.parameters.length) = some 0 := ⟨rfl, by decide, by decide, by decide +kernel⟩
-- TalkKnotsModel.byteAt(I)I
def rmX6_byteAt : Room := { frames := 0, cells := 0, slots := 0, locals := 0 }
def fX6_byteAt (v1 : Int32) (st : kM) : Option (Int32 × kM) :=
  if (st.1 59 5) ≤ v1 then (some ((-1 : Int32), st)) else (if v1 < 0 ∨ 120 ≤ v1.toNatClampNeg then none else (some ((st.1 64 v1.toNatClampNeg), st)))
set_option maxRecDepth 100000 in
theorem tX6_byteAt {Z : kZ} (C : kC Z cX6_byteAt RX6 2 rmX6_byteAt) {v1 : Int32}  {st : kM} {res : Int32 × kM} (hf : fX6_byteAt v1 st = some res) (K : kEnd Z (some .int) (some (.int res.1)) res.2) : kV Z 2 0 [(0, kr Z 59), (1, .int v1)] [] st := by
  unfold fX6_byteAt at hf
  refine k_iload_n C 1 dX6_byteAt_0 rfl rfl rfl ?_
  refine k_aload_n C 0 dX6_byteAt_1 rfl rfl rfl ?_
  refine g_X6_tapeMany C rfl kw_4_3 dX6_byteAt_2 rfl ?_
  refine k_icmp_ge C 17 dX6_byteAt_5 rfl rfl (fun b1 => ?_) (fun b1 => ?_)
  · replace hf := kf_t hf b1
    refine k_iconst C (-1 : Int32) dX6_byteAt_17 (by decide) rfl ?_
    exact k_iret C K hf dX6_byteAt_18
  · replace hf := kf_f hf b1
    refine k_aload_n C 0 dX6_byteAt_8 rfl rfl rfl ?_
    refine g_X6_tape C rfl kw_4_2 dX6_byteAt_9 rfl ?_
    refine k_iload_n C 1 dX6_byteAt_12 rfl rfl rfl ?_
    obtain ⟨g2, hf⟩ := kf_g hf
    refine k_iald (j := v1.toNatClampNeg) C ⟨rfl, rfl⟩ g2 rfl dX6_byteAt_13 rfl ?_
    refine k_goto C 18 dX6_byteAt_14 rfl ?_
    exact k_iret C K hf dX6_byteAt_18
theorem mX6_byteAt {G : kG} {v1 : Int32}  {st : kM} {res : Int32 × kM} (hf : fX6_byteAt v1 st = some res) : kCt G yX6_byteAt cX6_byteAt 2 (some .int) rmX6_byteAt [.ref (G.2.1 59), .int v1] st (some (.int res.1)) res.2 := kMet (by decide) (Nat.le_of_ble_eq_true rfl) ⟨rfl, rfl⟩ (fun X A Q C K => tX6_byteAt C  hf K)
theorem qX6_byteAt : yX6_byteAt.cls = RX6 ∧ yX6_byteAt.cls ≠ "java/lang/invoke/MethodHandle" ∧ yX6_byteAt.cls ≠ "java/lang/invoke/VarHandle" ∧ (parseMethodDescriptor yX6_byteAt.desc).map (fun d => d.parameters.length) = some 1 := ⟨rfl, by decide, by decide, by decide +kernel⟩
