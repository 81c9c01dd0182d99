-- TalkKnotsModel.isGiving(II)Z
def rmX6_isGiving : Room := { frames := 3, cells := 0, slots := 0, locals := 70 }
def fX6_isGiving_14 (x1 : Int32) (y0 : Int32) (st : kM) : Option (Int32 × kM) :=
  (fX6_its x1 (0 : Int32) st).bind fun q1 => (if q1.1 = (1 : Int32) then (if y0 = 0 then (some ((0 : Int32), q1.2)) else ((fX6_its x1 (2 : Int32) q1.2).bind fun q5 => (if (90 : Int32) ≤ q5.1 then (some ((0 : Int32), q5.2)) else (some ((1 : Int32), q5.2))))) else (if q1.1 = (2 : Int32) then (if y0 = 0 ∨ y0 = 1 then some (y0, q1.2) else none) else (if q1.1 = (3 : Int32) then (if y0 = 0 then ((fX6_its x1 (2 : Int32) q1.2).bind fun q11 => (if q11.1 = (99 : Int32) then (some ((1 : Int32), q11.2)) else (some ((0 : Int32), q11.2)))) else (some ((1 : Int32), q1.2))) else (if q1.1 = (4 : Int32) then (if y0 = 0 then (some ((0 : Int32), q1.2)) else ((fX6_its x1 (2 : Int32) q1.2).bind fun q16 => (if (90 : Int32) ≤ q16.1 then (some ((0 : Int32), q16.2)) else (some ((1 : Int32), q16.2))))) else (if q1.1 = (5 : Int32) then (if y0 = 0 then (some ((0 : Int32), q1.2)) else ((fX6_its x1 (4 : Int32) q1.2).bind fun q21 => (if q21.1 < (3 : Int32) then (some ((0 : Int32), q21.2)) else (some ((1 : Int32), q21.2))))) else (if y0 = 0 ∨ y0 = 1 then some (y0, q1.2) else none))))))
def fX6_isGiving (v1 : Int32) (v2 : Int32) (st : kM) : Option (Int32 × kM) :=
  (fX6_holding v1 st).bind fun q1 => (if v2 ≤ q1.1 then (fX6_isGiving_14 v1 (0 : Int32) q1.2) else (fX6_isGiving_14 v1 (1 : Int32) q1.2))
set_option maxRecDepth 100000 in
theorem tX6_isGiving_14 {Z : kZ} (C : kC Z cX6_isGiving RX6 4 rmX6_isGiving) {res : Int32 × kM} (K : kEnd Z (some .boolean) (some (.int res.1)) res.2) : ∀ (x1 : Int32) (y0 : Int32) (st : kM), fX6_isGiving_14 x1 y0 st = some res → kV Z 4 14 [(0, kr Z 59), (1, .int x1)] [.int y0] st := by
  intro x1 y0 st hf
  unfold fX6_isGiving_14 at hf
  refine k_istore_n (lv' := [(3, .int y0), (0, kr Z 59), (1, .int x1)]) C dX6_isGiving_14 rfl (by decide) rfl rfl ?_
  refine k_aload_n C 1 dX6_isGiving_15 rfl rfl rfl ?_
  refine k_iload_n C 2 dX6_isGiving_16 rfl rfl rfl ?_
  refine k_iconst C (0 : Int32) dX6_isGiving_17 (by decide) rfl ?_
  obtain ⟨q1, e2, hf⟩ := kf_b hf
  refine k_callV C [.int x1, .int (0 : Int32)] (mX6_its e2) rfl (by decide) rfl kw_4_95 kw_4_97 kw_0_27 kw_1_7 kw_4_98 qX6_its rfl ⟨by decide, by decide⟩ ⟨rfl, rfl⟩ (Nat.le_of_ble_eq_true rfl) dX6_isGiving_18 rfl ?_ rfl
  refine (show kV Z 4 21 [(3, .int y0), (0, kr Z 59), (1, .int x1)] [.int q1.1] q1.2 from ?_)
  by_cases b3 : q1.1 = (1 : Int32)
  · replace hf := kf_t hf b3
    refine k_tabIn C 56 dX6_isGiving_21 (by rw [b3]; decide) (by rw [b3]; decide) (by rw [b3]; rfl) rfl ?_
    refine k_iload_n C 0 dX6_isGiving_56 rfl rfl rfl ?_
    refine k_if_eq C 75 dX6_isGiving_57 rfl rfl (fun b4 => ?_) (fun b4 => ?_)
    · replace hf := kf_t hf b4
      refine k_iconst C (0 : Int32) dX6_isGiving_75 (by decide) rfl ?_
      exact k_zret C K hf rfl dX6_isGiving_76
    · replace hf := kf_f hf b4
      refine k_aload_n C 1 dX6_isGiving_60 rfl rfl rfl ?_
      refine k_iload_n C 2 dX6_isGiving_61 rfl rfl rfl ?_
      refine k_iconst C (2 : Int32) dX6_isGiving_62 (by decide) rfl ?_
      obtain ⟨q5, e6, hf⟩ := kf_b hf
      refine k_callV C [.int x1, .int (2 : Int32)] (mX6_its e6) rfl (by decide) rfl kw_4_95 kw_4_97 kw_0_27 kw_1_7 kw_4_98 qX6_its rfl ⟨by decide, by decide⟩ ⟨rfl, rfl⟩ (Nat.le_of_ble_eq_true rfl) dX6_isGiving_63 rfl ?_ rfl
      refine (show kV Z 4 66 [(3, .int y0), (0, kr Z 59), (1, .int x1)] [.int q5.1] q5.2 from ?_)
      refine k_bipush C (90 : Int32) dX6_isGiving_66 (by decide) rfl ?_
      refine k_icmp_ge C 75 dX6_isGiving_68 rfl rfl (fun b7 => ?_) (fun b7 => ?_)
      · replace hf := kf_t hf b7
        refine k_iconst C (0 : Int32) dX6_isGiving_75 (by decide) rfl ?_
        exact k_zret C K hf rfl dX6_isGiving_76
      · replace hf := kf_f hf b7
        refine k_iconst C (1 : Int32) dX6_isGiving_71 (by decide) rfl ?_
        refine k_goto C 76 dX6_isGiving_72 rfl ?_
        exact k_zret C K hf rfl dX6_isGiving_76
  · replace hf := kf_f hf b3
    by_cases b8 : q1.1 = (2 : Int32)
    · replace hf := kf_t hf b8
      refine k_tabIn C 118 dX6_isGiving_21 (by rw [b8]; decide) (by rw [b8]; decide) (by rw [b8]; rfl) rfl ?_
      refine k_iload_n C 0 dX6_isGiving_118 rfl rfl rfl ?_
      obtain ⟨g0, hf⟩ := kf_y hf
      exact k_zret C K hf (kb_n g0) dX6_isGiving_119
    · replace hf := kf_f hf b8
      by_cases b9 : q1.1 = (3 : Int32)
      · replace hf := kf_t hf b9
        refine k_tabIn C 97 dX6_isGiving_21 (by rw [b9]; decide) (by rw [b9]; decide) (by rw [b9]; rfl) rfl ?_
        refine k_iload_n C 0 dX6_isGiving_97 rfl rfl rfl ?_
        refine k_if_ne C 112 dX6_isGiving_98 rfl rfl (fun b10 => ?_) (fun b10 => ?_)
        · replace hf := kf_f hf b10
          refine k_iconst C (1 : Int32) dX6_isGiving_112 (by decide) rfl ?_
          refine k_goto C 117 dX6_isGiving_113 rfl ?_
          exact k_zret C K hf rfl dX6_isGiving_117
        · replace hf := kf_t hf b10
          refine k_aload_n C 1 dX6_isGiving_101 rfl rfl rfl ?_
          refine k_iload_n C 2 dX6_isGiving_102 rfl rfl rfl ?_
          refine k_iconst C (2 : Int32) dX6_isGiving_103 (by decide) rfl ?_
          obtain ⟨q11, e12, hf⟩ := kf_b hf
          refine k_callV C [.int x1, .int (2 : Int32)] (mX6_its e12) rfl (by decide) rfl kw_4_95 kw_4_97 kw_0_27 kw_1_7 kw_4_98 qX6_its rfl ⟨by decide, by decide⟩ ⟨rfl, rfl⟩ (Nat.le_of_ble_eq_true rfl) dX6_isGiving_104 rfl ?_ rfl
          refine (show kV Z 4 107 [(3, .int y0), (0, kr Z 59), (1, .int x1)] [.int q11.1] q11.2 from ?_)
          refine k_bipush C (99 : Int32) dX6_isGiving_107 (by decide) rfl ?_
          refine k_icmp_ne C 116 dX6_isGiving_109 rfl rfl (fun b13 => ?_) (fun b13 => ?_)
          · replace hf := kf_f hf b13
            refine k_iconst C (0 : Int32) dX6_isGiving_116 (by decide) rfl ?_
            exact k_zret C K hf rfl dX6_isGiving_117
          · replace hf := kf_t hf b13
            refine k_iconst C (1 : Int32) dX6_isGiving_112 (by decide) rfl ?_
            refine k_goto C 117 dX6_isGiving_113 rfl ?_
            exact k_zret C K hf rfl dX6_isGiving_117
      · replace hf := kf_f hf b9
        by_cases b14 : q1.1 = (4 : Int32)
        · replace hf := kf_t hf b14
          refine k_tabIn C 56 dX6_isGiving_21 (by rw [b14]; decide) (by rw [b14]; decide) (by rw [b14]; rfl) rfl ?_
          refine k_iload_n C 0 dX6_isGiving_56 rfl rfl rfl ?_
          refine k_if_eq C 75 dX6_isGiving_57 rfl rfl (fun b15 => ?_) (fun b15 => ?_)
          · replace hf := kf_t hf b15
            refine k_iconst C (0 : Int32) dX6_isGiving_75 (by decide) rfl ?_
            exact k_zret C K hf rfl dX6_isGiving_76
          · replace hf := kf_f hf b15
            refine k_aload_n C 1 dX6_isGiving_60 rfl rfl rfl ?_
            refine k_iload_n C 2 dX6_isGiving_61 rfl rfl rfl ?_
            refine k_iconst C (2 : Int32) dX6_isGiving_62 (by decide) rfl ?_
            obtain ⟨q16, e17, hf⟩ := kf_b hf
            refine k_callV C [.int x1, .int (2 : Int32)] (mX6_its e17) rfl (by decide) rfl kw_4_95 kw_4_97 kw_0_27 kw_1_7 kw_4_98 qX6_its rfl ⟨by decide, by decide⟩ ⟨rfl, rfl⟩ (Nat.le_of_ble_eq_true rfl) dX6_isGiving_63 rfl ?_ rfl
            refine (show kV Z 4 66 [(3, .int y0), (0, kr Z 59), (1, .int x1)] [.int q16.1] q16.2 from ?_)
            refine k_bipush C (90 : Int32) dX6_isGiving_66 (by decide) rfl ?_
            refine k_icmp_ge C 75 dX6_isGiving_68 rfl rfl (fun b18 => ?_) (fun b18 => ?_)
            · replace hf := kf_t hf b18
              refine k_iconst C (0 : Int32) dX6_isGiving_75 (by decide) rfl ?_
              exact k_zret C K hf rfl dX6_isGiving_76
            · replace hf := kf_f hf b18
              refine k_iconst C (1 : Int32) dX6_isGiving_71 (by decide) rfl ?_
              refine k_goto C 76 dX6_isGiving_72 rfl ?_
              exact k_zret C K hf rfl dX6_isGiving_76
        · replace hf := kf_f hf b14
          by_cases b19 : q1.1 = (5 : Int32)
          · replace hf := kf_t hf b19
            refine k_tabIn C 77 dX6_isGiving_21 (by rw [b19]; decide) (by rw [b19]; decide) (by rw [b19]; rfl) rfl ?_
            refine k_iload_n C 0 dX6_isGiving_77 rfl rfl rfl ?_
            refine k_if_eq C 95 dX6_isGiving_78 rfl rfl (fun b20 => ?_) (fun b20 => ?_)
            · replace hf := kf_t hf b20
              refine k_iconst C (0 : Int32) dX6_isGiving_95 (by decide) rfl ?_
              exact k_zret C K hf rfl dX6_isGiving_96
            · replace hf := kf_f hf b20
              refine k_aload_n C 1 dX6_isGiving_81 rfl rfl rfl ?_
              refine k_iload_n C 2 dX6_isGiving_82 rfl rfl rfl ?_
              refine k_iconst C (4 : Int32) dX6_isGiving_83 (by decide) rfl ?_
              obtain ⟨q21, e22, hf⟩ := kf_b hf
              refine k_callV C [.int x1, .int (4 : Int32)] (mX6_its e22) rfl (by decide) rfl kw_4_95 kw_4_97 kw_0_27 kw_1_7 kw_4_98 qX6_its rfl ⟨by decide, by decide⟩ ⟨rfl, rfl⟩ (Nat.le_of_ble_eq_true rfl) dX6_isGiving_84 rfl ?_ rfl
              refine (show kV Z 4 87 [(3, .int y0), (0, kr Z 59), (1, .int x1)] [.int q21.1] q21.2 from ?_)
              refine k_iconst C (3 : Int32) dX6_isGiving_87 (by decide) rfl ?_
              refine k_icmp_lt C 95 dX6_isGiving_88 rfl rfl (fun b23 => ?_) (fun b23 => ?_)
              · replace hf := kf_t hf b23
                refine k_iconst C (0 : Int32) dX6_isGiving_95 (by decide) rfl ?_
                exact k_zret C K hf rfl dX6_isGiving_96
              · replace hf := kf_f hf b23
                refine k_iconst C (1 : Int32) dX6_isGiving_91 (by decide) rfl ?_
                refine k_goto C 96 dX6_isGiving_92 rfl ?_
                exact k_zret C K hf rfl dX6_isGiving_96
          · replace hf := kf_f hf b19
            have zb3 := ti_ne (1 : Int32) b3 (z := 1) rfl
            have zb8 := ti_ne (2 : Int32) b8 (z := 2) rfl
            have zb9 := ti_ne (3 : Int32) b9 (z := 3) rfl
            have zb14 := ti_ne (4 : Int32) b14 (z := 4) rfl
            have zb19 := ti_ne (5 : Int32) b19 (z := 5) rfl
            refine k_tabOut C 118 dX6_isGiving_21 (by omega) rfl ?_
            refine k_iload_n C 0 dX6_isGiving_118 rfl rfl rfl ?_
            obtain ⟨g0, hf⟩ := kf_y hf
            exact k_zret C K hf (kb_n g0) dX6_isGiving_119
set_option maxRecDepth 100000 in
theorem tX6_isGiving {Z : kZ} (C : kC Z cX6_isGiving RX6 4 rmX6_isGiving) {v1 : Int32} {v2 : Int32}  {st : kM} {res : Int32 × kM} (hf : fX6_isGiving v1 v2 st = some res) (K : kEnd Z (some .boolean) (some (.int res.1)) res.2) : kV Z 4 0 [(0, kr Z 59), (1, .int v1), (2, .int v2)] [] st := by
  unfold fX6_isGiving at hf
  refine k_iload_n C 2 dX6_isGiving_0 rfl rfl rfl ?_
  refine k_aload_n C 0 dX6_isGiving_1 rfl rfl rfl ?_
  refine k_iload_n C 1 dX6_isGiving_2 rfl rfl rfl ?_
  obtain ⟨q1, e2, hf⟩ := kf_b hf
  refine k_callV C [.int v1] (mX6_holding e2) rfl (by decide) rfl kw_4_114 kw_4_116 kw_0_31 kw_1_7 kw_4_117 qX6_holding rfl ⟨by decide, by decide⟩ ⟨rfl, rfl⟩ (Nat.le_of_ble_eq_true rfl) dX6_isGiving_3 rfl ?_ rfl
  refine (show kV Z 4 6 [(0, kr Z 59), (1, .int v1), (2, .int v2)] [.int q1.1, .int v2] q1.2 from ?_)
  refine k_icmp_le C 13 dX6_isGiving_6 rfl rfl (fun b3 => ?_) (fun b3 => ?_)
  · replace hf := kf_t hf b3
    refine k_iconst C (0 : Int32) dX6_isGiving_13 (by decide) rfl ?_
    refine k_lv (lv' := [(0, kr Z 59), (1, .int v1)]) [0, 1] rfl ?_
    exact tX6_isGiving_14 C K v1 (0 : Int32) q1.2 hf
  · replace hf := kf_f hf b3
    refine k_iconst C (1 : Int32) dX6_isGiving_9 (by decide) rfl ?_
    refine k_goto C 14 dX6_isGiving_10 rfl ?_
    refine k_lv (lv' := [(0, kr Z 59), (1, .int v1)]) [0, 1] rfl ?_
    exact tX6_isGiving_14 C K v1 (1 : Int32) q1.2 hf
theorem mX6_isGiving {G : kG} {v1 : Int32} {v2 : Int32}  {st : kM} {res : Int32 × kM} (hf : fX6_isGiving v1 v2 st = some res) : kCt G yX6_isGiving cX6_isGiving 4 (some .boolean) rmX6_isGiving [.ref (G.2.1 59), .int v1, .int v2] st (some (.int res.1)) res.2 := kMet (by decide) (Nat.le_of_ble_eq_true rfl) ⟨rfl, rfl⟩ (fun X A Q C K => tX6_isGiving C  hf K)
theorem qX6_isGiving : yX6_isGiving.cls = RX6 ∧ yX6_isGiving.cls ≠ "java/lang/invoke/MethodHandle" ∧ yX6_isGiving.cls ≠ "java/lang/invoke/VarHandle" ∧ (parseMethodDescriptor yX6_isGiving.desc).map (fun d => d.parameters.length) = some 2 := ⟨rfl, by decide, by decide, by decide +kernel⟩
-- TalkKnotsModel.wind(II)I
def rmX6_wind : Room := { frames := 1, cells := 0, slots := 0, locals := 23 }
def fX6_wind (v1 : Int32) (v2 : Int32) (st : kM) : Option (Int32 × kM) :=
  (fX6_in v1 (0 : Int32) (11 : Int32) st).bind fun q1 => (if q1.1 = 0 then ((fX6_finds (-1000000001 : Int32) q1.2).bind fun q4 => (some (q4.1, q4.2))) else ((fX6_in v2 (0 : Int32) (99 : Int32) q1.2).bind fun q6 => (if q6.1 = 0 then ((fX6_finds (-1000000001 : Int32) q6.2).bind fun q9 => (some (q9.1, q9.2))) else ((fX6_becomes ((2 : Int32) + v1) v2 q6.2).bind fun q11 => (some (q11.1, q11.2))))))
set_option maxRecDepth 100000 in
theorem tX6_wind {Z : kZ} (C : kC Z cX6_wind RX6 3 rmX6_wind) {v1 : Int32} {v2 : Int32}  {st : kM} {res : Int32 × kM} (hf : fX6_wind v1 v2 st = some res) (K : kEnd Z (some .int) (some (.int res.1)) res.2) : kV Z 3 0 [(0, kr Z 59), (1, .int v1), (2, .int v2)] [] st := by
  unfold fX6_wind at hf
  refine k_iload_n C 1 dX6_wind_0 rfl rfl rfl ?_
  refine k_iconst C (0 : Int32) dX6_wind_1 (by decide) rfl ?_
  refine k_bipush C (11 : Int32) dX6_wind_2 (by decide) rfl ?_
  obtain ⟨q1, e2, hf⟩ := kf_b hf
  refine k_callS C [.int v1, .int (0 : Int32), .int (11 : Int32)] (mX6_in e2) kw_4_60 kw_4_61 kw_1_7 kw_4_62 qX6_in rfl ⟨by decide, by decide⟩ ⟨rfl, rfl⟩ (Nat.le_of_ble_eq_true rfl) dX6_wind_4 rfl ?_ rfl
  refine (show kV Z 3 7 [(0, kr Z 59), (1, .int v1), (2, .int v2)] [.int q1.1] q1.2 from ?_)
  refine k_if_eq C 31 dX6_wind_7 rfl rfl (fun b3 => ?_) (fun b3 => ?_)
  · replace hf := kf_t hf b3
    refine k_aload_n C 0 dX6_wind_31 rfl rfl rfl ?_
    refine k_ldc C (-1000000001 : Int32) kw_4_67 dX6_wind_32 rfl ?_
    obtain ⟨q4, e5, hf⟩ := kf_b hf
    refine k_callV C [.int (-1000000001 : Int32)] (mX6_finds e5) rfl (by decide) rfl kw_4_68 kw_4_70 kw_0_24 kw_1_7 kw_4_71 qX6_finds rfl ⟨by decide, by decide⟩ ⟨rfl, rfl⟩ (Nat.le_of_ble_eq_true rfl) dX6_wind_34 rfl ?_ rfl
    refine (show kV Z 3 37 [(0, kr Z 59), (1, .int v1), (2, .int v2)] [.int q4.1] q4.2 from ?_)
    exact k_iret C K hf dX6_wind_37
  · replace hf := kf_f hf b3
    refine k_iload_n C 2 dX6_wind_10 rfl rfl rfl ?_
    refine k_iconst C (0 : Int32) dX6_wind_11 (by decide) rfl ?_
    refine k_bipush C (99 : Int32) dX6_wind_12 (by decide) rfl ?_
    obtain ⟨q6, e7, hf⟩ := kf_b hf
    refine k_callS C [.int v2, .int (0 : Int32), .int (99 : Int32)] (mX6_in e7) kw_4_60 kw_4_61 kw_1_7 kw_4_62 qX6_in rfl ⟨by decide, by decide⟩ ⟨rfl, rfl⟩ (Nat.le_of_ble_eq_true rfl) dX6_wind_14 rfl ?_ rfl
    refine (show kV Z 3 17 [(0, kr Z 59), (1, .int v1), (2, .int v2)] [.int q6.1] q6.2 from ?_)
    refine k_if_eq C 31 dX6_wind_17 rfl rfl (fun b8 => ?_) (fun b8 => ?_)
    · replace hf := kf_t hf b8
      refine k_aload_n C 0 dX6_wind_31 rfl rfl rfl ?_
      refine k_ldc C (-1000000001 : Int32) kw_4_67 dX6_wind_32 rfl ?_
      obtain ⟨q9, e10, hf⟩ := kf_b hf
      refine k_callV C [.int (-1000000001 : Int32)] (mX6_finds e10) rfl (by decide) rfl kw_4_68 kw_4_70 kw_0_24 kw_1_7 kw_4_71 qX6_finds rfl ⟨by decide, by decide⟩ ⟨rfl, rfl⟩ (Nat.le_of_ble_eq_true rfl) dX6_wind_34 rfl ?_ rfl
      refine (show kV Z 3 37 [(0, kr Z 59), (1, .int v1), (2, .int v2)] [.int q9.1] q9.2 from ?_)
      exact k_iret C K hf dX6_wind_37
    · replace hf := kf_f hf b8
      refine k_aload_n C 0 dX6_wind_20 rfl rfl rfl ?_
      refine k_iconst C (2 : Int32) dX6_wind_21 (by decide) rfl ?_
      refine k_iload_n C 1 dX6_wind_22 rfl rfl rfl ?_
      refine k_iadd C dX6_wind_23 rfl ?_
      refine k_iload_n C 2 dX6_wind_24 rfl rfl rfl ?_
      obtain ⟨q11, e12, hf⟩ := kf_b hf
      refine k_callV C [.int ((2 : Int32) + v1), .int v2] (mX6_becomes e12) rfl (by decide) rfl kw_4_63 kw_4_65 kw_0_23 kw_1_7 kw_4_66 qX6_becomes rfl ⟨by decide, by decide⟩ ⟨rfl, rfl⟩ (Nat.le_of_ble_eq_true rfl) dX6_wind_25 rfl ?_ rfl
      refine (show kV Z 3 28 [(0, kr Z 59), (1, .int v1), (2, .int v2)] [.int q11.1] q11.2 from ?_)
      refine k_goto C 37 dX6_wind_28 rfl ?_
      exact k_iret C K hf dX6_wind_37
theorem mX6_wind {G : kG} {v1 : Int32} {v2 : Int32}  {st : kM} {res : Int32 × kM} (hf : fX6_wind v1 v2 st = some res) : kCt G yX6_wind cX6_wind 3 (some .int) rmX6_wind [.ref (G.2.1 59), .int v1, .int v2] st (some (.int res.1)) res.2 := kMet (by decide) (Nat.le_of_ble_eq_true rfl) ⟨rfl, rfl⟩ (fun X A Q C K => tX6_wind C  hf K)
theorem qX6_wind : yX6_wind.cls = RX6 ∧ yX6_wind.cls ≠ "java/lang/invoke/MethodHandle" ∧ yX6_wind.cls ≠ "java/lang/invoke/VarHandle" ∧ (parseMethodDescriptor yX6_wind.desc).map (fun d => d.parameters.length) = some 2 := ⟨rfl, by decide, by decide, by decide +kernel⟩
-- TalkKnotsModel.weight(II)I
def rmX6_weight : Room := { frames := 2, cells := 0, slots := 0, locals := 42 }
def fX6_weight (v1 : Int32) (v2 : Int32) (st : kM) : Option (Int32 × kM) :=
  (fX6_isMast v1 st).bind fun q1 => (if q1.1 = 0 then ((fX6_finds (-1000000001 : Int32) q1.2).bind fun q4 => (some (q4.1, q4.2))) else ((fX6_in v2 (0 : Int32) (999 : Int32) q1.2).bind fun q6 => (if q6.1 = 0 then ((fX6_finds (-1000000001 : Int32) q6.2).bind fun q9 => (some (q9.1, q9.2))) else ((fX6_becomes ((14 : Int32) + ((2 : Int32) * v1)) v2 q6.2).bind fun q11 => (some (q11.1, q11.2))))))
set_option maxRecDepth 100000 in
theorem tX6_weight {Z : kZ} (C : kC Z cX6_weight RX6 3 rmX6_weight) {v1 : Int32} {v2 : Int32}  {st : kM} {res : Int32 × kM} (hf : fX6_weight v1 v2 st = some res) (K : kEnd Z (some .int) (some (.int res.1)) res.2) : kV Z 3 0 [(0, kr Z 59), (1, .int v1), (2, .int v2)] [] st := by
  unfold fX6_weight at hf
  refine k_iload_n C 1 dX6_weight_0 rfl rfl rfl ?_
  obtain ⟨q1, e2, hf⟩ := kf_b hf
  refine k_callS C [.int v1] (mX6_isMast e2) kw_4_76 kw_4_77 kw_1_7 kw_4_78 qX6_isMast rfl ⟨by decide, by decide⟩ ⟨rfl, rfl⟩ (Nat.le_of_ble_eq_true rfl) dX6_weight_1 rfl ?_ rfl
  refine (show kV Z 3 4 [(0, kr Z 59), (1, .int v1), (2, .int v2)] [.int q1.1] q1.2 from ?_)
  refine k_if_eq C 32 dX6_weight_4 rfl rfl (fun b3 => ?_) (fun b3 => ?_)
  · replace hf := kf_t hf b3
    refine k_aload_n C 0 dX6_weight_32 rfl rfl rfl ?_
    refine k_ldc C (-1000000001 : Int32) kw_4_67 dX6_weight_33 rfl ?_
    obtain ⟨q4, e5, hf⟩ := kf_b hf
    refine k_callV C [.int (-1000000001 : Int32)] (mX6_finds e5) rfl (by decide) rfl kw_4_68 kw_4_70 kw_0_24 kw_1_7 kw_4_71 qX6_finds rfl ⟨by decide, by decide⟩ ⟨rfl, rfl⟩ (Nat.le_of_ble_eq_true rfl) dX6_weight_35 rfl ?_ rfl
    refine (show kV Z 3 38 [(0, kr Z 59), (1, .int v1), (2, .int v2)] [.int q4.1] q4.2 from ?_)
    exact k_iret C K hf dX6_weight_38
  · replace hf := kf_f hf b3
    refine k_iload_n C 2 dX6_weight_7 rfl rfl rfl ?_
    refine k_iconst C (0 : Int32) dX6_weight_8 (by decide) rfl ?_
    refine k_sipush C (999 : Int32) dX6_weight_9 (by decide) rfl ?_
    obtain ⟨q6, e7, hf⟩ := kf_b hf
    refine k_callS C [.int v2, .int (0 : Int32), .int (999 : Int32)] (mX6_in e7) kw_4_60 kw_4_61 kw_1_7 kw_4_62 qX6_in rfl ⟨by decide, by decide⟩ ⟨rfl, rfl⟩ (Nat.le_of_ble_eq_true rfl) dX6_weight_12 rfl ?_ rfl
    refine (show kV Z 3 15 [(0, kr Z 59), (1, .int v1), (2, .int v2)] [.int q6.1] q6.2 from ?_)
    refine k_if_eq C 32 dX6_weight_15 rfl rfl (fun b8 => ?_) (fun b8 => ?_)
    · replace hf := kf_t hf b8
      refine k_aload_n C 0 dX6_weight_32 rfl rfl rfl ?_
      refine k_ldc C (-1000000001 : Int32) kw_4_67 dX6_weight_33 rfl ?_
      obtain ⟨q9, e10, hf⟩ := kf_b hf
      refine k_callV C [.int (-1000000001 : Int32)] (mX6_finds e10) rfl (by decide) rfl kw_4_68 kw_4_70 kw_0_24 kw_1_7 kw_4_71 qX6_finds rfl ⟨by decide, by decide⟩ ⟨rfl, rfl⟩ (Nat.le_of_ble_eq_true rfl) dX6_weight_35 rfl ?_ rfl
      refine (show kV Z 3 38 [(0, kr Z 59), (1, .int v1), (2, .int v2)] [.int q9.1] q9.2 from ?_)
      exact k_iret C K hf dX6_weight_38
    · replace hf := kf_f hf b8
      refine k_aload_n C 0 dX6_weight_18 rfl rfl rfl ?_
      refine k_bipush C (14 : Int32) dX6_weight_19 (by decide) rfl ?_
      refine k_iconst C (2 : Int32) dX6_weight_21 (by decide) rfl ?_
      refine k_iload_n C 1 dX6_weight_22 rfl rfl rfl ?_
      refine k_imul C dX6_weight_23 rfl ?_
      refine k_iadd C dX6_weight_24 rfl ?_
      refine k_iload_n C 2 dX6_weight_25 rfl rfl rfl ?_
      obtain ⟨q11, e12, hf⟩ := kf_b hf
      refine k_callV C [.int ((14 : Int32) + ((2 : Int32) * v1)), .int v2] (mX6_becomes e12) rfl (by decide) rfl kw_4_63 kw_4_65 kw_0_23 kw_1_7 kw_4_66 qX6_becomes rfl ⟨by decide, by decide⟩ ⟨rfl, rfl⟩ (Nat.le_of_ble_eq_true rfl) dX6_weight_26 rfl ?_ rfl
      refine (show kV Z 3 29 [(0, kr Z 59), (1, .int v1), (2, .int v2)] [.int q11.1] q11.2 from ?_)
      refine k_goto C 38 dX6_weight_29 rfl ?_
      exact k_iret C K hf dX6_weight_38
theorem mX6_weight {G : kG} {v1 : Int32} {v2 : Int32}  {st : kM} {res : Int32 × kM} (hf : fX6_weight v1 v2 st = some res) : kCt G yX6_weight cX6_weight 3 (some .int) rmX6_weight [.ref (G.2.1 59), .int v1, .int v2] st (some (.int res.1)) res.2 := kMet (by decide) (Nat.le_of_ble_eq_true rfl) ⟨rfl, rfl⟩ (fun X A Q C K => tX6_weight C  hf K)
theorem qX6_weight : yX6_weight.cls = RX6 ∧ yX6_weight.cls ≠ "java/lang/invoke/MethodHandle" ∧ yX6_weight.cls ≠ "java/lang/invoke/VarHandle" ∧ (parseMethodDescriptor yX6_weight.desc).map (fun d => d.parameters.length) = some 2 := ⟨rfl, by decide, by decide, by decide +kernel⟩
-- TalkKnotsModel.raise(I)I
def rmX6_raise : Room := { frames := 2, cells := 0, slots := 0, locals := 42 }
def fX6_raise (v1 : Int32) (st : kM) : Option (Int32 × kM) :=
  (fX6_isMast v1 st).bind fun q1 => (if q1.1 = 0 then ((fX6_finds (-1000000001 : Int32) q1.2).bind fun q4 => (some (q4.1, q4.2))) else ((fX6_becomes (((14 : Int32) + ((2 : Int32) * v1)) + (1 : Int32)) (1 : Int32) q1.2).bind fun q6 => (some (((1 : Int32) - q6.1), q6.2))))
set_option maxRecDepth 100000 in
theorem tX6_raise {Z : kZ} (C : kC Z cX6_raise RX6 2 rmX6_raise) {v1 : Int32}  {st : kM} {res : Int32 × kM} (hf : fX6_raise v1 st = some res) (K : kEnd Z (some .int) (some (.int res.1)) res.2) : kV Z 2 0 [(0, kr Z 59), (1, .int v1)] [] st := by
  unfold fX6_raise at hf
  refine k_iload_n C 1 dX6_raise_0 rfl rfl rfl ?_
  obtain ⟨q1, e2, hf⟩ := kf_b hf
  refine k_callS C [.int v1] (mX6_isMast e2) kw_4_76 kw_4_77 kw_1_7 kw_4_78 qX6_isMast rfl ⟨by decide, by decide⟩ ⟨rfl, rfl⟩ (Nat.le_of_ble_eq_true rfl) dX6_raise_1 rfl ?_ rfl
  refine (show kV Z 2 4 [(0, kr Z 59), (1, .int v1)] [.int q1.1] q1.2 from ?_)
  refine k_if_eq C 25 dX6_raise_4 rfl rfl (fun b3 => ?_) (fun b3 => ?_)
  · replace hf := kf_t hf b3
    refine k_aload_n C 0 dX6_raise_25 rfl rfl rfl ?_
    refine k_ldc C (-1000000001 : Int32) kw_4_67 dX6_raise_26 rfl ?_
    obtain ⟨q4, e5, hf⟩ := kf_b hf
    refine k_callV C [.int (-1000000001 : Int32)] (mX6_finds e5) rfl (by decide) rfl kw_4_68 kw_4_70 kw_0_24 kw_1_7 kw_4_71 qX6_finds rfl ⟨by decide, by decide⟩ ⟨rfl, rfl⟩ (Nat.le_of_ble_eq_true rfl) dX6_raise_28 rfl ?_ rfl
    refine (show kV Z 2 31 [(0, kr Z 59), (1, .int v1)] [.int q4.1] q4.2 from ?_)
    exact k_iret C K hf dX6_raise_31
  · replace hf := kf_f hf b3
    refine k_iconst C (1 : Int32) dX6_raise_7 (by decide) rfl ?_
    refine k_aload_n C 0 dX6_raise_8 rfl rfl rfl ?_
    refine k_bipush C (14 : Int32) dX6_raise_9 (by decide) rfl ?_
    refine k_iconst C (2 : Int32) dX6_raise_11 (by decide) rfl ?_
    refine k_iload_n C 1 dX6_raise_12 rfl rfl rfl ?_
    refine k_imul C dX6_raise_13 rfl ?_
    refine k_iadd C dX6_raise_14 rfl ?_
    refine k_iconst C (1 : Int32) dX6_raise_15 (by decide) rfl ?_
    refine k_iadd C dX6_raise_16 rfl ?_
    refine k_iconst C (1 : Int32) dX6_raise_17 (by decide) rfl ?_
    obtain ⟨q6, e7, hf⟩ := kf_b hf
    refine k_callV C [.int (((14 : Int32) + ((2 : Int32) * v1)) + (1 : Int32)), .int (1 : Int32)] (mX6_becomes e7) rfl (by decide) rfl kw_4_63 kw_4_65 kw_0_23 kw_1_7 kw_4_66 qX6_becomes rfl ⟨by decide, by decide⟩ ⟨rfl, rfl⟩ (Nat.le_of_ble_eq_true rfl) dX6_raise_18 rfl ?_ rfl
    refine (show kV Z 2 21 [(0, kr Z 59), (1, .int v1)] [.int q6.1, .int (1 : Int32)] q6.2 from ?_)
    refine k_isub C dX6_raise_21 rfl ?_
    refine k_goto C 31 dX6_raise_22 rfl ?_
    exact k_iret C K hf dX6_raise_31
theorem mX6_raise {G : kG} {v1 : Int32}  {st : kM} {res : Int32 × kM} (hf : fX6_raise v1 st = some res) : kCt G yX6_raise cX6_raise 2 (some .int) rmX6_raise [.ref (G.2.1 59), .int v1] st (some (.int res.1)) res.2 := kMet (by decide) (Nat.le_of_ble_eq_true rfl) ⟨rfl, rfl⟩ (fun X A Q C K => tX6_raise C  hf K)
theorem qX6_raise : yX6_raise.cls = RX6 ∧ yX6_raise.cls ≠ "java/lang/invoke/MethodHandle" ∧ yX6_raise.cls ≠ "java/lang/invoke/VarHandle" ∧ (parseMethodDescriptor yX6_raise.desc).map (fun d => d.parameters.length) = some 1 := ⟨rfl, by decide, by decide, by decide +kernel⟩
-- TalkKnotsModel.heldOf(I)I
def rmX6_heldOf : Room := { frames := 3, cells := 0, slots := 0, locals := 70 }
def fX6_heldOf_4 : Nat → Int32 → Int32 → Int32 → kM → Option (Int32 × kM)
  | 0, _, _, _, _ => none
  | n + 1, x1, x2, x3, st =>
    if (st.1 60 1) ≤ x3 then (some (x2, st)) else ((fX6_its x3 (1 : Int32) st).bind fun q2 => (if q2.1 = x1 then ((fX6_holding x3 q2.2).bind fun q7 => ((some (x2 + q7.1)).bind fun z9 => (fX6_heldOf_4 n x1 z9 (x3 + (1 : Int32)) q7.2))) else ((some (x2 + (0 : Int32))).bind fun z5 => (fX6_heldOf_4 n x1 z5 (x3 + (1 : Int32)) q2.2))))
def fX6_heldOf (v1 : Int32) (st : kM) : Option (Int32 × kM) :=
  fX6_heldOf_4 kfu v1 (0 : Int32) (0 : Int32) st
set_option maxRecDepth 100000 in
theorem tX6_heldOf_4 {Z : kZ} (C : kC Z cX6_heldOf RX6 4 rmX6_heldOf) {res : Int32 × kM} (K : kEnd Z (some .int) (some (.int res.1)) res.2) : ∀ (n : Nat) (x1 : Int32) (x2 : Int32) (x3 : Int32) (st : kM), fX6_heldOf_4 n x1 x2 x3 st = some res → kV Z 4 4 [(0, kr Z 59), (1, .int x1), (2, .int x2), (3, .int x3)] [] st := by
  intro n
  induction n with
  | zero => intro x1 x2 x3 st hf; cases hf
  | succ n ih =>
    intro x1 x2 x3 st hf
    unfold fX6_heldOf_4 at hf
    refine k_iload_n C 3 dX6_heldOf_4 rfl rfl rfl ?_
    refine k_aload_n C 0 dX6_heldOf_5 rfl rfl rfl ?_
    refine g_X6_row C rfl kw_3_238 dX6_heldOf_6 rfl ?_
    refine k_iconst C (1 : Int32) dX6_heldOf_9 (by decide) rfl ?_
    refine k_iald (j := 1) C ⟨rfl, rfl⟩ (by decide) rfl dX6_heldOf_10 rfl ?_
    refine k_icmp_ge C 42 dX6_heldOf_11 rfl rfl (fun b1 => ?_) (fun b1 => ?_)
    · replace hf := kf_t hf b1
      refine k_iload_n C 2 dX6_heldOf_42 rfl rfl rfl ?_
      exact k_iret C K hf dX6_heldOf_43
    · replace hf := kf_f hf b1
      refine k_iload_n C 2 dX6_heldOf_14 rfl rfl rfl ?_
      refine k_aload_n C 0 dX6_heldOf_15 rfl rfl rfl ?_
      refine k_iload_n C 3 dX6_heldOf_16 rfl rfl rfl ?_
      refine k_iconst C (1 : Int32) dX6_heldOf_17 (by decide) rfl ?_
      obtain ⟨q2, e3, hf⟩ := kf_b hf
      refine k_callV C [.int x3, .int (1 : Int32)] (mX6_its e3) rfl (by decide) rfl kw_4_95 kw_4_97 kw_0_27 kw_1_7 kw_4_98 qX6_its rfl ⟨by decide, by decide⟩ ⟨rfl, rfl⟩ (Nat.le_of_ble_eq_true rfl) dX6_heldOf_18 rfl ?_ rfl
      refine (show kV Z 4 21 [(0, kr Z 59), (1, .int x1), (2, .int x2), (3, .int x3)] [.int q2.1, .int x2] q2.2 from ?_)
      refine k_iload_n C 1 dX6_heldOf_21 rfl rfl rfl ?_
      refine k_icmp_ne C 33 dX6_heldOf_22 rfl rfl (fun b4 => ?_) (fun b4 => ?_)
      · replace hf := kf_f hf b4
        refine k_iconst C (0 : Int32) dX6_heldOf_33 (by decide) rfl ?_
        refine k_iadd C dX6_heldOf_34 rfl ?_
        obtain ⟨z5, e6, hf⟩ := kf_b hf
        refine k_topi e6 ?_
        refine k_istore_n (lv' := [(2, .int z5), (0, kr Z 59), (1, .int x1), (3, .int x3)]) C dX6_heldOf_35 rfl (by decide) rfl rfl ?_
        refine k_iinc (lv' := [(3, .int (x3 + (1 : Int32))), (2, .int z5), (0, kr Z 59), (1, .int x1)]) C (x3 + (1 : Int32)) 3 dX6_heldOf_36 rfl rfl (by decide) rfl rfl ?_
        refine k_goto C 4 dX6_heldOf_39 rfl ?_
        refine k_lv (lv' := [(0, kr Z 59), (1, .int x1), (2, .int z5), (3, .int (x3 + (1 : Int32)))]) [2, 3, 1, 0] rfl ?_
        exact ih x1 z5 (x3 + (1 : Int32)) q2.2  hf
      · replace hf := kf_t hf b4
        refine k_aload_n C 0 dX6_heldOf_25 rfl rfl rfl ?_
        refine k_iload_n C 3 dX6_heldOf_26 rfl rfl rfl ?_
        obtain ⟨q7, e8, hf⟩ := kf_b hf
        refine k_callV C [.int x3] (mX6_holding e8) rfl (by decide) rfl kw_4_114 kw_4_116 kw_0_31 kw_1_7 kw_4_117 qX6_holding rfl ⟨by decide, by decide⟩ ⟨rfl, rfl⟩ (Nat.le_of_ble_eq_true rfl) dX6_heldOf_27 rfl ?_ rfl
        refine (show kV Z 4 30 [(0, kr Z 59), (1, .int x1), (2, .int x2), (3, .int x3)] [.int q7.1, .int x2] q7.2 from ?_)
        refine k_goto C 34 dX6_heldOf_30 rfl ?_
        refine k_iadd C dX6_heldOf_34 rfl ?_
        obtain ⟨z9, e10, hf⟩ := kf_b hf
        refine k_topi e10 ?_
        refine k_istore_n (lv' := [(2, .int z9), (0, kr Z 59), (1, .int x1), (3, .int x3)]) C dX6_heldOf_35 rfl (by decide) rfl rfl ?_
        refine k_iinc (lv' := [(3, .int (x3 + (1 : Int32))), (2, .int z9), (0, kr Z 59), (1, .int x1)]) C (x3 + (1 : Int32)) 3 dX6_heldOf_36 rfl rfl (by decide) rfl rfl ?_
        refine k_goto C 4 dX6_heldOf_39 rfl ?_
        refine k_lv (lv' := [(0, kr Z 59), (1, .int x1), (2, .int z9), (3, .int (x3 + (1 : Int32)))]) [2, 3, 1, 0] rfl ?_
        exact ih x1 z9 (x3 + (1 : Int32)) q7.2  hf
set_option maxRecDepth 100000 in
theorem tX6_heldOf {Z : kZ} (C : kC Z cX6_heldOf RX6 4 rmX6_heldOf) {v1 : Int32}  {st : kM} {res : Int32 × kM} (hf : fX6_heldOf v1 st = some res) (K : kEnd Z (some .int) (some (.int res.1)) res.2) : kV Z 4 0 [(0, kr Z 59), (1, .int v1)] [] st := by
  unfold fX6_heldOf at hf
  refine k_iconst C (0 : Int32) dX6_heldOf_0 (by decide) rfl ?_
  refine k_istore_n (lv' := [(2, .int (0 : Int32)), (0, kr Z 59), (1, .int v1)]) C dX6_heldOf_1 rfl (by decide) rfl rfl ?_
  refine k_iconst C (0 : Int32) dX6_heldOf_2 (by decide) rfl ?_
  refine k_istore_n (lv' := [(3, .int (0 : Int32)), (2, .int (0 : Int32)), (0, kr Z 59), (1, .int v1)]) C dX6_heldOf_3 rfl (by decide) rfl rfl ?_
  refine k_lv (lv' := [(0, kr Z 59), (1, .int v1), (2, .int (0 : Int32)), (3, .int (0 : Int32))]) [2, 3, 1, 0] rfl ?_
  exact tX6_heldOf_4 C K _ v1 (0 : Int32) (0 : Int32) st hf
theorem mX6_heldOf {G : kG} {v1 : Int32}  {st : kM} {res : Int32 × kM} (hf : fX6_heldOf v1 st = some res) : kCt G yX6_heldOf cX6_heldOf 4 (some .int) rmX6_heldOf [.ref (G.2.1 59), .int v1] st (some (.int res.1)) res.2 := kMet (by decide) (Nat.le_of_ble_eq_true rfl) ⟨rfl, rfl⟩ (fun X A Q C K => tX6_heldOf C  hf K)
theorem qX6_heldOf : yX6_heldOf.cls = RX6 ∧ yX6_heldOf.cls ≠ "java/lang/invoke/MethodHandle" ∧ yX6_heldOf.cls ≠ "java/lang/invoke/VarHandle" ∧ (parseMethodDescriptor yX6_heldOf.desc).map (fun d => d.parameters.length) = some 1 := ⟨rfl, by decide, by decide, by decide +kernel⟩
-- TalkKnotsModel.mastOf(II)I
def rmX6_mastOf : Room := { frames := 4, cells := 0, slots := 0, locals := 93 }
def fX6_mastOf (v1 : Int32) (v2 : Int32) (st : kM) : Option (Int32 × kM) :=
  (fX6_isMast v1 st).bind fun q1 => (if q1.1 = 0 then ((fX6_finds (-1000000001 : Int32) q1.2).bind fun q24 => (some (q24.1, q24.2))) else (if v2 = (0 : Int32) then ((fX6_ofMast v1 v2 q1.2).bind fun q5 => (some (q5.1, q5.2))) else (if v2 = (1 : Int32) then ((fX6_ofMast v1 v2 q1.2).bind fun q8 => (some (q8.1, q8.2))) else (if v2 = (2 : Int32) then ((fX6_knotsOf v1 (0 : Int32) q1.2).bind fun q11 => (some (q11.1, q11.2))) else (if v2 = (3 : Int32) then ((fX6_knotsOf v1 (1 : Int32) q1.2).bind fun q14 => (some (q14.1, q14.2))) else (if v2 = (4 : Int32) then ((fX6_strain v1 q1.2).bind fun q17 => (some (q17.1, q17.2))) else (if v2 = (5 : Int32) then ((fX6_heldOf v1 q1.2).bind fun q20 => (some (q20.1, q20.2))) else ((fX6_finds (-1000000001 : Int32) q1.2).bind fun q22 => (some (q22.1, q22.2))))))))))
set_option maxRecDepth 100000 in
theorem tX6_mastOf {Z : kZ} (C : kC Z cX6_mastOf RX6 3 rmX6_mastOf) {v1 : Int32} {v2 : Int32}  {st : kM} {res : Int32 × kM} (hf : fX6_mastOf v1 v2 st = some res) (K : kEnd Z (some .int) (some (.int res.1)) res.2) : kV Z 3 0 [(0, kr Z 59), (1, .int v1), (2, .int v2)] [] st := by
  unfold fX6_mastOf at hf
  refine k_iload_n C 1 dX6_mastOf_0 rfl rfl rfl ?_
  obtain ⟨q1, e2, hf⟩ := kf_b hf
  refine k_callS C [.int v1] (mX6_isMast e2) kw_4_76 kw_4_77 kw_1_7 kw_4_78 qX6_isMast rfl ⟨by decide, by decide⟩ ⟨rfl, rfl⟩ (Nat.le_of_ble_eq_true rfl) dX6_mastOf_1 rfl ?_ rfl
  refine (show kV Z 3 4 [(0, kr Z 59), (1, .int v1), (2, .int v2)] [.int q1.1] q1.2 from ?_)
  refine k_if_ne C 14 dX6_mastOf_4 rfl rfl (fun b3 => ?_) (fun b3 => ?_)
  · replace hf := kf_f hf b3
    refine k_iload_n C 2 dX6_mastOf_14 rfl rfl rfl ?_
    by_cases b4 : v2 = (0 : Int32)
    · replace hf := kf_t hf b4
      refine k_tabIn C 52 dX6_mastOf_15 (by rw [b4]; decide) (by rw [b4]; decide) (by rw [b4]; rfl) rfl ?_
      refine k_aload_n C 0 dX6_mastOf_52 rfl rfl rfl ?_
      refine k_iload_n C 1 dX6_mastOf_53 rfl rfl rfl ?_
      refine k_iload_n C 2 dX6_mastOf_54 rfl rfl rfl ?_
      obtain ⟨q5, e6, hf⟩ := kf_b hf
      refine k_callV C [.int v1, .int v2] (mX6_ofMast e6) rfl (by decide) rfl kw_4_87 kw_4_89 kw_0_25 kw_1_7 kw_4_90 qX6_ofMast rfl ⟨by decide, by decide⟩ ⟨rfl, rfl⟩ (Nat.le_of_ble_eq_true rfl) dX6_mastOf_55 rfl ?_ rfl
      refine (show kV Z 3 58 [(0, kr Z 59), (1, .int v1), (2, .int v2)] [.int q5.1] q5.2 from ?_)
      exact k_iret C K hf dX6_mastOf_58
    · replace hf := kf_f hf b4
      by_cases b7 : v2 = (1 : Int32)
      · replace hf := kf_t hf b7
        refine k_tabIn C 52 dX6_mastOf_15 (by rw [b7]; decide) (by rw [b7]; decide) (by rw [b7]; rfl) rfl ?_
        refine k_aload_n C 0 dX6_mastOf_52 rfl rfl rfl ?_
        refine k_iload_n C 1 dX6_mastOf_53 rfl rfl rfl ?_
        refine k_iload_n C 2 dX6_mastOf_54 rfl rfl rfl ?_
        obtain ⟨q8, e9, hf⟩ := kf_b hf
        refine k_callV C [.int v1, .int v2] (mX6_ofMast e9) rfl (by decide) rfl kw_4_87 kw_4_89 kw_0_25 kw_1_7 kw_4_90 qX6_ofMast rfl ⟨by decide, by decide⟩ ⟨rfl, rfl⟩ (Nat.le_of_ble_eq_true rfl) dX6_mastOf_55 rfl ?_ rfl
        refine (show kV Z 3 58 [(0, kr Z 59), (1, .int v1), (2, .int v2)] [.int q8.1] q8.2 from ?_)
        exact k_iret C K hf dX6_mastOf_58
      · replace hf := kf_f hf b7
        by_cases b10 : v2 = (2 : Int32)
        · replace hf := kf_t hf b10
          refine k_tabIn C 59 dX6_mastOf_15 (by rw [b10]; decide) (by rw [b10]; decide) (by rw [b10]; rfl) rfl ?_
          refine k_aload_n C 0 dX6_mastOf_59 rfl rfl rfl ?_
          refine k_iload_n C 1 dX6_mastOf_60 rfl rfl rfl ?_
          refine k_iconst C (0 : Int32) dX6_mastOf_61 (by decide) rfl ?_
          obtain ⟨q11, e12, hf⟩ := kf_b hf
          refine k_callV C [.int v1, .int (0 : Int32)] (mX6_knotsOf e12) rfl (by decide) rfl kw_4_91 kw_4_93 kw_0_26 kw_1_7 kw_4_94 qX6_knotsOf rfl ⟨by decide, by decide⟩ ⟨rfl, rfl⟩ (Nat.le_of_ble_eq_true rfl) dX6_mastOf_62 rfl ?_ rfl
          refine (show kV Z 3 65 [(0, kr Z 59), (1, .int v1), (2, .int v2)] [.int q11.1] q11.2 from ?_)
          exact k_iret C K hf dX6_mastOf_65
        · replace hf := kf_f hf b10
          by_cases b13 : v2 = (3 : Int32)
          · replace hf := kf_t hf b13
            refine k_tabIn C 66 dX6_mastOf_15 (by rw [b13]; decide) (by rw [b13]; decide) (by rw [b13]; rfl) rfl ?_
            refine k_aload_n C 0 dX6_mastOf_66 rfl rfl rfl ?_
            refine k_iload_n C 1 dX6_mastOf_67 rfl rfl rfl ?_
            refine k_iconst C (1 : Int32) dX6_mastOf_68 (by decide) rfl ?_
            obtain ⟨q14, e15, hf⟩ := kf_b hf
            refine k_callV C [.int v1, .int (1 : Int32)] (mX6_knotsOf e15) rfl (by decide) rfl kw_4_91 kw_4_93 kw_0_26 kw_1_7 kw_4_94 qX6_knotsOf rfl ⟨by decide, by decide⟩ ⟨rfl, rfl⟩ (Nat.le_of_ble_eq_true rfl) dX6_mastOf_69 rfl ?_ rfl
            refine (show kV Z 3 72 [(0, kr Z 59), (1, .int v1), (2, .int v2)] [.int q14.1] q14.2 from ?_)
            exact k_iret C K hf dX6_mastOf_72
          · replace hf := kf_f hf b13
            by_cases b16 : v2 = (4 : Int32)
            · replace hf := kf_t hf b16
              refine k_tabIn C 73 dX6_mastOf_15 (by rw [b16]; decide) (by rw [b16]; decide) (by rw [b16]; rfl) rfl ?_
              refine k_aload_n C 0 dX6_mastOf_73 rfl rfl rfl ?_
              refine k_iload_n C 1 dX6_mastOf_74 rfl rfl rfl ?_
              obtain ⟨q17, e18, hf⟩ := kf_b hf
              refine k_callV C [.int v1] (mX6_strain e18) rfl (by decide) rfl kw_4_99 kw_4_101 kw_0_28 kw_1_7 kw_4_102 qX6_strain rfl ⟨by decide, by decide⟩ ⟨rfl, rfl⟩ (Nat.le_of_ble_eq_true rfl) dX6_mastOf_75 rfl ?_ rfl
              refine (show kV Z 3 78 [(0, kr Z 59), (1, .int v1), (2, .int v2)] [.int q17.1] q17.2 from ?_)
              exact k_iret C K hf dX6_mastOf_78
            · replace hf := kf_f hf b16
              by_cases b19 : v2 = (5 : Int32)
              · replace hf := kf_t hf b19
                refine k_tabIn C 79 dX6_mastOf_15 (by rw [b19]; decide) (by rw [b19]; decide) (by rw [b19]; rfl) rfl ?_
                refine k_aload_n C 0 dX6_mastOf_79 rfl rfl rfl ?_
                refine k_iload_n C 1 dX6_mastOf_80 rfl rfl rfl ?_
                obtain ⟨q20, e21, hf⟩ := kf_b hf
                refine k_callV C [.int v1] (mX6_heldOf e21) rfl (by decide) rfl kw_4_110 kw_4_112 kw_0_30 kw_1_7 kw_4_113 qX6_heldOf rfl ⟨by decide, by decide⟩ ⟨rfl, rfl⟩ (Nat.le_of_ble_eq_true rfl) dX6_mastOf_81 rfl ?_ rfl
                refine (show kV Z 3 84 [(0, kr Z 59), (1, .int v1), (2, .int v2)] [.int q20.1] q20.2 from ?_)
                exact k_iret C K hf dX6_mastOf_84
              · replace hf := kf_f hf b19
                have zb4 := ti_ne (0 : Int32) b4 (z := 0) rfl
                have zb7 := ti_ne (1 : Int32) b7 (z := 1) rfl
                have zb10 := ti_ne (2 : Int32) b10 (z := 2) rfl
                have zb13 := ti_ne (3 : Int32) b13 (z := 3) rfl
                have zb16 := ti_ne (4 : Int32) b16 (z := 4) rfl
                have zb19 := ti_ne (5 : Int32) b19 (z := 5) rfl
                refine k_tabOut C 85 dX6_mastOf_15 (by omega) rfl ?_
                refine k_aload_n C 0 dX6_mastOf_85 rfl rfl rfl ?_
                refine k_ldc C (-1000000001 : Int32) kw_4_67 dX6_mastOf_86 rfl ?_
                obtain ⟨q22, e23, hf⟩ := kf_b hf
                refine k_callV C [.int (-1000000001 : Int32)] (mX6_finds e23) rfl (by decide) rfl kw_4_68 kw_4_70 kw_0_24 kw_1_7 kw_4_71 qX6_finds rfl ⟨by decide, by decide⟩ ⟨rfl, rfl⟩ (Nat.le_of_ble_eq_true rfl) dX6_mastOf_88 rfl ?_ rfl
                refine (show kV Z 3 91 [(0, kr Z 59), (1, .int v1), (2, .int v2)] [.int q22.1] q22.2 from ?_)
                exact k_iret C K hf dX6_mastOf_91
  · replace hf := kf_t hf b3
    refine k_aload_n C 0 dX6_mastOf_7 rfl rfl rfl ?_
    refine k_ldc C (-1000000001 : Int32) kw_4_67 dX6_mastOf_8 rfl ?_
    obtain ⟨q24, e25, hf⟩ := kf_b hf
    refine k_callV C [.int (-1000000001 : Int32)] (mX6_finds e25) rfl (by decide) rfl kw_4_68 kw_4_70 kw_0_24 kw_1_7 kw_4_71 qX6_finds rfl ⟨by decide, by decide⟩ ⟨rfl, rfl⟩ (Nat.le_of_ble_eq_true rfl) dX6_mastOf_10 rfl ?_ rfl
    refine (show kV Z 3 13 [(0, kr Z 59), (1, .int v1), (2, .int v2)] [.int q24.1] q24.2 from ?_)
    exact k_iret C K hf dX6_mastOf_13
theorem mX6_mastOf {G : kG} {v1 : Int32} {v2 : Int32}  {st : kM} {res : Int32 × kM} (hf : fX6_mastOf v1 v2 st = some res) : kCt G yX6_mastOf cX6_mastOf 3 (some .int) rmX6_mastOf [.ref (G.2.1 59), .int v1, .int v2] st (some (.int res.1)) res.2 := kMet (by decide) (Nat.le_of_ble_eq_true rfl) ⟨rfl, rfl⟩ (fun X A Q C K => tX6_mastOf C  hf K)
theorem qX6_mastOf : yX6_mastOf.cls = RX6 ∧ yX6_mastOf.cls ≠ "java/lang/invoke/MethodHandle" ∧ yX6_mastOf.cls ≠ "java/lang/invoke/VarHandle" ∧ (parseMethodDescriptor yX6_mastOf.desc).map (fun d => d.parameters.length) = some 2 := ⟨rfl, by decide, by decide, by decide +kernel⟩
-- TalkKnotsModel.sumOf(I)I
def rmX6_sumOf : Room := { frames := 1, cells := 0, slots := 0, locals := 22 }
def fX6_sumOf_4 : Nat → Int32 → Int32 → Int32 → kM → Option (Int32 × kM)
  | 0, _, _, _, _ => none
  | n + 1, x1, x2, x3, st =>
    if (st.1 60 1) ≤ x3 then (some (x2, st)) else ((fX6_its x3 x1 st).bind fun q2 => ((some (x2 + q2.1)).bind fun z4 => (fX6_sumOf_4 n x1 z4 (x3 + (1 : Int32)) q2.2)))
def fX6_sumOf (v1 : Int32) (st : kM) : Option (Int32 × kM) :=
  fX6_sumOf_4 kfu v1 (0 : Int32) (0 : Int32) st
set_option maxRecDepth 100000 in
theorem tX6_sumOf_4 {Z : kZ} (C : kC Z cX6_sumOf RX6 4 rmX6_sumOf) {res : Int32 × kM} (K : kEnd Z (some .int) (some (.int res.1)) res.2) : ∀ (n : Nat) (x1 : Int32) (x2 : Int32) (x3 : Int32) (st : kM), fX6_sumOf_4 n x1 x2 x3 st = some res → kV Z 4 4 [(0, kr Z 59), (1, .int x1), (2, .int x2), (3, .int x3)] [] st := by
  intro n
  induction n with
  | zero => intro x1 x2 x3 st hf; cases hf
  | succ n ih =>
    intro x1 x2 x3 st hf
    unfold fX6_sumOf_4 at hf
    refine k_iload_n C 3 dX6_sumOf_4 rfl rfl rfl ?_
    refine k_aload_n C 0 dX6_sumOf_5 rfl rfl rfl ?_
    refine g_X6_row C rfl kw_3_238 dX6_sumOf_6 rfl ?_
    refine k_iconst C (1 : Int32) dX6_sumOf_9 (by decide) rfl ?_
    refine k_iald (j := 1) C ⟨rfl, rfl⟩ (by decide) rfl dX6_sumOf_10 rfl ?_
    refine k_icmp_ge C 29 dX6_sumOf_11 rfl rfl (fun b1 => ?_) (fun b1 => ?_)
    · replace hf := kf_t hf b1
      refine k_iload_n C 2 dX6_sumOf_29 rfl rfl rfl ?_
      exact k_iret C K hf dX6_sumOf_30
    · replace hf := kf_f hf b1
      refine k_iload_n C 2 dX6_sumOf_14 rfl rfl rfl ?_
      refine k_aload_n C 0 dX6_sumOf_15 rfl rfl rfl ?_
      refine k_iload_n C 3 dX6_sumOf_16 rfl rfl rfl ?_
      refine k_iload_n C 1 dX6_sumOf_17 rfl rfl rfl ?_
      obtain ⟨q2, e3, hf⟩ := kf_b hf
      refine k_callV C [.int x3, .int x1] (mX6_its e3) rfl (by decide) rfl kw_4_95 kw_4_97 kw_0_27 kw_1_7 kw_4_98 qX6_its rfl ⟨by decide, by decide⟩ ⟨rfl, rfl⟩ (Nat.le_of_ble_eq_true rfl) dX6_sumOf_18 rfl ?_ rfl
      refine (show kV Z 4 21 [(0, kr Z 59), (1, .int x1), (2, .int x2), (3, .int x3)] [.int q2.1, .int x2] q2.2 from ?_)
      refine k_iadd C dX6_sumOf_21 rfl ?_
      obtain ⟨z4, e5, hf⟩ := kf_b hf
      refine k_topi e5 ?_
      refine k_istore_n (lv' := [(2, .int z4), (0, kr Z 59), (1, .int x1), (3, .int x3)]) C dX6_sumOf_22 rfl (by decide) rfl rfl ?_
      refine k_iinc (lv' := [(3, .int (x3 + (1 : Int32))), (2, .int z4), (0, kr Z 59), (1, .int x1)]) C (x3 + (1 : Int32)) 3 dX6_sumOf_23 rfl rfl (by decide) rfl rfl ?_
      refine k_goto C 4 dX6_sumOf_26 rfl ?_
      refine k_lv (lv' := [(0, kr Z 59), (1, .int x1), (2, .int z4), (3, .int (x3 + (1 : Int32)))]) [2, 3, 1, 0] rfl ?_
      exact ih x1 z4 (x3 + (1 : Int32)) q2.2  hf
set_option maxRecDepth 100000 in
theorem tX6_sumOf {Z : kZ} (C : kC Z cX6_sumOf RX6 4 rmX6_sumOf) {v1 : Int32}  {st : kM} {res : Int32 × kM} (hf : fX6_sumOf v1 st = some res) (K : kEnd Z (some .int) (some (.int res.1)) res.2) : kV Z 4 0 [(0, kr Z 59), (1, .int v1)] [] st := by
  unfold fX6_sumOf at hf
  refine k_iconst C (0 : Int32) dX6_sumOf_0 (by decide) rfl ?_
  refine k_istore_n (lv' := [(2, .int (0 : Int32)), (0, kr Z 59), (1, .int v1)]) C dX6_sumOf_1 rfl (by decide) rfl rfl ?_
  refine k_iconst C (0 : Int32) dX6_sumOf_2 (by decide) rfl ?_
  refine k_istore_n (lv' := [(3, .int (0 : Int32)), (2, .int (0 : Int32)), (0, kr Z 59), (1, .int v1)]) C dX6_sumOf_3 rfl (by decide) rfl rfl ?_
  refine k_lv (lv' := [(0, kr Z 59), (1, .int v1), (2, .int (0 : Int32)), (3, .int (0 : Int32))]) [2, 3, 1, 0] rfl ?_
  exact tX6_sumOf_4 C K _ v1 (0 : Int32) (0 : Int32) st hf
theorem mX6_sumOf {G : kG} {v1 : Int32}  {st : kM} {res : Int32 × kM} (hf : fX6_sumOf v1 st = some res) : kCt G yX6_sumOf cX6_sumOf 4 (some .int) rmX6_sumOf [.ref (G.2.1 59), .int v1] st (some (.int res.1)) res.2 := kMet (by decide) (Nat.le_of_ble_eq_true rfl) ⟨rfl, rfl⟩ (fun X A Q C K => tX6_sumOf C  hf K)
theorem qX6_sumOf : yX6_sumOf.cls = RX6 ∧ yX6_sumOf.cls ≠ "java/lang/invoke/MethodHandle" ∧ yX6_sumOf.cls ≠ "java/lang/invoke/VarHandle" ∧ (parseMethodDescriptor yX6_sumOf.desc).map (fun d => d.parameters.length) = some 1 := ⟨rfl, by decide, by decide, by decide +kernel⟩
-- TalkKnotsModel.now(I)I
def rmX6_now : Room := { frames := 2, cells := 0, slots := 0, locals := 45 }
def fX6_now (v1 : Int32) (st : kM) : Option (Int32 × kM) :=
  if v1 = (0 : Int32) then (some ((st.1 60 0), st)) else (if v1 = (1 : Int32) then (some (((st.1 60 0) - (st.1 60 0) / (12 : Int32) * (12 : Int32)), st)) else (if v1 = (2 : Int32) then ((fX6_blowing st).bind fun q4 => (some (q4.1, q4.2))) else (if v1 = (3 : Int32) then ((fX6_upSet st).bind fun q7 => (some (q7.1, q7.2))) else (if v1 = (4 : Int32) then ((fX6_fastSet st).bind fun q10 => (some (q10.1, q10.2))) else (if v1 = (5 : Int32) then ((fX6_sumOf (2 : Int32) st).bind fun q13 => (some (q13.1, q13.2))) else ((fX6_finds (-1000000001 : Int32) st).bind fun q15 => (some (q15.1, q15.2))))))))
set_option maxRecDepth 100000 in
theorem tX6_now {Z : kZ} (C : kC Z cX6_now RX6 2 rmX6_now) {v1 : Int32}  {st : kM} {res : Int32 × kM} (hf : fX6_now v1 st = some res) (K : kEnd Z (some .int) (some (.int res.1)) res.2) : kV Z 2 0 [(0, kr Z 59), (1, .int v1)] [] st := by
  unfold fX6_now at hf
  refine k_iload_n C 1 dX6_now_0 rfl rfl rfl ?_
  by_cases b1 : v1 = (0 : Int32)
  · replace hf := kf_t hf b1
    refine k_tabIn C 40 dX6_now_1 (by rw [b1]; decide) (by rw [b1]; decide) (by rw [b1]; rfl) rfl ?_
    refine k_aload_n C 0 dX6_now_40 rfl rfl rfl ?_
    refine g_X6_row C rfl kw_3_238 dX6_now_41 rfl ?_
    refine k_iconst C (0 : Int32) dX6_now_44 (by decide) rfl ?_
    refine k_iald (j := 0) C ⟨rfl, rfl⟩ (by decide) rfl dX6_now_45 rfl ?_
    exact k_iret C K hf dX6_now_46
  · replace hf := kf_f hf b1
    by_cases b2 : v1 = (1 : Int32)
    · replace hf := kf_t hf b2
      refine k_tabIn C 47 dX6_now_1 (by rw [b2]; decide) (by rw [b2]; decide) (by rw [b2]; rfl) rfl ?_
      refine k_aload_n C 0 dX6_now_47 rfl rfl rfl ?_
      refine g_X6_row C rfl kw_3_238 dX6_now_48 rfl ?_
      refine k_iconst C (0 : Int32) dX6_now_51 (by decide) rfl ?_
      refine k_iald (j := 0) C ⟨rfl, rfl⟩ (by decide) rfl dX6_now_52 rfl ?_
      refine k_bipush C (12 : Int32) dX6_now_53 (by decide) rfl ?_
      refine k_irem C (by decide) dX6_now_55 rfl ?_
      exact k_iret C K hf dX6_now_56
    · replace hf := kf_f hf b2
      by_cases b3 : v1 = (2 : Int32)
      · replace hf := kf_t hf b3
        refine k_tabIn C 57 dX6_now_1 (by rw [b3]; decide) (by rw [b3]; decide) (by rw [b3]; rfl) rfl ?_
        refine k_aload_n C 0 dX6_now_57 rfl rfl rfl ?_
        obtain ⟨q4, e5, hf⟩ := kf_b hf
        refine k_callV C [] (mX6_blowing e5) rfl (by decide) rfl kw_4_106 kw_4_108 kw_0_29 kw_1_7 kw_4_109 qX6_blowing rfl ⟨by decide, by decide⟩ ⟨rfl, rfl⟩ (Nat.le_of_ble_eq_true rfl) dX6_now_58 rfl ?_ rfl
        refine (show kV Z 2 61 [(0, kr Z 59), (1, .int v1)] [.int q4.1] q4.2 from ?_)
        exact k_iret C K hf dX6_now_61
      · replace hf := kf_f hf b3
        by_cases b6 : v1 = (3 : Int32)
        · replace hf := kf_t hf b6
          refine k_tabIn C 62 dX6_now_1 (by rw [b6]; decide) (by rw [b6]; decide) (by rw [b6]; rfl) rfl ?_
          refine k_aload_n C 0 dX6_now_62 rfl rfl rfl ?_
          obtain ⟨q7, e8, hf⟩ := kf_b hf
          refine k_callV C [] (mX6_upSet e8) rfl (by decide) rfl kw_4_125 kw_4_127 kw_0_32 kw_1_7 kw_4_128 qX6_upSet rfl ⟨by decide, by decide⟩ ⟨rfl, rfl⟩ (Nat.le_of_ble_eq_true rfl) dX6_now_63 rfl ?_ rfl
          refine (show kV Z 2 66 [(0, kr Z 59), (1, .int v1)] [.int q7.1] q7.2 from ?_)
          exact k_iret C K hf dX6_now_66
        · replace hf := kf_f hf b6
          by_cases b9 : v1 = (4 : Int32)
          · replace hf := kf_t hf b9
            refine k_tabIn C 67 dX6_now_1 (by rw [b9]; decide) (by rw [b9]; decide) (by rw [b9]; rfl) rfl ?_
            refine k_aload_n C 0 dX6_now_67 rfl rfl rfl ?_
            obtain ⟨q10, e11, hf⟩ := kf_b hf
            refine k_callV C [] (mX6_fastSet e11) rfl (by decide) rfl kw_4_129 kw_4_131 kw_0_33 kw_1_7 kw_4_132 qX6_fastSet rfl ⟨by decide, by decide⟩ ⟨rfl, rfl⟩ (Nat.le_of_ble_eq_true rfl) dX6_now_68 rfl ?_ rfl
            refine (show kV Z 2 71 [(0, kr Z 59), (1, .int v1)] [.int q10.1] q10.2 from ?_)
            exact k_iret C K hf dX6_now_71
          · replace hf := kf_f hf b9
            by_cases b12 : v1 = (5 : Int32)
            · replace hf := kf_t hf b12
              refine k_tabIn C 72 dX6_now_1 (by rw [b12]; decide) (by rw [b12]; decide) (by rw [b12]; rfl) rfl ?_
              refine k_aload_n C 0 dX6_now_72 rfl rfl rfl ?_
              refine k_iconst C (2 : Int32) dX6_now_73 (by decide) rfl ?_
              obtain ⟨q13, e14, hf⟩ := kf_b hf
              refine k_callV C [.int (2 : Int32)] (mX6_sumOf e14) rfl (by decide) rfl kw_4_133 kw_4_135 kw_0_34 kw_1_7 kw_4_136 qX6_sumOf rfl ⟨by decide, by decide⟩ ⟨rfl, rfl⟩ (Nat.le_of_ble_eq_true rfl) dX6_now_74 rfl ?_ rfl
              refine (show kV Z 2 77 [(0, kr Z 59), (1, .int v1)] [.int q13.1] q13.2 from ?_)
              exact k_iret C K hf dX6_now_77
            · replace hf := kf_f hf b12
              have zb1 := ti_ne (0 : Int32) b1 (z := 0) rfl
              have zb2 := ti_ne (1 : Int32) b2 (z := 1) rfl
              have zb3 := ti_ne (2 : Int32) b3 (z := 2) rfl
              have zb6 := ti_ne (3 : Int32) b6 (z := 3) rfl
              have zb9 := ti_ne (4 : Int32) b9 (z := 4) rfl
              have zb12 := ti_ne (5 : Int32) b12 (z := 5) rfl
              refine k_tabOut C 78 dX6_now_1 (by omega) rfl ?_
              refine k_aload_n C 0 dX6_now_78 rfl rfl rfl ?_
              refine k_ldc C (-1000000001 : Int32) kw_4_67 dX6_now_79 rfl ?_
              obtain ⟨q15, e16, hf⟩ := kf_b hf
              refine k_callV C [.int (-1000000001 : Int32)] (mX6_finds e16) rfl (by decide) rfl kw_4_68 kw_4_70 kw_0_24 kw_1_7 kw_4_71 qX6_finds rfl ⟨by decide, by decide⟩ ⟨rfl, rfl⟩ (Nat.le_of_ble_eq_true rfl) dX6_now_81 rfl ?_ rfl
              refine (show kV Z 2 84 [(0, kr Z 59), (1, .int v1)] [.int q15.1] q15.2 from ?_)
              exact k_iret C K hf dX6_now_84
theorem mX6_now {G : kG} {v1 : Int32}  {st : kM} {res : Int32 × kM} (hf : fX6_now v1 st = some res) : kCt G yX6_now cX6_now 2 (some .int) rmX6_now [.ref (G.2.1 59), .int v1] st (some (.int res.1)) res.2 := kMet (by decide) (Nat.le_of_ble_eq_true rfl) ⟨rfl, rfl⟩ (fun X A Q C K => tX6_now C  hf K)
theorem qX6_now : yX6_now.cls = RX6 ∧ yX6_now.cls ≠ "java/lang/invoke/MethodHandle" ∧ yX6_now.cls ≠ "java/lang/invoke/VarHandle" ∧ (parseMethodDescriptor yX6_now.desc).map (fun d => d.parameters.length) = some 1 := ⟨rfl, by decide, by decide, by decide +kernel⟩
-- TalkKnotsModel.adds(IIII)V
def rmX6_adds : Room := { frames := 1, cells := 0, slots := 0, locals := 23 }
def fX6_adds (v1 : Int32) (v2 : Int32) (v3 : Int32) (v4 : Int32) (st : kM) : Option (kM) :=
  (some (st.1 60 1)).bind fun z1 => ((fX6_puts z1 (0 : Int32) v1 st).bind fun s3 => ((fX6_puts z1 (1 : Int32) v2 s3).bind fun s5 => ((fX6_puts z1 (2 : Int32) v3 s5).bind fun s7 => ((fX6_puts z1 (3 : Int32) v4 s7).bind fun s9 => ((fX6_puts z1 (4 : Int32) (0 : Int32) s9).bind fun s11 => ((some (kwr s11 60 1 ((s11.1 60 1) + (1 : Int32)))).bind fun s13 => (some s13)))))))
set_option maxRecDepth 100000 in
theorem tX6_adds {Z : kZ} (C : kC Z cX6_adds RX6 6 rmX6_adds) {v1 : Int32} {v2 : Int32} {v3 : Int32} {v4 : Int32}  {st : kM} {res : kM} (hf : fX6_adds v1 v2 v3 v4 st = some res) (K : kEnd Z none none res) : kV Z 6 0 [(0, kr Z 59), (1, .int v1), (2, .int v2), (3, .int v3), (4, .int v4)] [] st := by
  unfold fX6_adds at hf
  refine k_aload_n C 0 dX6_adds_0 rfl rfl rfl ?_
  refine g_X6_row C rfl kw_3_238 dX6_adds_1 rfl ?_
  refine k_iconst C (1 : Int32) dX6_adds_4 (by decide) rfl ?_
  refine k_iald (j := 1) C ⟨rfl, rfl⟩ (by decide) rfl dX6_adds_5 rfl ?_
  obtain ⟨z1, e2, hf⟩ := kf_b hf
  refine k_topi e2 ?_
  refine k_istore (lv' := [(5, .int z1), (0, kr Z 59), (1, .int v1), (2, .int v2), (3, .int v3), (4, .int v4)]) C dX6_adds_6 (by decide) rfl rfl ?_
  refine k_aload_n C 1 dX6_adds_8 rfl rfl rfl ?_
  refine k_iload C 0 dX6_adds_9 rfl rfl ?_
  refine k_iconst C (0 : Int32) dX6_adds_11 (by decide) rfl ?_
  refine k_iload_n C 2 dX6_adds_12 rfl rfl rfl ?_
  obtain ⟨s3, e4, hf⟩ := kf_b hf
  refine k_callV C [.int z1, .int (0 : Int32), .int v1] (mX6_puts e4) rfl (by decide) rfl kw_4_149 kw_4_151 kw_0_36 kw_1_7 kw_4_152 qX6_puts rfl ⟨by decide, by decide⟩ ⟨rfl, rfl⟩ (Nat.le_of_ble_eq_true rfl) dX6_adds_13 rfl ?_ rfl
  refine (show kV Z 6 16 [(5, .int z1), (0, kr Z 59), (1, .int v1), (2, .int v2), (3, .int v3), (4, .int v4)] [] s3 from ?_)
  refine k_aload_n C 1 dX6_adds_16 rfl rfl rfl ?_
  refine k_iload C 0 dX6_adds_17 rfl rfl ?_
  refine k_iconst C (1 : Int32) dX6_adds_19 (by decide) rfl ?_
  refine k_iload_n C 3 dX6_adds_20 rfl rfl rfl ?_
  obtain ⟨s5, e6, hf⟩ := kf_b hf
  refine k_callV C [.int z1, .int (1 : Int32), .int v2] (mX6_puts e6) rfl (by decide) rfl kw_4_149 kw_4_151 kw_0_36 kw_1_7 kw_4_152 qX6_puts rfl ⟨by decide, by decide⟩ ⟨rfl, rfl⟩ (Nat.le_of_ble_eq_true rfl) dX6_adds_21 rfl ?_ rfl
  refine (show kV Z 6 24 [(5, .int z1), (0, kr Z 59), (1, .int v1), (2, .int v2), (3, .int v3), (4, .int v4)] [] s5 from ?_)
  refine k_aload_n C 1 dX6_adds_24 rfl rfl rfl ?_
  refine k_iload C 0 dX6_adds_25 rfl rfl ?_
  refine k_iconst C (2 : Int32) dX6_adds_27 (by decide) rfl ?_
  refine k_iload_n C 4 dX6_adds_28 rfl rfl rfl ?_
  obtain ⟨s7, e8, hf⟩ := kf_b hf
  refine k_callV C [.int z1, .int (2 : Int32), .int v3] (mX6_puts e8) rfl (by decide) rfl kw_4_149 kw_4_151 kw_0_36 kw_1_7 kw_4_152 qX6_puts rfl ⟨by decide, by decide⟩ ⟨rfl, rfl⟩ (Nat.le_of_ble_eq_true rfl) dX6_adds_29 rfl ?_ rfl
  refine (show kV Z 6 32 [(5, .int z1), (0, kr Z 59), (1, .int v1), (2, .int v2), (3, .int v3), (4, .int v4)] [] s7 from ?_)
  refine k_aload_n C 1 dX6_adds_32 rfl rfl rfl ?_
  refine k_iload C 0 dX6_adds_33 rfl rfl ?_
  refine k_iconst C (3 : Int32) dX6_adds_35 (by decide) rfl ?_
  refine k_iload C 5 dX6_adds_36 rfl rfl ?_
  obtain ⟨s9, e10, hf⟩ := kf_b hf
  refine k_callV C [.int z1, .int (3 : Int32), .int v4] (mX6_puts e10) rfl (by decide) rfl kw_4_149 kw_4_151 kw_0_36 kw_1_7 kw_4_152 qX6_puts rfl ⟨by decide, by decide⟩ ⟨rfl, rfl⟩ (Nat.le_of_ble_eq_true rfl) dX6_adds_38 rfl ?_ rfl
  refine (show kV Z 6 41 [(5, .int z1), (0, kr Z 59), (1, .int v1), (2, .int v2), (3, .int v3), (4, .int v4)] [] s9 from ?_)
  refine k_aload_n C 1 dX6_adds_41 rfl rfl rfl ?_
  refine k_iload C 0 dX6_adds_42 rfl rfl ?_
  refine k_iconst C (4 : Int32) dX6_adds_44 (by decide) rfl ?_
  refine k_iconst C (0 : Int32) dX6_adds_45 (by decide) rfl ?_
  obtain ⟨s11, e12, hf⟩ := kf_b hf
  refine k_callV C [.int z1, .int (4 : Int32), .int (0 : Int32)] (mX6_puts e12) rfl (by decide) rfl kw_4_149 kw_4_151 kw_0_36 kw_1_7 kw_4_152 qX6_puts rfl ⟨by decide, by decide⟩ ⟨rfl, rfl⟩ (Nat.le_of_ble_eq_true rfl) dX6_adds_46 rfl ?_ rfl
  refine (show kV Z 6 49 [(5, .int z1), (0, kr Z 59), (1, .int v1), (2, .int v2), (3, .int v3), (4, .int v4)] [] s11 from ?_)
  refine k_aload_n C 1 dX6_adds_49 rfl rfl rfl ?_
  refine g_X6_row C rfl kw_3_238 dX6_adds_50 rfl ?_
  refine k_iconst C (1 : Int32) dX6_adds_53 (by decide) rfl ?_
  refine k_dup2 C rfl rfl dX6_adds_54 rfl ?_
  refine k_iald (j := 1) C ⟨rfl, rfl⟩ (by decide) rfl dX6_adds_55 rfl ?_
  refine k_iconst C (1 : Int32) dX6_adds_56 (by decide) rfl ?_
  refine k_iadd C dX6_adds_57 rfl ?_
  refine k_iast (j := 1) C ⟨rfl, rfl⟩ (by decide) rfl dX6_adds_58 rfl ?_
  obtain ⟨s13, e14, hf⟩ := kf_b hf
  refine k_st e14 ?_
  exact k_vret C K hf dX6_adds_59
theorem mX6_adds {G : kG} {v1 : Int32} {v2 : Int32} {v3 : Int32} {v4 : Int32}  {st : kM} {res : kM} (hf : fX6_adds v1 v2 v3 v4 st = some res) : kCt G yX6_adds cX6_adds 6 none rmX6_adds [.ref (G.2.1 59), .int v1, .int v2, .int v3, .int v4] st none res := kMet (by decide) (Nat.le_of_ble_eq_true rfl) ⟨rfl, rfl⟩ (fun X A Q C K => tX6_adds C  hf K)
theorem qX6_adds : yX6_adds.cls = RX6 ∧ yX6_adds.cls ≠ "java/lang/invoke/MethodHandle" ∧ yX6_adds.cls ≠ "java/lang/invoke/VarHandle" ∧ (parseMethodDescriptor yX6_adds.desc).map (fun d => d.parameters.length) = some 4 := ⟨rfl, by decide, by decide, by decide +kernel⟩
-- TalkKnotsModel.knot(II)I
def rmX6_knot : Room := { frames := 2, cells := 0, slots := 0, locals := 48 }
def fX6_knot (v1 : Int32) (v2 : Int32) (st : kM) : Option (Int32 × kM) :=
  (fX6_isKind v1 st).bind fun q1 => (if q1.1 = 0 then ((fX6_finds (-1000000001 : Int32) q1.2).bind fun q4 => (some (q4.1, q4.2))) else ((fX6_isMast v2 q1.2).bind fun q6 => (if q6.1 = 0 then ((fX6_finds (-1000000001 : Int32) q6.2).bind fun q14 => (some (q14.1, q14.2))) else (if (q6.2.1 60 1) = (10 : Int32) then ((fX6_finds (-1000000002 : Int32) q6.2).bind fun q12 => (some (q12.1, q12.2))) else ((fX6_adds v1 v2 (50 : Int32) (1 : Int32) q6.2).bind fun s10 => (some (((s10.1 60 1) - (1 : Int32)), s10)))))))
set_option maxRecDepth 100000 in
theorem tX6_knot {Z : kZ} (C : kC Z cX6_knot RX6 3 rmX6_knot) {v1 : Int32} {v2 : Int32}  {st : kM} {res : Int32 × kM} (hf : fX6_knot v1 v2 st = some res) (K : kEnd Z (some .int) (some (.int res.1)) res.2) : kV Z 3 0 [(0, kr Z 59), (1, .int v1), (2, .int v2)] [] st := by
  unfold fX6_knot at hf
  refine k_iload_n C 1 dX6_knot_0 rfl rfl rfl ?_
  obtain ⟨q1, e2, hf⟩ := kf_b hf
  refine k_callS C [.int v1] (mX6_isKind e2) kw_4_141 kw_4_142 kw_1_7 kw_4_143 qX6_isKind rfl ⟨by decide, by decide⟩ ⟨rfl, rfl⟩ (Nat.le_of_ble_eq_true rfl) dX6_knot_1 rfl ?_ rfl
  refine (show kV Z 3 4 [(0, kr Z 59), (1, .int v1), (2, .int v2)] [.int q1.1] q1.2 from ?_)
  refine k_if_eq C 14 dX6_knot_4 rfl rfl (fun b3 => ?_) (fun b3 => ?_)
  · replace hf := kf_t hf b3
    refine k_aload_n C 0 dX6_knot_14 rfl rfl rfl ?_
    refine k_ldc C (-1000000001 : Int32) kw_4_67 dX6_knot_15 rfl ?_
    obtain ⟨q4, e5, hf⟩ := kf_b hf
    refine k_callV C [.int (-1000000001 : Int32)] (mX6_finds e5) rfl (by decide) rfl kw_4_68 kw_4_70 kw_0_24 kw_1_7 kw_4_71 qX6_finds rfl ⟨by decide, by decide⟩ ⟨rfl, rfl⟩ (Nat.le_of_ble_eq_true rfl) dX6_knot_17 rfl ?_ rfl
    refine (show kV Z 3 20 [(0, kr Z 59), (1, .int v1), (2, .int v2)] [.int q4.1] q4.2 from ?_)
    exact k_iret C K hf dX6_knot_20
  · replace hf := kf_f hf b3
    refine k_iload_n C 2 dX6_knot_7 rfl rfl rfl ?_
    obtain ⟨q6, e7, hf⟩ := kf_b hf
    refine k_callS C [.int v2] (mX6_isMast e7) kw_4_76 kw_4_77 kw_1_7 kw_4_78 qX6_isMast rfl ⟨by decide, by decide⟩ ⟨rfl, rfl⟩ (Nat.le_of_ble_eq_true rfl) dX6_knot_8 rfl ?_ rfl
    refine (show kV Z 3 11 [(0, kr Z 59), (1, .int v1), (2, .int v2)] [.int q6.1] q6.2 from ?_)
    refine k_if_ne C 21 dX6_knot_11 rfl rfl (fun b8 => ?_) (fun b8 => ?_)
    · replace hf := kf_f hf b8
      refine k_aload_n C 0 dX6_knot_21 rfl rfl rfl ?_
      refine g_X6_row C rfl kw_3_238 dX6_knot_22 rfl ?_
      refine k_iconst C (1 : Int32) dX6_knot_25 (by decide) rfl ?_
      refine k_iald (j := 1) C ⟨rfl, rfl⟩ (by decide) rfl dX6_knot_26 rfl ?_
      refine k_bipush C (10 : Int32) dX6_knot_27 (by decide) rfl ?_
      refine k_icmp_ne C 39 dX6_knot_29 rfl rfl (fun b9 => ?_) (fun b9 => ?_)
      · replace hf := kf_f hf b9
        refine k_aload_n C 0 dX6_knot_39 rfl rfl rfl ?_
        refine k_iload_n C 1 dX6_knot_40 rfl rfl rfl ?_
        refine k_iload_n C 2 dX6_knot_41 rfl rfl rfl ?_
        refine k_bipush C (50 : Int32) dX6_knot_42 (by decide) rfl ?_
        refine k_iconst C (1 : Int32) dX6_knot_44 (by decide) rfl ?_
        obtain ⟨s10, e11, hf⟩ := kf_b hf
        refine k_callV C [.int v1, .int v2, .int (50 : Int32), .int (1 : Int32)] (mX6_adds e11) rfl (by decide) rfl kw_4_145 kw_4_147 kw_0_35 kw_1_7 kw_4_148 qX6_adds rfl ⟨by decide, by decide⟩ ⟨rfl, rfl⟩ (Nat.le_of_ble_eq_true rfl) dX6_knot_45 rfl ?_ rfl
        refine (show kV Z 3 48 [(0, kr Z 59), (1, .int v1), (2, .int v2)] [] s10 from ?_)
        refine k_aload_n C 0 dX6_knot_48 rfl rfl rfl ?_
        refine g_X6_row C rfl kw_3_238 dX6_knot_49 rfl ?_
        refine k_iconst C (1 : Int32) dX6_knot_52 (by decide) rfl ?_
        refine k_iald (j := 1) C ⟨rfl, rfl⟩ (by decide) rfl dX6_knot_53 rfl ?_
        refine k_iconst C (1 : Int32) dX6_knot_54 (by decide) rfl ?_
        refine k_isub C dX6_knot_55 rfl ?_
        exact k_iret C K hf dX6_knot_56
      · replace hf := kf_t hf b9
        refine k_aload_n C 0 dX6_knot_32 rfl rfl rfl ?_
        refine k_ldc C (-1000000002 : Int32) kw_4_144 dX6_knot_33 rfl ?_
        obtain ⟨q12, e13, hf⟩ := kf_b hf
        refine k_callV C [.int (-1000000002 : Int32)] (mX6_finds e13) rfl (by decide) rfl kw_4_68 kw_4_70 kw_0_24 kw_1_7 kw_4_71 qX6_finds rfl ⟨by decide, by decide⟩ ⟨rfl, rfl⟩ (Nat.le_of_ble_eq_true rfl) dX6_knot_35 rfl ?_ rfl
        refine (show kV Z 3 38 [(0, kr Z 59), (1, .int v1), (2, .int v2)] [.int q12.1] q12.2 from ?_)
        exact k_iret C K hf dX6_knot_38
    · replace hf := kf_t hf b8
      refine k_aload_n C 0 dX6_knot_14 rfl rfl rfl ?_
      refine k_ldc C (-1000000001 : Int32) kw_4_67 dX6_knot_15 rfl ?_
      obtain ⟨q14, e15, hf⟩ := kf_b hf
      refine k_callV C [.int (-1000000001 : Int32)] (mX6_finds e15) rfl (by decide) rfl kw_4_68 kw_4_70 kw_0_24 kw_1_7 kw_4_71 qX6_finds rfl ⟨by decide, by decide⟩ ⟨rfl, rfl⟩ (Nat.le_of_ble_eq_true rfl) dX6_knot_17 rfl ?_ rfl
      refine (show kV Z 3 20 [(0, kr Z 59), (1, .int v1), (2, .int v2)] [.int q14.1] q14.2 from ?_)
      exact k_iret C K hf dX6_knot_20
theorem mX6_knot {G : kG} {v1 : Int32} {v2 : Int32}  {st : kM} {res : Int32 × kM} (hf : fX6_knot v1 v2 st = some res) : kCt G yX6_knot cX6_knot 3 (some .int) rmX6_knot [.ref (G.2.1 59), .int v1, .int v2] st (some (.int res.1)) res.2 := kMet (by decide) (Nat.le_of_ble_eq_true rfl) ⟨rfl, rfl⟩ (fun X A Q C K => tX6_knot C  hf K)
theorem qX6_knot : yX6_knot.cls = RX6 ∧ yX6_knot.cls ≠ "java/lang/invoke/MethodHandle" ∧ yX6_knot.cls ≠ "java/lang/invoke/VarHandle" ∧ (parseMethodDescriptor yX6_knot.desc).map (fun d => d.parameters.length) = some 2 := ⟨rfl, by decide, by decide, by decide +kernel⟩
-- TalkKnotsModel.of(II)I
def rmX6_of : Room := { frames := 4, cells := 0, slots := 0, locals := 93 }
def fX6_of (v1 : Int32) (v2 : Int32) (st : kM) : Option (Int32 × kM) :=
  (fX6_isOne v1 st).bind fun q1 => (if q1.1 = 0 then ((fX6_finds (-1000000001 : Int32) q1.2).bind fun q4 => (some (q4.1, q4.2))) else ((fX6_in v2 (0 : Int32) (8 : Int32) q1.2).bind fun q6 => (if q6.1 = 0 then ((fX6_finds (-1000000001 : Int32) q6.2).bind fun q31 => (some (q31.1, q31.2))) else (if v2 = (5 : Int32) then ((fX6_holding v1 q6.2).bind fun q10 => (some (q10.1, q10.2))) else (if v2 = (6 : Int32) then ((fX6_settling v1 q6.2).bind fun q13 => (some (((100 : Int32) + q13.1), q13.2))) else (if v2 = (7 : Int32) then ((fX6_teasing v1 q6.2).bind fun q16 => (some (((100 : Int32) + q16.1), q16.2))) else (if v2 = (8 : Int32) then ((fX6_its v1 (3 : Int32) q6.2).bind fun q19 => (if q19.1 = (1 : Int32) then ((fX6_its v1 (1 : Int32) q19.2).bind fun q22 => ((fX6_strain q22.1 q22.2).bind fun q24 => ((fX6_isGiving v1 q24.1 q24.2).bind fun q26 => (if q26.1 = 0 then (some ((0 : Int32), q26.2)) else (some ((1 : Int32), q26.2)))))) else (some ((0 : Int32), q19.2)))) else ((fX6_its v1 v2 q6.2).bind fun q29 => (some (q29.1, q29.2))))))))))
set_option maxRecDepth 100000 in
theorem tX6_of {Z : kZ} (C : kC Z cX6_of RX6 3 rmX6_of) {v1 : Int32} {v2 : Int32}  {st : kM} {res : Int32 × kM} (hf : fX6_of v1 v2 st = some res) (K : kEnd Z (some .int) (some (.int res.1)) res.2) : kV Z 3 0 [(0, kr Z 59), (1, .int v1), (2, .int v2)] [] st := by
  unfold fX6_of at hf
  refine k_aload_n C 0 dX6_of_0 rfl rfl rfl ?_
  refine k_iload_n C 1 dX6_of_1 rfl rfl rfl ?_
  obtain ⟨q1, e2, hf⟩ := kf_b hf
  refine k_callV C [.int v1] (mX6_isOne e2) rfl (by decide) rfl kw_4_157 kw_4_159 kw_0_37 kw_1_7 kw_4_160 qX6_isOne rfl ⟨by decide, by decide⟩ ⟨rfl, rfl⟩ (Nat.le_of_ble_eq_true rfl) dX6_of_2 rfl ?_ rfl
  refine (show kV Z 3 5 [(0, kr Z 59), (1, .int v1), (2, .int v2)] [.int q1.1] q1.2 from ?_)
  refine k_if_eq C 18 dX6_of_5 rfl rfl (fun b3 => ?_) (fun b3 => ?_)
  · replace hf := kf_t hf b3
    refine k_aload_n C 0 dX6_of_18 rfl rfl rfl ?_
    refine k_ldc C (-1000000001 : Int32) kw_4_67 dX6_of_19 rfl ?_
    obtain ⟨q4, e5, hf⟩ := kf_b hf
    refine k_callV C [.int (-1000000001 : Int32)] (mX6_finds e5) rfl (by decide) rfl kw_4_68 kw_4_70 kw_0_24 kw_1_7 kw_4_71 qX6_finds rfl ⟨by decide, by decide⟩ ⟨rfl, rfl⟩ (Nat.le_of_ble_eq_true rfl) dX6_of_21 rfl ?_ rfl
    refine (show kV Z 3 24 [(0, kr Z 59), (1, .int v1), (2, .int v2)] [.int q4.1] q4.2 from ?_)
    exact k_iret C K hf dX6_of_24
  · replace hf := kf_f hf b3
    refine k_iload_n C 2 dX6_of_8 rfl rfl rfl ?_
    refine k_iconst C (0 : Int32) dX6_of_9 (by decide) rfl ?_
    refine k_bipush C (8 : Int32) dX6_of_10 (by decide) rfl ?_
    obtain ⟨q6, e7, hf⟩ := kf_b hf
    refine k_callS C [.int v2, .int (0 : Int32), .int (8 : Int32)] (mX6_in e7) kw_4_60 kw_4_61 kw_1_7 kw_4_62 qX6_in rfl ⟨by decide, by decide⟩ ⟨rfl, rfl⟩ (Nat.le_of_ble_eq_true rfl) dX6_of_12 rfl ?_ rfl
    refine (show kV Z 3 15 [(0, kr Z 59), (1, .int v1), (2, .int v2)] [.int q6.1] q6.2 from ?_)
    refine k_if_ne C 25 dX6_of_15 rfl rfl (fun b8 => ?_) (fun b8 => ?_)
    · replace hf := kf_f hf b8
      refine k_iload_n C 2 dX6_of_25 rfl rfl rfl ?_
      by_cases b9 : v2 = (5 : Int32)
      · replace hf := kf_t hf b9
        refine k_tabIn C 56 dX6_of_26 (by rw [b9]; decide) (by rw [b9]; decide) (by rw [b9]; rfl) rfl ?_
        refine k_aload_n C 0 dX6_of_56 rfl rfl rfl ?_
        refine k_iload_n C 1 dX6_of_57 rfl rfl rfl ?_
        obtain ⟨q10, e11, hf⟩ := kf_b hf
        refine k_callV C [.int v1] (mX6_holding e11) rfl (by decide) rfl kw_4_114 kw_4_116 kw_0_31 kw_1_7 kw_4_117 qX6_holding rfl ⟨by decide, by decide⟩ ⟨rfl, rfl⟩ (Nat.le_of_ble_eq_true rfl) dX6_of_58 rfl ?_ rfl
        refine (show kV Z 3 61 [(0, kr Z 59), (1, .int v1), (2, .int v2)] [.int q10.1] q10.2 from ?_)
        exact k_iret C K hf dX6_of_61
      · replace hf := kf_f hf b9
        by_cases b12 : v2 = (6 : Int32)
        · replace hf := kf_t hf b12
          refine k_tabIn C 62 dX6_of_26 (by rw [b12]; decide) (by rw [b12]; decide) (by rw [b12]; rfl) rfl ?_
          refine k_bipush C (100 : Int32) dX6_of_62 (by decide) rfl ?_
          refine k_aload_n C 0 dX6_of_64 rfl rfl rfl ?_
          refine k_iload_n C 1 dX6_of_65 rfl rfl rfl ?_
          obtain ⟨q13, e14, hf⟩ := kf_b hf
          refine k_callV C [.int v1] (mX6_settling e14) rfl (by decide) rfl kw_4_161 kw_4_163 kw_0_38 kw_1_7 kw_4_164 qX6_settling rfl ⟨by decide, by decide⟩ ⟨rfl, rfl⟩ (Nat.le_of_ble_eq_true rfl) dX6_of_66 rfl ?_ rfl
          refine (show kV Z 3 69 [(0, kr Z 59), (1, .int v1), (2, .int v2)] [.int q13.1, .int (100 : Int32)] q13.2 from ?_)
          refine k_iadd C dX6_of_69 rfl ?_
          exact k_iret C K hf dX6_of_70
        · replace hf := kf_f hf b12
          by_cases b15 : v2 = (7 : Int32)
          · replace hf := kf_t hf b15
            refine k_tabIn C 71 dX6_of_26 (by rw [b15]; decide) (by rw [b15]; decide) (by rw [b15]; rfl) rfl ?_
            refine k_bipush C (100 : Int32) dX6_of_71 (by decide) rfl ?_
            refine k_aload_n C 0 dX6_of_73 rfl rfl rfl ?_
            refine k_iload_n C 1 dX6_of_74 rfl rfl rfl ?_
            obtain ⟨q16, e17, hf⟩ := kf_b hf
            refine k_callV C [.int v1] (mX6_teasing e17) rfl (by decide) rfl kw_4_165 kw_4_167 kw_0_39 kw_1_7 kw_4_168 qX6_teasing rfl ⟨by decide, by decide⟩ ⟨rfl, rfl⟩ (Nat.le_of_ble_eq_true rfl) dX6_of_75 rfl ?_ rfl
            refine (show kV Z 3 78 [(0, kr Z 59), (1, .int v1), (2, .int v2)] [.int q16.1, .int (100 : Int32)] q16.2 from ?_)
            refine k_iadd C dX6_of_78 rfl ?_
            exact k_iret C K hf dX6_of_79
          · replace hf := kf_f hf b15
            by_cases b18 : v2 = (8 : Int32)
            · replace hf := kf_t hf b18
              refine k_tabIn C 80 dX6_of_26 (by rw [b18]; decide) (by rw [b18]; decide) (by rw [b18]; rfl) rfl ?_
              refine k_aload_n C 0 dX6_of_80 rfl rfl rfl ?_
              refine k_iload_n C 1 dX6_of_81 rfl rfl rfl ?_
              refine k_iconst C (3 : Int32) dX6_of_82 (by decide) rfl ?_
              obtain ⟨q19, e20, hf⟩ := kf_b hf
              refine k_callV C [.int v1, .int (3 : Int32)] (mX6_its e20) rfl (by decide) rfl kw_4_95 kw_4_97 kw_0_27 kw_1_7 kw_4_98 qX6_its rfl ⟨by decide, by decide⟩ ⟨rfl, rfl⟩ (Nat.le_of_ble_eq_true rfl) dX6_of_83 rfl ?_ rfl
              refine (show kV Z 3 86 [(0, kr Z 59), (1, .int v1), (2, .int v2)] [.int q19.1] q19.2 from ?_)
              refine k_iconst C (1 : Int32) dX6_of_86 (by decide) rfl ?_
              refine k_icmp_ne C 112 dX6_of_87 rfl rfl (fun b21 => ?_) (fun b21 => ?_)
              · replace hf := kf_f hf b21
                refine k_iconst C (0 : Int32) dX6_of_112 (by decide) rfl ?_
                exact k_iret C K hf dX6_of_113
              · replace hf := kf_t hf b21
                refine k_aload_n C 0 dX6_of_90 rfl rfl rfl ?_
                refine k_iload_n C 1 dX6_of_91 rfl rfl rfl ?_
                refine k_aload_n C 0 dX6_of_92 rfl rfl rfl ?_
                refine k_aload_n C 0 dX6_of_93 rfl rfl rfl ?_
                refine k_iload_n C 1 dX6_of_94 rfl rfl rfl ?_
                refine k_iconst C (1 : Int32) dX6_of_95 (by decide) rfl ?_
                obtain ⟨q22, e23, hf⟩ := kf_b hf
                refine k_callV C [.int v1, .int (1 : Int32)] (mX6_its e23) rfl (by decide) rfl kw_4_95 kw_4_97 kw_0_27 kw_1_7 kw_4_98 qX6_its rfl ⟨by decide, by decide⟩ ⟨rfl, rfl⟩ (Nat.le_of_ble_eq_true rfl) dX6_of_96 rfl ?_ rfl
                refine (show kV Z 3 99 [(0, kr Z 59), (1, .int v1), (2, .int v2)] [.int q22.1, kr Z 59, .int v1, kr Z 59] q22.2 from ?_)
                obtain ⟨q24, e25, hf⟩ := kf_b hf
                refine k_callV C [.int q22.1] (mX6_strain e25) rfl (by decide) rfl kw_4_99 kw_4_101 kw_0_28 kw_1_7 kw_4_102 qX6_strain rfl ⟨by decide, by decide⟩ ⟨rfl, rfl⟩ (Nat.le_of_ble_eq_true rfl) dX6_of_99 rfl ?_ rfl
                refine (show kV Z 3 102 [(0, kr Z 59), (1, .int v1), (2, .int v2)] [.int q24.1, .int v1, kr Z 59] q24.2 from ?_)
                obtain ⟨q26, e27, hf⟩ := kf_b hf
                refine k_callV C [.int v1, .int q24.1] (mX6_isGiving e27) rfl (by decide) rfl kw_4_169 kw_4_171 kw_0_40 kw_1_7 kw_4_172 qX6_isGiving rfl ⟨by decide, by decide⟩ ⟨rfl, rfl⟩ (Nat.le_of_ble_eq_true rfl) dX6_of_102 rfl ?_ rfl
                refine (show kV Z 3 105 [(0, kr Z 59), (1, .int v1), (2, .int v2)] [.int q26.1] q26.2 from ?_)
                refine k_if_eq C 112 dX6_of_105 rfl rfl (fun b28 => ?_) (fun b28 => ?_)
                · replace hf := kf_t hf b28
                  refine k_iconst C (0 : Int32) dX6_of_112 (by decide) rfl ?_
                  exact k_iret C K hf dX6_of_113
                · replace hf := kf_f hf b28
                  refine k_iconst C (1 : Int32) dX6_of_108 (by decide) rfl ?_
                  refine k_goto C 113 dX6_of_109 rfl ?_
                  exact k_iret C K hf dX6_of_113
            · replace hf := kf_f hf b18
              have zb9 := ti_ne (5 : Int32) b9 (z := 5) rfl
              have zb12 := ti_ne (6 : Int32) b12 (z := 6) rfl
              have zb15 := ti_ne (7 : Int32) b15 (z := 7) rfl
              have zb18 := ti_ne (8 : Int32) b18 (z := 8) rfl
              refine k_tabOut C 114 dX6_of_26 (by omega) rfl ?_
              refine k_aload_n C 0 dX6_of_114 rfl rfl rfl ?_
              refine k_iload_n C 1 dX6_of_115 rfl rfl rfl ?_
              refine k_iload_n C 2 dX6_of_116 rfl rfl rfl ?_
              obtain ⟨q29, e30, hf⟩ := kf_b hf
              refine k_callV C [.int v1, .int v2] (mX6_its e30) rfl (by decide) rfl kw_4_95 kw_4_97 kw_0_27 kw_1_7 kw_4_98 qX6_its rfl ⟨by decide, by decide⟩ ⟨rfl, rfl⟩ (Nat.le_of_ble_eq_true rfl) dX6_of_117 rfl ?_ rfl
              refine (show kV Z 3 120 [(0, kr Z 59), (1, .int v1), (2, .int v2)] [.int q29.1] q29.2 from ?_)
              exact k_iret C K hf dX6_of_120
    · replace hf := kf_t hf b8
      refine k_aload_n C 0 dX6_of_18 rfl rfl rfl ?_
      refine k_ldc C (-1000000001 : Int32) kw_4_67 dX6_of_19 rfl ?_
      obtain ⟨q31, e32, hf⟩ := kf_b hf
      refine k_callV C [.int (-1000000001 : Int32)] (mX6_finds e32) rfl (by decide) rfl kw_4_68 kw_4_70 kw_0_24 kw_1_7 kw_4_71 qX6_finds rfl ⟨by decide, by decide⟩ ⟨rfl, rfl⟩ (Nat.le_of_ble_eq_true rfl) dX6_of_21 rfl ?_ rfl
      refine (show kV Z 3 24 [(0, kr Z 59), (1, .int v1), (2, .int v2)] [.int q31.1] q31.2 from ?_)
      exact k_iret C K hf dX6_of_24
theorem mX6_of {G : kG} {v1 : Int32} {v2 : Int32}  {st : kM} {res : Int32 × kM} (hf : fX6_of v1 v2 st = some res) : kCt G yX6_of cX6_of 3 (some .int) rmX6_of [.ref (G.2.1 59), .int v1, .int v2] st (some (.int res.1)) res.2 := kMet (by decide) (Nat.le_of_ble_eq_true rfl) ⟨rfl, rfl⟩ (fun X A Q C K => tX6_of C  hf K)
theorem qX6_of : yX6_of.cls = RX6 ∧ yX6_of.cls ≠ "java/lang/invoke/MethodHandle" ∧ yX6_of.cls ≠ "java/lang/invoke/VarHandle" ∧ (parseMethodDescriptor yX6_of.desc).map (fun d => d.parameters.length) = some 2 := ⟨rfl, by decide, by decide, by decide +kernel⟩
-- TalkKnotsModel.isPart(II)Z
def rmX6_isPart : Room := { frames := 2, cells := 0, slots := 0, locals := 42 }
def fX6_isPart (v0 : Int32) (v1 : Int32) (st : kM) : Option (Int32 × kM) :=
  if v0 = (1 : Int32) then ((fX6_isMast v1 st).bind fun q2 => (if q2.1 = 0 ∨ q2.1 = 1 then some (q2.1, q2.2) else none)) else (if v0 = (2 : Int32) then ((fX6_in v1 (0 : Int32) (99 : Int32) st).bind fun q5 => (if q5.1 = 0 ∨ q5.1 = 1 then some (q5.1, q5.2) else none)) else (if v0 = (4 : Int32) then ((fX6_in v1 (0 : Int32) (9999 : Int32) st).bind fun q8 => (if q8.1 = 0 then (some ((0 : Int32), q8.2)) else (some ((1 : Int32), q8.2)))) else (some ((0 : Int32), st))))
set_option maxRecDepth 100000 in
theorem tX6_isPart {Z : kZ} (C : kC Z cX6_isPart RX6 2 rmX6_isPart) {v0 : Int32} {v1 : Int32}  {st : kM} {res : Int32 × kM} (hf : fX6_isPart v0 v1 st = some res) (K : kEnd Z (some .boolean) (some (.int res.1)) res.2) : kV Z 2 0 [(0, .int v0), (1, .int v1)] [] st := by
  unfold fX6_isPart at hf
  refine k_iload_n C 0 dX6_isPart_0 rfl rfl rfl ?_
  by_cases b1 : v0 = (1 : Int32)
  · replace hf := kf_t hf b1
    refine k_lookup C 28 dX6_isPart_1 rfl (by rw [b1]) rfl ?_
    refine k_iload_n C 1 dX6_isPart_28 rfl rfl rfl ?_
    obtain ⟨q2, e3, hf⟩ := kf_b hf
    refine k_callS C [.int v1] (mX6_isMast e3) kw_4_76 kw_4_77 kw_1_7 kw_4_78 qX6_isMast rfl ⟨by decide, by decide⟩ ⟨rfl, rfl⟩ (Nat.le_of_ble_eq_true rfl) dX6_isPart_29 rfl ?_ rfl
    refine (show kV Z 2 32 [(0, .int v0), (1, .int v1)] [.int q2.1] q2.2 from ?_)
    obtain ⟨g0, hf⟩ := kf_y hf
    exact k_zret C K hf (kb_n g0) dX6_isPart_32
  · replace hf := kf_f hf b1
    by_cases b4 : v0 = (2 : Int32)
    · replace hf := kf_t hf b4
      refine k_lookup C 33 dX6_isPart_1 rfl (by rw [b4]) rfl ?_
      refine k_iload_n C 1 dX6_isPart_33 rfl rfl rfl ?_
      refine k_iconst C (0 : Int32) dX6_isPart_34 (by decide) rfl ?_
      refine k_bipush C (99 : Int32) dX6_isPart_35 (by decide) rfl ?_
      obtain ⟨q5, e6, hf⟩ := kf_b hf
      refine k_callS C [.int v1, .int (0 : Int32), .int (99 : Int32)] (mX6_in e6) kw_4_60 kw_4_61 kw_1_7 kw_4_62 qX6_in rfl ⟨by decide, by decide⟩ ⟨rfl, rfl⟩ (Nat.le_of_ble_eq_true rfl) dX6_isPart_37 rfl ?_ rfl
      refine (show kV Z 2 40 [(0, .int v0), (1, .int v1)] [.int q5.1] q5.2 from ?_)
      obtain ⟨g0, hf⟩ := kf_y hf
      exact k_zret C K hf (kb_n g0) dX6_isPart_40
    · replace hf := kf_f hf b4
      have zb1 := ti_ne (1 : Int32) b1 (z := 1) rfl
      have zb4 := ti_ne (2 : Int32) b4 (z := 2) rfl
      refine k_lookup C 41 dX6_isPart_1 rfl (lk_out zb1 zb4) rfl ?_
      refine k_iload_n C 0 dX6_isPart_41 rfl rfl rfl ?_
      refine k_iconst C (4 : Int32) dX6_isPart_42 (by decide) rfl ?_
      refine k_icmp_ne C 61 dX6_isPart_43 rfl rfl (fun b7 => ?_) (fun b7 => ?_)
      · replace hf := kf_f hf b7
        refine k_iconst C (0 : Int32) dX6_isPart_61 (by decide) rfl ?_
        exact k_zret C K hf rfl dX6_isPart_62
      · replace hf := kf_t hf b7
        refine k_iload_n C 1 dX6_isPart_46 rfl rfl rfl ?_
        refine k_iconst C (0 : Int32) dX6_isPart_47 (by decide) rfl ?_
        refine k_sipush C (9999 : Int32) dX6_isPart_48 (by decide) rfl ?_
        obtain ⟨q8, e9, hf⟩ := kf_b hf
        refine k_callS C [.int v1, .int (0 : Int32), .int (9999 : Int32)] (mX6_in e9) kw_4_60 kw_4_61 kw_1_7 kw_4_62 qX6_in rfl ⟨by decide, by decide⟩ ⟨rfl, rfl⟩ (Nat.le_of_ble_eq_true rfl) dX6_isPart_51 rfl ?_ rfl
        refine (show kV Z 2 54 [(0, .int v0), (1, .int v1)] [.int q8.1] q8.2 from ?_)
        refine k_if_eq C 61 dX6_isPart_54 rfl rfl (fun b10 => ?_) (fun b10 => ?_)
        · replace hf := kf_t hf b10
          refine k_iconst C (0 : Int32) dX6_isPart_61 (by decide) rfl ?_
          exact k_zret C K hf rfl dX6_isPart_62
        · replace hf := kf_f hf b10
          refine k_iconst C (1 : Int32) dX6_isPart_57 (by decide) rfl ?_
          refine k_goto C 62 dX6_isPart_58 rfl ?_
          exact k_zret C K hf rfl dX6_isPart_62
theorem mX6_isPart {G : kG} {v0 : Int32} {v1 : Int32}  {st : kM} {res : Int32 × kM} (hf : fX6_isPart v0 v1 st = some res) : kCt G yX6_isPart cX6_isPart 2 (some .boolean) rmX6_isPart [.int v0, .int v1] st (some (.int res.1)) res.2 := kMet (by decide) (Nat.le_of_ble_eq_true rfl) ⟨rfl, rfl⟩ (fun X A Q C K => tX6_isPart C  hf K)
theorem qX6_isPart : yX6_isPart.cls ≠ "java/lang/invoke/MethodHandle" ∧ yX6_isPart.cls ≠ "java/lang/invoke/VarHandle" ∧ (parseMethodDescriptor yX6_isPart.desc).map (fun d => d.parameters.length) = some 2 := ⟨by decide, by decide, by decide +kernel⟩
-- TalkKnotsModel.set(III)I
def rmX6_set : Room := { frames := 3, cells := 0, slots := 0, locals := 63 }
def fX6_set (v1 : Int32) (v2 : Int32) (v3 : Int32) (st : kM) : Option (Int32 × kM) :=
  (fX6_isOne v1 st).bind fun q1 => (if q1.1 = 0 then ((fX6_finds (-1000000001 : Int32) q1.2).bind fun q4 => (some (q4.1, q4.2))) else ((fX6_isPart v2 v3 q1.2).bind fun q6 => (if q6.1 = 0 then ((fX6_finds (-1000000001 : Int32) q6.2).bind fun q9 => (some (q9.1, q9.2))) else ((fX6_becomes (((22 : Int32) + ((5 : Int32) * v1)) + v2) v3 q6.2).bind fun q11 => (some (q11.1, q11.2))))))
set_option maxRecDepth 100000 in
theorem tX6_set {Z : kZ} (C : kC Z cX6_set RX6 4 rmX6_set) {v1 : Int32} {v2 : Int32} {v3 : Int32}  {st : kM} {res : Int32 × kM} (hf : fX6_set v1 v2 v3 st = some res) (K : kEnd Z (some .int) (some (.int res.1)) res.2) : kV Z 4 0 [(0, kr Z 59), (1, .int v1), (2, .int v2), (3, .int v3)] [] st := by
  unfold fX6_set at hf
  refine k_aload_n C 0 dX6_set_0 rfl rfl rfl ?_
  refine k_iload_n C 1 dX6_set_1 rfl rfl rfl ?_
  obtain ⟨q1, e2, hf⟩ := kf_b hf
  refine k_callV C [.int v1] (mX6_isOne e2) rfl (by decide) rfl kw_4_157 kw_4_159 kw_0_37 kw_1_7 kw_4_160 qX6_isOne rfl ⟨by decide, by decide⟩ ⟨rfl, rfl⟩ (Nat.le_of_ble_eq_true rfl) dX6_set_2 rfl ?_ rfl
  refine (show kV Z 4 5 [(0, kr Z 59), (1, .int v1), (2, .int v2), (3, .int v3)] [.int q1.1] q1.2 from ?_)
  refine k_if_eq C 32 dX6_set_5 rfl rfl (fun b3 => ?_) (fun b3 => ?_)
  · replace hf := kf_t hf b3
    refine k_aload_n C 0 dX6_set_32 rfl rfl rfl ?_
    refine k_ldc C (-1000000001 : Int32) kw_4_67 dX6_set_33 rfl ?_
    obtain ⟨q4, e5, hf⟩ := kf_b hf
    refine k_callV C [.int (-1000000001 : Int32)] (mX6_finds e5) rfl (by decide) rfl kw_4_68 kw_4_70 kw_0_24 kw_1_7 kw_4_71 qX6_finds rfl ⟨by decide, by decide⟩ ⟨rfl, rfl⟩ (Nat.le_of_ble_eq_true rfl) dX6_set_35 rfl ?_ rfl
    refine (show kV Z 4 38 [(0, kr Z 59), (1, .int v1), (2, .int v2), (3, .int v3)] [.int q4.1] q4.2 from ?_)
    exact k_iret C K hf dX6_set_38
  · replace hf := kf_f hf b3
    refine k_iload_n C 2 dX6_set_8 rfl rfl rfl ?_
    refine k_iload_n C 3 dX6_set_9 rfl rfl rfl ?_
    obtain ⟨q6, e7, hf⟩ := kf_b hf
    refine k_callS C [.int v2, .int v3] (mX6_isPart e7) kw_4_177 kw_4_178 kw_1_7 kw_4_179 qX6_isPart rfl ⟨by decide, by decide⟩ ⟨rfl, rfl⟩ (Nat.le_of_ble_eq_true rfl) dX6_set_10 rfl ?_ rfl
    refine (show kV Z 4 13 [(0, kr Z 59), (1, .int v1), (2, .int v2), (3, .int v3)] [.int q6.1] q6.2 from ?_)
    refine k_if_eq C 32 dX6_set_13 rfl rfl (fun b8 => ?_) (fun b8 => ?_)
    · replace hf := kf_t hf b8
      refine k_aload_n C 0 dX6_set_32 rfl rfl rfl ?_
      refine k_ldc C (-1000000001 : Int32) kw_4_67 dX6_set_33 rfl ?_
      obtain ⟨q9, e10, hf⟩ := kf_b hf
      refine k_callV C [.int (-1000000001 : Int32)] (mX6_finds e10) rfl (by decide) rfl kw_4_68 kw_4_70 kw_0_24 kw_1_7 kw_4_71 qX6_finds rfl ⟨by decide, by decide⟩ ⟨rfl, rfl⟩ (Nat.le_of_ble_eq_true rfl) dX6_set_35 rfl ?_ rfl
      refine (show kV Z 4 38 [(0, kr Z 59), (1, .int v1), (2, .int v2), (3, .int v3)] [.int q9.1] q9.2 from ?_)
      exact k_iret C K hf dX6_set_38
    · replace hf := kf_f hf b8
      refine k_aload_n C 0 dX6_set_16 rfl rfl rfl ?_
      refine k_bipush C (22 : Int32) dX6_set_17 (by decide) rfl ?_
      refine k_iconst C (5 : Int32) dX6_set_19 (by decide) rfl ?_
      refine k_iload_n C 1 dX6_set_20 rfl rfl rfl ?_
      refine k_imul C dX6_set_21 rfl ?_
      refine k_iadd C dX6_set_22 rfl ?_
      refine k_iload_n C 2 dX6_set_23 rfl rfl rfl ?_
      refine k_iadd C dX6_set_24 rfl ?_
      refine k_iload_n C 3 dX6_set_25 rfl rfl rfl ?_
      obtain ⟨q11, e12, hf⟩ := kf_b hf
      refine k_callV C [.int (((22 : Int32) + ((5 : Int32) * v1)) + v2), .int v3] (mX6_becomes e12) rfl (by decide) rfl kw_4_63 kw_4_65 kw_0_23 kw_1_7 kw_4_66 qX6_becomes rfl ⟨by decide, by decide⟩ ⟨rfl, rfl⟩ (Nat.le_of_ble_eq_true rfl) dX6_set_26 rfl ?_ rfl
      refine (show kV Z 4 29 [(0, kr Z 59), (1, .int v1), (2, .int v2), (3, .int v3)] [.int q11.1] q11.2 from ?_)
      refine k_goto C 38 dX6_set_29 rfl ?_
      exact k_iret C K hf dX6_set_38
theorem mX6_set {G : kG} {v1 : Int32} {v2 : Int32} {v3 : Int32}  {st : kM} {res : Int32 × kM} (hf : fX6_set v1 v2 v3 st = some res) : kCt G yX6_set cX6_set 4 (some .int) rmX6_set [.ref (G.2.1 59), .int v1, .int v2, .int v3] st (some (.int res.1)) res.2 := kMet (by decide) (Nat.le_of_ble_eq_true rfl) ⟨rfl, rfl⟩ (fun X A Q C K => tX6_set C  hf K)
theorem qX6_set : yX6_set.cls = RX6 ∧ yX6_set.cls ≠ "java/lang/invoke/MethodHandle" ∧ yX6_set.cls ≠ "java/lang/invoke/VarHandle" ∧ (parseMethodDescriptor yX6_set.desc).map (fun d => d.parameters.length) = some 3 := ⟨rfl, by decide, by decide, by decide +kernel⟩
-- TalkKnotsModel.turn(II)I
def rmX6_turn : Room := { frames := 2, cells := 0, slots := 0, locals := 43 }
def fX6_turn (v1 : Int32) (v2 : Int32) (st : kM) : Option (Int32 × kM) :=
  (fX6_isOne v1 st).bind fun q1 => (if q1.1 = 0 then ((fX6_finds (-1000000001 : Int32) q1.2).bind fun q4 => (some (q4.1, q4.2))) else ((fX6_isKind v2 q1.2).bind fun q6 => (if q6.1 = 0 then ((fX6_finds (-1000000001 : Int32) q6.2).bind fun q9 => (some (q9.1, q9.2))) else ((fX6_becomes ((22 : Int32) + ((5 : Int32) * v1)) v2 q6.2).bind fun q11 => (some (q11.1, q11.2))))))
set_option maxRecDepth 100000 in
theorem tX6_turn {Z : kZ} (C : kC Z cX6_turn RX6 3 rmX6_turn) {v1 : Int32} {v2 : Int32}  {st : kM} {res : Int32 × kM} (hf : fX6_turn v1 v2 st = some res) (K : kEnd Z (some .int) (some (.int res.1)) res.2) : kV Z 3 0 [(0, kr Z 59), (1, .int v1), (2, .int v2)] [] st := by
  unfold fX6_turn at hf
  refine k_aload_n C 0 dX6_turn_0 rfl rfl rfl ?_
  refine k_iload_n C 1 dX6_turn_1 rfl rfl rfl ?_
  obtain ⟨q1, e2, hf⟩ := kf_b hf
  refine k_callV C [.int v1] (mX6_isOne e2) rfl (by decide) rfl kw_4_157 kw_4_159 kw_0_37 kw_1_7 kw_4_160 qX6_isOne rfl ⟨by decide, by decide⟩ ⟨rfl, rfl⟩ (Nat.le_of_ble_eq_true rfl) dX6_turn_2 rfl ?_ rfl
  refine (show kV Z 3 5 [(0, kr Z 59), (1, .int v1), (2, .int v2)] [.int q1.1] q1.2 from ?_)
  refine k_if_eq C 29 dX6_turn_5 rfl rfl (fun b3 => ?_) (fun b3 => ?_)
  · replace hf := kf_t hf b3
    refine k_aload_n C 0 dX6_turn_29 rfl rfl rfl ?_
    refine k_ldc C (-1000000001 : Int32) kw_4_67 dX6_turn_30 rfl ?_
    obtain ⟨q4, e5, hf⟩ := kf_b hf
    refine k_callV C [.int (-1000000001 : Int32)] (mX6_finds e5) rfl (by decide) rfl kw_4_68 kw_4_70 kw_0_24 kw_1_7 kw_4_71 qX6_finds rfl ⟨by decide, by decide⟩ ⟨rfl, rfl⟩ (Nat.le_of_ble_eq_true rfl) dX6_turn_32 rfl ?_ rfl
    refine (show kV Z 3 35 [(0, kr Z 59), (1, .int v1), (2, .int v2)] [.int q4.1] q4.2 from ?_)
    exact k_iret C K hf dX6_turn_35
  · replace hf := kf_f hf b3
    refine k_iload_n C 2 dX6_turn_8 rfl rfl rfl ?_
    obtain ⟨q6, e7, hf⟩ := kf_b hf
    refine k_callS C [.int v2] (mX6_isKind e7) kw_4_141 kw_4_142 kw_1_7 kw_4_143 qX6_isKind rfl ⟨by decide, by decide⟩ ⟨rfl, rfl⟩ (Nat.le_of_ble_eq_true rfl) dX6_turn_9 rfl ?_ rfl
    refine (show kV Z 3 12 [(0, kr Z 59), (1, .int v1), (2, .int v2)] [.int q6.1] q6.2 from ?_)
    refine k_if_eq C 29 dX6_turn_12 rfl rfl (fun b8 => ?_) (fun b8 => ?_)
    · replace hf := kf_t hf b8
      refine k_aload_n C 0 dX6_turn_29 rfl rfl rfl ?_
      refine k_ldc C (-1000000001 : Int32) kw_4_67 dX6_turn_30 rfl ?_
      obtain ⟨q9, e10, hf⟩ := kf_b hf
      refine k_callV C [.int (-1000000001 : Int32)] (mX6_finds e10) rfl (by decide) rfl kw_4_68 kw_4_70 kw_0_24 kw_1_7 kw_4_71 qX6_finds rfl ⟨by decide, by decide⟩ ⟨rfl, rfl⟩ (Nat.le_of_ble_eq_true rfl) dX6_turn_32 rfl ?_ rfl
      refine (show kV Z 3 35 [(0, kr Z 59), (1, .int v1), (2, .int v2)] [.int q9.1] q9.2 from ?_)
      exact k_iret C K hf dX6_turn_35
    · replace hf := kf_f hf b8
      refine k_aload_n C 0 dX6_turn_15 rfl rfl rfl ?_
      refine k_bipush C (22 : Int32) dX6_turn_16 (by decide) rfl ?_
      refine k_iconst C (5 : Int32) dX6_turn_18 (by decide) rfl ?_
      refine k_iload_n C 1 dX6_turn_19 rfl rfl rfl ?_
      refine k_imul C dX6_turn_20 rfl ?_
      refine k_iadd C dX6_turn_21 rfl ?_
      refine k_iload_n C 2 dX6_turn_22 rfl rfl rfl ?_
      obtain ⟨q11, e12, hf⟩ := kf_b hf
      refine k_callV C [.int ((22 : Int32) + ((5 : Int32) * v1)), .int v2] (mX6_becomes e12) rfl (by decide) rfl kw_4_63 kw_4_65 kw_0_23 kw_1_7 kw_4_66 qX6_becomes rfl ⟨by decide, by decide⟩ ⟨rfl, rfl⟩ (Nat.le_of_ble_eq_true rfl) dX6_turn_23 rfl ?_ rfl
      refine (show kV Z 3 26 [(0, kr Z 59), (1, .int v1), (2, .int v2)] [.int q11.1] q11.2 from ?_)
      refine k_goto C 35 dX6_turn_26 rfl ?_
      exact k_iret C K hf dX6_turn_35
theorem mX6_turn {G : kG} {v1 : Int32} {v2 : Int32}  {st : kM} {res : Int32 × kM} (hf : fX6_turn v1 v2 st = some res) : kCt G yX6_turn cX6_turn 3 (some .int) rmX6_turn [.ref (G.2.1 59), .int v1, .int v2] st (some (.int res.1)) res.2 := kMet (by decide) (Nat.le_of_ble_eq_true rfl) ⟨rfl, rfl⟩ (fun X A Q C K => tX6_turn C  hf K)
theorem qX6_turn : yX6_turn.cls = RX6 ∧ yX6_turn.cls ≠ "java/lang/invoke/MethodHandle" ∧ yX6_turn.cls ≠ "java/lang/invoke/VarHandle" ∧ (parseMethodDescriptor yX6_turn.desc).map (fun d => d.parameters.length) = some 2 := ⟨rfl, by decide, by decide, by decide +kernel⟩
-- TalkKnotsModel.as(II)I
def rmX6_as : Room := { frames := 2, cells := 0, slots := 0, locals := 43 }
def fX6_as_63 (x1 : Int32) (y0 : Int32) (st : kM) : Option (Int32 × kM) :=
  if y0 = 0 then ((fX6_finds (-1000000003 : Int32) st).bind fun q2 => (some (q2.1, q2.2))) else ((fX6_its x1 (2 : Int32) st).bind fun q4 => (some (q4.1, q4.2)))
def fX6_as_62 (x1 : Int32) (st : kM) : Option (Int32 × kM) :=
  fX6_as_63 x1 (0 : Int32) st
def fX6_as_58 (x1 : Int32) (st : kM) : Option (Int32 × kM) :=
  fX6_as_63 x1 (1 : Int32) st
def fX6_as_48 (x1 : Int32) (x2 : Int32) (x3 : Int32) (st : kM) : Option (Int32 × kM) :=
  if x2 = (2 : Int32) then (if x3 = (5 : Int32) then (fX6_as_58 x1 st) else (fX6_as_62 x1 st)) else (fX6_as_62 x1 st)
def fX6_as (v1 : Int32) (v2 : Int32) (st : kM) : Option (Int32 × kM) :=
  (fX6_isOne v1 st).bind fun q1 => (if q1.1 = 0 then ((fX6_finds (-1000000001 : Int32) q1.2).bind fun q4 => (some (q4.1, q4.2))) else ((fX6_isKind v2 q1.2).bind fun q6 => (if q6.1 = 0 then ((fX6_finds (-1000000001 : Int32) q6.2).bind fun q15 => (some (q15.1, q15.2))) else ((fX6_its v1 (0 : Int32) q6.2).bind fun q9 => (if v2 = 0 then (fX6_as_58 v1 q9.2) else (if v2 = q9.1 then (fX6_as_58 v1 q9.2) else (if v2 = (1 : Int32) then (if q9.1 = (4 : Int32) then (fX6_as_58 v1 q9.2) else (fX6_as_48 v1 v2 q9.1 q9.2)) else (fX6_as_48 v1 v2 q9.1 q9.2))))))))
set_option maxRecDepth 100000 in
theorem tX6_as_63 {Z : kZ} (C : kC Z cX6_as RX6 5 rmX6_as) {res : Int32 × kM} (K : kEnd Z (some .int) (some (.int res.1)) res.2) : ∀ (x1 : Int32) (y0 : Int32) (st : kM), fX6_as_63 x1 y0 st = some res → kV Z 5 63 [(0, kr Z 59), (1, .int x1)] [.int y0] st := by
  intro x1 y0 st hf
  unfold fX6_as_63 at hf
  refine k_istore (lv' := [(4, .int y0), (0, kr Z 59), (1, .int x1)]) C dX6_as_63 (by decide) rfl rfl ?_
  refine k_iload C 0 dX6_as_65 rfl rfl ?_
  refine k_if_eq C 79 dX6_as_67 rfl rfl (fun b1 => ?_) (fun b1 => ?_)
  · replace hf := kf_t hf b1
    refine k_aload_n C 1 dX6_as_79 rfl rfl rfl ?_
    refine k_ldc C (-1000000003 : Int32) kw_4_188 dX6_as_80 rfl ?_
    obtain ⟨q2, e3, hf⟩ := kf_b hf
    refine k_callV C [.int (-1000000003 : Int32)] (mX6_finds e3) rfl (by decide) rfl kw_4_68 kw_4_70 kw_0_24 kw_1_7 kw_4_71 qX6_finds rfl ⟨by decide, by decide⟩ ⟨rfl, rfl⟩ (Nat.le_of_ble_eq_true rfl) dX6_as_82 rfl ?_ rfl
    refine (show kV Z 5 85 [(4, .int y0), (0, kr Z 59), (1, .int x1)] [.int q2.1] q2.2 from ?_)
    exact k_iret C K hf dX6_as_85
  · replace hf := kf_f hf b1
    refine k_aload_n C 1 dX6_as_70 rfl rfl rfl ?_
    refine k_iload_n C 2 dX6_as_71 rfl rfl rfl ?_
    refine k_iconst C (2 : Int32) dX6_as_72 (by decide) rfl ?_
    obtain ⟨q4, e5, hf⟩ := kf_b hf
    refine k_callV C [.int x1, .int (2 : Int32)] (mX6_its e5) rfl (by decide) rfl kw_4_95 kw_4_97 kw_0_27 kw_1_7 kw_4_98 qX6_its rfl ⟨by decide, by decide⟩ ⟨rfl, rfl⟩ (Nat.le_of_ble_eq_true rfl) dX6_as_73 rfl ?_ rfl
    refine (show kV Z 5 76 [(4, .int y0), (0, kr Z 59), (1, .int x1)] [.int q4.1] q4.2 from ?_)
    refine k_goto C 85 dX6_as_76 rfl ?_
    exact k_iret C K hf dX6_as_85
set_option maxRecDepth 100000 in
theorem tX6_as_62 {Z : kZ} (C : kC Z cX6_as RX6 5 rmX6_as) {res : Int32 × kM} (K : kEnd Z (some .int) (some (.int res.1)) res.2) : ∀ (x1 : Int32) (st : kM), fX6_as_62 x1 st = some res → kV Z 5 62 [(0, kr Z 59), (1, .int x1)] [] st := by
  intro x1 st hf
  unfold fX6_as_62 at hf
  refine k_iconst C (0 : Int32) dX6_as_62 (by decide) rfl ?_
  exact tX6_as_63 C K x1 (0 : Int32) st hf
set_option maxRecDepth 100000 in
theorem tX6_as_58 {Z : kZ} (C : kC Z cX6_as RX6 5 rmX6_as) {res : Int32 × kM} (K : kEnd Z (some .int) (some (.int res.1)) res.2) : ∀ (x1 : Int32) (st : kM), fX6_as_58 x1 st = some res → kV Z 5 58 [(0, kr Z 59), (1, .int x1)] [] st := by
  intro x1 st hf
  unfold fX6_as_58 at hf
  refine k_iconst C (1 : Int32) dX6_as_58 (by decide) rfl ?_
  refine k_goto C 63 dX6_as_59 rfl ?_
  exact tX6_as_63 C K x1 (1 : Int32) st hf
set_option maxRecDepth 100000 in
theorem tX6_as_48 {Z : kZ} (C : kC Z cX6_as RX6 5 rmX6_as) {res : Int32 × kM} (K : kEnd Z (some .int) (some (.int res.1)) res.2) : ∀ (x1 : Int32) (x2 : Int32) (x3 : Int32) (st : kM), fX6_as_48 x1 x2 x3 st = some res → kV Z 5 48 [(0, kr Z 59), (1, .int x1), (2, .int x2), (3, .int x3)] [] st := by
  intro x1 x2 x3 st hf
  unfold fX6_as_48 at hf
  refine k_iload_n C 2 dX6_as_48 rfl rfl rfl ?_
  refine k_iconst C (2 : Int32) dX6_as_49 (by decide) rfl ?_
  refine k_icmp_ne C 62 dX6_as_50 rfl rfl (fun b1 => ?_) (fun b1 => ?_)
  · replace hf := kf_f hf b1
    refine k_lv (lv' := [(0, kr Z 59), (1, .int x1)]) [0, 1] rfl ?_
    exact tX6_as_62 C K x1 st hf
  · replace hf := kf_t hf b1
    refine k_iload_n C 3 dX6_as_53 rfl rfl rfl ?_
    refine k_iconst C (5 : Int32) dX6_as_54 (by decide) rfl ?_
    refine k_icmp_ne C 62 dX6_as_55 rfl rfl (fun b2 => ?_) (fun b2 => ?_)
    · replace hf := kf_f hf b2
      refine k_lv (lv' := [(0, kr Z 59), (1, .int x1)]) [0, 1] rfl ?_
      exact tX6_as_62 C K x1 st hf
    · replace hf := kf_t hf b2
      refine k_lv (lv' := [(0, kr Z 59), (1, .int x1)]) [0, 1] rfl ?_
      exact tX6_as_58 C K x1 st hf
set_option maxRecDepth 100000 in
theorem tX6_as {Z : kZ} (C : kC Z cX6_as RX6 5 rmX6_as) {v1 : Int32} {v2 : Int32}  {st : kM} {res : Int32 × kM} (hf : fX6_as v1 v2 st = some res) (K : kEnd Z (some .int) (some (.int res.1)) res.2) : kV Z 5 0 [(0, kr Z 59), (1, .int v1), (2, .int v2)] [] st := by
  unfold fX6_as at hf
  refine k_aload_n C 0 dX6_as_0 rfl rfl rfl ?_
  refine k_iload_n C 1 dX6_as_1 rfl rfl rfl ?_
  obtain ⟨q1, e2, hf⟩ := kf_b hf
  refine k_callV C [.int v1] (mX6_isOne e2) rfl (by decide) rfl kw_4_157 kw_4_159 kw_0_37 kw_1_7 kw_4_160 qX6_isOne rfl ⟨by decide, by decide⟩ ⟨rfl, rfl⟩ (Nat.le_of_ble_eq_true rfl) dX6_as_2 rfl ?_ rfl
  refine (show kV Z 5 5 [(0, kr Z 59), (1, .int v1), (2, .int v2)] [.int q1.1] q1.2 from ?_)
  refine k_if_eq C 15 dX6_as_5 rfl rfl (fun b3 => ?_) (fun b3 => ?_)
  · replace hf := kf_t hf b3
    refine k_aload_n C 0 dX6_as_15 rfl rfl rfl ?_
    refine k_ldc C (-1000000001 : Int32) kw_4_67 dX6_as_16 rfl ?_
    obtain ⟨q4, e5, hf⟩ := kf_b hf
    refine k_callV C [.int (-1000000001 : Int32)] (mX6_finds e5) rfl (by decide) rfl kw_4_68 kw_4_70 kw_0_24 kw_1_7 kw_4_71 qX6_finds rfl ⟨by decide, by decide⟩ ⟨rfl, rfl⟩ (Nat.le_of_ble_eq_true rfl) dX6_as_18 rfl ?_ rfl
    refine (show kV Z 5 21 [(0, kr Z 59), (1, .int v1), (2, .int v2)] [.int q4.1] q4.2 from ?_)
    exact k_iret C K hf dX6_as_21
  · replace hf := kf_f hf b3
    refine k_iload_n C 2 dX6_as_8 rfl rfl rfl ?_
    obtain ⟨q6, e7, hf⟩ := kf_b hf
    refine k_callS C [.int v2] (mX6_isKind e7) kw_4_141 kw_4_142 kw_1_7 kw_4_143 qX6_isKind rfl ⟨by decide, by decide⟩ ⟨rfl, rfl⟩ (Nat.le_of_ble_eq_true rfl) dX6_as_9 rfl ?_ rfl
    refine (show kV Z 5 12 [(0, kr Z 59), (1, .int v1), (2, .int v2)] [.int q6.1] q6.2 from ?_)
    refine k_if_ne C 22 dX6_as_12 rfl rfl (fun b8 => ?_) (fun b8 => ?_)
    · replace hf := kf_f hf b8
      refine k_aload_n C 0 dX6_as_22 rfl rfl rfl ?_
      refine k_iload_n C 1 dX6_as_23 rfl rfl rfl ?_
      refine k_iconst C (0 : Int32) dX6_as_24 (by decide) rfl ?_
      obtain ⟨q9, e10, hf⟩ := kf_b hf
      refine k_callV C [.int v1, .int (0 : Int32)] (mX6_its e10) rfl (by decide) rfl kw_4_95 kw_4_97 kw_0_27 kw_1_7 kw_4_98 qX6_its rfl ⟨by decide, by decide⟩ ⟨rfl, rfl⟩ (Nat.le_of_ble_eq_true rfl) dX6_as_25 rfl ?_ rfl
      refine (show kV Z 5 28 [(0, kr Z 59), (1, .int v1), (2, .int v2)] [.int q9.1] q9.2 from ?_)
      refine k_istore_n (lv' := [(3, .int q9.1), (0, kr Z 59), (1, .int v1), (2, .int v2)]) C dX6_as_28 rfl (by decide) rfl rfl ?_
      refine k_iload_n C 3 dX6_as_29 rfl rfl rfl ?_
      refine k_if_eq C 58 dX6_as_30 rfl rfl (fun b11 => ?_) (fun b11 => ?_)
      · replace hf := kf_t hf b11
        refine k_lv (lv' := [(0, kr Z 59), (1, .int v1)]) [1, 2] rfl ?_
        exact tX6_as_58 C K v1 q9.2 hf
      · replace hf := kf_f hf b11
        refine k_iload_n C 3 dX6_as_33 rfl rfl rfl ?_
        refine k_iload_n C 0 dX6_as_34 rfl rfl rfl ?_
        refine k_icmp_eq C 58 dX6_as_35 rfl rfl (fun b12 => ?_) (fun b12 => ?_)
        · replace hf := kf_t hf b12
          refine k_lv (lv' := [(0, kr Z 59), (1, .int v1)]) [1, 2] rfl ?_
          exact tX6_as_58 C K v1 q9.2 hf
        · replace hf := kf_f hf b12
          refine k_iload_n C 3 dX6_as_38 rfl rfl rfl ?_
          refine k_iconst C (1 : Int32) dX6_as_39 (by decide) rfl ?_
          refine k_icmp_ne C 48 dX6_as_40 rfl rfl (fun b13 => ?_) (fun b13 => ?_)
          · replace hf := kf_f hf b13
            refine k_lv (lv' := [(0, kr Z 59), (1, .int v1), (2, .int v2), (3, .int q9.1)]) [1, 2, 3, 0] rfl ?_
            exact tX6_as_48 C K v1 v2 q9.1 q9.2 hf
          · replace hf := kf_t hf b13
            refine k_iload_n C 0 dX6_as_43 rfl rfl rfl ?_
            refine k_iconst C (4 : Int32) dX6_as_44 (by decide) rfl ?_
            refine k_icmp_eq C 58 dX6_as_45 rfl rfl (fun b14 => ?_) (fun b14 => ?_)
            · replace hf := kf_t hf b14
              refine k_lv (lv' := [(0, kr Z 59), (1, .int v1)]) [1, 2] rfl ?_
              exact tX6_as_58 C K v1 q9.2 hf
            · replace hf := kf_f hf b14
              refine k_lv (lv' := [(0, kr Z 59), (1, .int v1), (2, .int v2), (3, .int q9.1)]) [1, 2, 3, 0] rfl ?_
              exact tX6_as_48 C K v1 v2 q9.1 q9.2 hf
    · replace hf := kf_t hf b8
      refine k_aload_n C 0 dX6_as_15 rfl rfl rfl ?_
      refine k_ldc C (-1000000001 : Int32) kw_4_67 dX6_as_16 rfl ?_
      obtain ⟨q15, e16, hf⟩ := kf_b hf
      refine k_callV C [.int (-1000000001 : Int32)] (mX6_finds e16) rfl (by decide) rfl kw_4_68 kw_4_70 kw_0_24 kw_1_7 kw_4_71 qX6_finds rfl ⟨by decide, by decide⟩ ⟨rfl, rfl⟩ (Nat.le_of_ble_eq_true rfl) dX6_as_18 rfl ?_ rfl
      refine (show kV Z 5 21 [(0, kr Z 59), (1, .int v1), (2, .int v2)] [.int q15.1] q15.2 from ?_)
      exact k_iret C K hf dX6_as_21
theorem mX6_as {G : kG} {v1 : Int32} {v2 : Int32}  {st : kM} {res : Int32 × kM} (hf : fX6_as v1 v2 st = some res) : kCt G yX6_as cX6_as 5 (some .int) rmX6_as [.ref (G.2.1 59), .int v1, .int v2] st (some (.int res.1)) res.2 := kMet (by decide) (Nat.le_of_ble_eq_true rfl) ⟨rfl, rfl⟩ (fun X A Q C K => tX6_as C  hf K)
theorem qX6_as : yX6_as.cls = RX6 ∧ yX6_as.cls ≠ "java/lang/invoke/MethodHandle" ∧ yX6_as.cls ≠ "java/lang/invoke/VarHandle" ∧ (parseMethodDescriptor yX6_as.desc).map (fun d => d.parameters.length) = some 2 := ⟨rfl, by decide, by decide, by decide +kernel⟩
-- TalkKnotsModel.teases(I)V
def rmX6_teases : Room := { frames := 2, cells := 0, slots := 0, locals := 43 }
def fX6_teases (v1 : Int32) (st : kM) : Option (kM) :=
  (fX6_its v1 (2 : Int32) st).bind fun q1 => ((fX6_teasing v1 q1.2).bind fun q3 => ((fX6_held (q1.1 + q3.1) (0 : Int32) (99 : Int32) q3.2).bind fun q5 => ((fX6_puts v1 (2 : Int32) q5.1 q5.2).bind fun s7 => (some s7))))
set_option maxRecDepth 100000 in
theorem tX6_teases {Z : kZ} (C : kC Z cX6_teases RX6 2 rmX6_teases) {v1 : Int32}  {st : kM} {res : kM} (hf : fX6_teases v1 st = some res) (K : kEnd Z none none res) : kV Z 2 0 [(0, kr Z 59), (1, .int v1)] [] st := by
  unfold fX6_teases at hf
  refine k_aload_n C 0 dX6_teases_0 rfl rfl rfl ?_
  refine k_iload_n C 1 dX6_teases_1 rfl rfl rfl ?_
  refine k_iconst C (2 : Int32) dX6_teases_2 (by decide) rfl ?_
  refine k_aload_n C 0 dX6_teases_3 rfl rfl rfl ?_
  refine k_iload_n C 1 dX6_teases_4 rfl rfl rfl ?_
  refine k_iconst C (2 : Int32) dX6_teases_5 (by decide) rfl ?_
  obtain ⟨q1, e2, hf⟩ := kf_b hf
  refine k_callV C [.int v1, .int (2 : Int32)] (mX6_its e2) rfl (by decide) rfl kw_4_95 kw_4_97 kw_0_27 kw_1_7 kw_4_98 qX6_its rfl ⟨by decide, by decide⟩ ⟨rfl, rfl⟩ (Nat.le_of_ble_eq_true rfl) dX6_teases_6 rfl ?_ rfl
  refine (show kV Z 2 9 [(0, kr Z 59), (1, .int v1)] [.int q1.1, .int (2 : Int32), .int v1, kr Z 59] q1.2 from ?_)
  refine k_aload_n C 0 dX6_teases_9 rfl rfl rfl ?_
  refine k_iload_n C 1 dX6_teases_10 rfl rfl rfl ?_
  obtain ⟨q3, e4, hf⟩ := kf_b hf
  refine k_callV C [.int v1] (mX6_teasing e4) rfl (by decide) rfl kw_4_165 kw_4_167 kw_0_39 kw_1_7 kw_4_168 qX6_teasing rfl ⟨by decide, by decide⟩ ⟨rfl, rfl⟩ (Nat.le_of_ble_eq_true rfl) dX6_teases_11 rfl ?_ rfl
  refine (show kV Z 2 14 [(0, kr Z 59), (1, .int v1)] [.int q3.1, .int q1.1, .int (2 : Int32), .int v1, kr Z 59] q3.2 from ?_)
  refine k_iadd C dX6_teases_14 rfl ?_
  refine k_iconst C (0 : Int32) dX6_teases_15 (by decide) rfl ?_
  refine k_bipush C (99 : Int32) dX6_teases_16 (by decide) rfl ?_
  obtain ⟨q5, e6, hf⟩ := kf_b hf
  refine k_callS C [.int (q1.1 + q3.1), .int (0 : Int32), .int (99 : Int32)] (mX6_held e6) kw_4_118 kw_4_119 kw_1_7 kw_4_120 qX6_held rfl ⟨by decide, by decide⟩ ⟨rfl, rfl⟩ (Nat.le_of_ble_eq_true rfl) dX6_teases_18 rfl ?_ rfl
  refine (show kV Z 2 21 [(0, kr Z 59), (1, .int v1)] [.int q5.1, .int (2 : Int32), .int v1, kr Z 59] q5.2 from ?_)
  obtain ⟨s7, e8, hf⟩ := kf_b hf
  refine k_callV C [.int v1, .int (2 : Int32), .int q5.1] (mX6_puts e8) rfl (by decide) rfl kw_4_149 kw_4_151 kw_0_36 kw_1_7 kw_4_152 qX6_puts rfl ⟨by decide, by decide⟩ ⟨rfl, rfl⟩ (Nat.le_of_ble_eq_true rfl) dX6_teases_21 rfl ?_ rfl
  refine (show kV Z 2 24 [(0, kr Z 59), (1, .int v1)] [] s7 from ?_)
  exact k_vret C K hf dX6_teases_24
theorem mX6_teases {G : kG} {v1 : Int32}  {st : kM} {res : kM} (hf : fX6_teases v1 st = some res) : kCt G yX6_teases cX6_teases 2 none rmX6_teases [.ref (G.2.1 59), .int v1] st none res := kMet (by decide) (Nat.le_of_ble_eq_true rfl) ⟨rfl, rfl⟩ (fun X A Q C K => tX6_teases C  hf K)
theorem qX6_teases : yX6_teases.cls = RX6 ∧ yX6_teases.cls ≠ "java/lang/invoke/MethodHandle" ∧ yX6_teases.cls ≠ "java/lang/invoke/VarHandle" ∧ (parseMethodDescriptor yX6_teases.desc).map (fun d => d.parameters.length) = some 1 := ⟨rfl, by decide, by decide, by decide +kernel⟩
-- TalkKnotsModel.tease(I)I
def rmX6_tease : Room := { frames := 3, cells := 0, slots := 0, locals := 64 }
def fX6_tease (v1 : Int32) (st : kM) : Option (Int32 × kM) :=
  (fX6_isOne v1 st).bind fun q1 => (if q1.1 = 0 then ((fX6_finds (-1000000001 : Int32) q1.2).bind fun q8 => (some (q8.1, q8.2))) else ((fX6_teases v1 q1.2).bind fun s4 => ((fX6_its v1 (2 : Int32) s4).bind fun q6 => (some (q6.1, q6.2)))))
set_option maxRecDepth 100000 in
theorem tX6_tease {Z : kZ} (C : kC Z cX6_tease RX6 2 rmX6_tease) {v1 : Int32}  {st : kM} {res : Int32 × kM} (hf : fX6_tease v1 st = some res) (K : kEnd Z (some .int) (some (.int res.1)) res.2) : kV Z 2 0 [(0, kr Z 59), (1, .int v1)] [] st := by
  unfold fX6_tease at hf
  refine k_aload_n C 0 dX6_tease_0 rfl rfl rfl ?_
  refine k_iload_n C 1 dX6_tease_1 rfl rfl rfl ?_
  obtain ⟨q1, e2, hf⟩ := kf_b hf
  refine k_callV C [.int v1] (mX6_isOne e2) rfl (by decide) rfl kw_4_157 kw_4_159 kw_0_37 kw_1_7 kw_4_160 qX6_isOne rfl ⟨by decide, by decide⟩ ⟨rfl, rfl⟩ (Nat.le_of_ble_eq_true rfl) dX6_tease_2 rfl ?_ rfl
  refine (show kV Z 2 5 [(0, kr Z 59), (1, .int v1)] [.int q1.1] q1.2 from ?_)
  refine k_if_ne C 15 dX6_tease_5 rfl rfl (fun b3 => ?_) (fun b3 => ?_)
  · replace hf := kf_f hf b3
    refine k_aload_n C 0 dX6_tease_15 rfl rfl rfl ?_
    refine k_iload_n C 1 dX6_tease_16 rfl rfl rfl ?_
    obtain ⟨s4, e5, hf⟩ := kf_b hf
    refine k_callV C [.int v1] (mX6_teases e5) rfl (by decide) rfl kw_4_193 kw_4_195 kw_0_41 kw_1_7 kw_4_196 qX6_teases rfl ⟨by decide, by decide⟩ ⟨rfl, rfl⟩ (Nat.le_of_ble_eq_true rfl) dX6_tease_17 rfl ?_ rfl
    refine (show kV Z 2 20 [(0, kr Z 59), (1, .int v1)] [] s4 from ?_)
    refine k_aload_n C 0 dX6_tease_20 rfl rfl rfl ?_
    refine k_iload_n C 1 dX6_tease_21 rfl rfl rfl ?_
    refine k_iconst C (2 : Int32) dX6_tease_22 (by decide) rfl ?_
    obtain ⟨q6, e7, hf⟩ := kf_b hf
    refine k_callV C [.int v1, .int (2 : Int32)] (mX6_its e7) rfl (by decide) rfl kw_4_95 kw_4_97 kw_0_27 kw_1_7 kw_4_98 qX6_its rfl ⟨by decide, by decide⟩ ⟨rfl, rfl⟩ (Nat.le_of_ble_eq_true rfl) dX6_tease_23 rfl ?_ rfl
    refine (show kV Z 2 26 [(0, kr Z 59), (1, .int v1)] [.int q6.1] q6.2 from ?_)
    exact k_iret C K hf dX6_tease_26
  · replace hf := kf_t hf b3
    refine k_aload_n C 0 dX6_tease_8 rfl rfl rfl ?_
    refine k_ldc C (-1000000001 : Int32) kw_4_67 dX6_tease_9 rfl ?_
    obtain ⟨q8, e9, hf⟩ := kf_b hf
    refine k_callV C [.int (-1000000001 : Int32)] (mX6_finds e9) rfl (by decide) rfl kw_4_68 kw_4_70 kw_0_24 kw_1_7 kw_4_71 qX6_finds rfl ⟨by decide, by decide⟩ ⟨rfl, rfl⟩ (Nat.le_of_ble_eq_true rfl) dX6_tease_11 rfl ?_ rfl
    refine (show kV Z 2 14 [(0, kr Z 59), (1, .int v1)] [.int q8.1] q8.2 from ?_)
    exact k_iret C K hf dX6_tease_14
theorem mX6_tease {G : kG} {v1 : Int32}  {st : kM} {res : Int32 × kM} (hf : fX6_tease v1 st = some res) : kCt G yX6_tease cX6_tease 2 (some .int) rmX6_tease [.ref (G.2.1 59), .int v1] st (some (.int res.1)) res.2 := kMet (by decide) (Nat.le_of_ble_eq_true rfl) ⟨rfl, rfl⟩ (fun X A Q C K => tX6_tease C  hf K)
theorem qX6_tease : yX6_tease.cls = RX6 ∧ yX6_tease.cls ≠ "java/lang/invoke/MethodHandle" ∧ yX6_tease.cls ≠ "java/lang/invoke/VarHandle" ∧ (parseMethodDescriptor yX6_tease.desc).map (fun d => d.parameters.length) = some 1 := ⟨rfl, by decide, by decide, by decide +kernel⟩
-- TalkKnotsModel.tie(I)I
def rmX6_tie : Room := { frames := 2, cells := 0, slots := 0, locals := 43 }
def fX6_tie (v1 : Int32) (st : kM) : Option (Int32 × kM) :=
  (fX6_isOne v1 st).bind fun q1 => (if q1.1 = 0 then ((fX6_finds (-1000000001 : Int32) q1.2).bind fun q13 => (some (q13.1, q13.2))) else ((fX6_its v1 (3 : Int32) q1.2).bind fun q4 => (if q4.1 = (1 : Int32) then ((fX6_finds (-1000000005 : Int32) q4.2).bind fun q11 => (some (q11.1, q11.2))) else ((fX6_puts v1 (3 : Int32) (1 : Int32) q4.2).bind fun s7 => ((fX6_puts v1 (4 : Int32) (0 : Int32) s7).bind fun s9 => (some ((1 : Int32), s9)))))))
set_option maxRecDepth 100000 in
theorem tX6_tie {Z : kZ} (C : kC Z cX6_tie RX6 2 rmX6_tie) {v1 : Int32}  {st : kM} {res : Int32 × kM} (hf : fX6_tie v1 st = some res) (K : kEnd Z (some .int) (some (.int res.1)) res.2) : kV Z 2 0 [(0, kr Z 59), (1, .int v1)] [] st := by
  unfold fX6_tie at hf
  refine k_aload_n C 0 dX6_tie_0 rfl rfl rfl ?_
  refine k_iload_n C 1 dX6_tie_1 rfl rfl rfl ?_
  obtain ⟨q1, e2, hf⟩ := kf_b hf
  refine k_callV C [.int v1] (mX6_isOne e2) rfl (by decide) rfl kw_4_157 kw_4_159 kw_0_37 kw_1_7 kw_4_160 qX6_isOne rfl ⟨by decide, by decide⟩ ⟨rfl, rfl⟩ (Nat.le_of_ble_eq_true rfl) dX6_tie_2 rfl ?_ rfl
  refine (show kV Z 2 5 [(0, kr Z 59), (1, .int v1)] [.int q1.1] q1.2 from ?_)
  refine k_if_ne C 15 dX6_tie_5 rfl rfl (fun b3 => ?_) (fun b3 => ?_)
  · replace hf := kf_f hf b3
    refine k_aload_n C 0 dX6_tie_15 rfl rfl rfl ?_
    refine k_iload_n C 1 dX6_tie_16 rfl rfl rfl ?_
    refine k_iconst C (3 : Int32) dX6_tie_17 (by decide) rfl ?_
    obtain ⟨q4, e5, hf⟩ := kf_b hf
    refine k_callV C [.int v1, .int (3 : Int32)] (mX6_its e5) rfl (by decide) rfl kw_4_95 kw_4_97 kw_0_27 kw_1_7 kw_4_98 qX6_its rfl ⟨by decide, by decide⟩ ⟨rfl, rfl⟩ (Nat.le_of_ble_eq_true rfl) dX6_tie_18 rfl ?_ rfl
    refine (show kV Z 2 21 [(0, kr Z 59), (1, .int v1)] [.int q4.1] q4.2 from ?_)
    refine k_iconst C (1 : Int32) dX6_tie_21 (by decide) rfl ?_
    refine k_icmp_ne C 32 dX6_tie_22 rfl rfl (fun b6 => ?_) (fun b6 => ?_)
    · replace hf := kf_f hf b6
      refine k_aload_n C 0 dX6_tie_32 rfl rfl rfl ?_
      refine k_iload_n C 1 dX6_tie_33 rfl rfl rfl ?_
      refine k_iconst C (3 : Int32) dX6_tie_34 (by decide) rfl ?_
      refine k_iconst C (1 : Int32) dX6_tie_35 (by decide) rfl ?_
      obtain ⟨s7, e8, hf⟩ := kf_b hf
      refine k_callV C [.int v1, .int (3 : Int32), .int (1 : Int32)] (mX6_puts e8) rfl (by decide) rfl kw_4_149 kw_4_151 kw_0_36 kw_1_7 kw_4_152 qX6_puts rfl ⟨by decide, by decide⟩ ⟨rfl, rfl⟩ (Nat.le_of_ble_eq_true rfl) dX6_tie_36 rfl ?_ rfl
      refine (show kV Z 2 39 [(0, kr Z 59), (1, .int v1)] [] s7 from ?_)
      refine k_aload_n C 0 dX6_tie_39 rfl rfl rfl ?_
      refine k_iload_n C 1 dX6_tie_40 rfl rfl rfl ?_
      refine k_iconst C (4 : Int32) dX6_tie_41 (by decide) rfl ?_
      refine k_iconst C (0 : Int32) dX6_tie_42 (by decide) rfl ?_
      obtain ⟨s9, e10, hf⟩ := kf_b hf
      refine k_callV C [.int v1, .int (4 : Int32), .int (0 : Int32)] (mX6_puts e10) rfl (by decide) rfl kw_4_149 kw_4_151 kw_0_36 kw_1_7 kw_4_152 qX6_puts rfl ⟨by decide, by decide⟩ ⟨rfl, rfl⟩ (Nat.le_of_ble_eq_true rfl) dX6_tie_43 rfl ?_ rfl
      refine (show kV Z 2 46 [(0, kr Z 59), (1, .int v1)] [] s9 from ?_)
      refine k_iconst C (1 : Int32) dX6_tie_46 (by decide) rfl ?_
      exact k_iret C K hf dX6_tie_47
    · replace hf := kf_t hf b6
      refine k_aload_n C 0 dX6_tie_25 rfl rfl rfl ?_
      refine k_ldc C (-1000000005 : Int32) kw_4_201 dX6_tie_26 rfl ?_
      obtain ⟨q11, e12, hf⟩ := kf_b hf
      refine k_callV C [.int (-1000000005 : Int32)] (mX6_finds e12) rfl (by decide) rfl kw_4_68 kw_4_70 kw_0_24 kw_1_7 kw_4_71 qX6_finds rfl ⟨by decide, by decide⟩ ⟨rfl, rfl⟩ (Nat.le_of_ble_eq_true rfl) dX6_tie_28 rfl ?_ rfl
      refine (show kV Z 2 31 [(0, kr Z 59), (1, .int v1)] [.int q11.1] q11.2 from ?_)
      exact k_iret C K hf dX6_tie_31
  · replace hf := kf_t hf b3
    refine k_aload_n C 0 dX6_tie_8 rfl rfl rfl ?_
    refine k_ldc C (-1000000001 : Int32) kw_4_67 dX6_tie_9 rfl ?_
    obtain ⟨q13, e14, hf⟩ := kf_b hf
    refine k_callV C [.int (-1000000001 : Int32)] (mX6_finds e14) rfl (by decide) rfl kw_4_68 kw_4_70 kw_0_24 kw_1_7 kw_4_71 qX6_finds rfl ⟨by decide, by decide⟩ ⟨rfl, rfl⟩ (Nat.le_of_ble_eq_true rfl) dX6_tie_11 rfl ?_ rfl
    refine (show kV Z 2 14 [(0, kr Z 59), (1, .int v1)] [.int q13.1] q13.2 from ?_)
    exact k_iret C K hf dX6_tie_14
theorem mX6_tie {G : kG} {v1 : Int32}  {st : kM} {res : Int32 × kM} (hf : fX6_tie v1 st = some res) : kCt G yX6_tie cX6_tie 2 (some .int) rmX6_tie [.ref (G.2.1 59), .int v1] st (some (.int res.1)) res.2 := kMet (by decide) (Nat.le_of_ble_eq_true rfl) ⟨rfl, rfl⟩ (fun X A Q C K => tX6_tie C  hf K)
theorem qX6_tie : yX6_tie.cls = RX6 ∧ yX6_tie.cls ≠ "java/lang/invoke/MethodHandle" ∧ yX6_tie.cls ≠ "java/lang/invoke/VarHandle" ∧ (parseMethodDescriptor yX6_tie.desc).map (fun d => d.parameters.length) = some 1 := ⟨rfl, by decide, by decide, by decide +kernel⟩
-- TalkKnotsModel.cast(I)I
def rmX6_cast : Room := { frames := 2, cells := 0, slots := 0, locals := 43 }
def fX6_cast (v1 : Int32) (st : kM) : Option (Int32 × kM) :=
  (fX6_isOne v1 st).bind fun q1 => (if q1.1 = 0 then ((fX6_finds (-1000000001 : Int32) q1.2).bind fun q13 => (some (q13.1, q13.2))) else ((fX6_its v1 (3 : Int32) q1.2).bind fun q4 => (if q4.1 = 0 then ((fX6_finds (-1000000005 : Int32) q4.2).bind fun q11 => (some (q11.1, q11.2))) else ((fX6_puts v1 (3 : Int32) (0 : Int32) q4.2).bind fun s7 => ((fX6_its v1 (4 : Int32) s7).bind fun q9 => (some (q9.1, q9.2)))))))
set_option maxRecDepth 100000 in
theorem tX6_cast {Z : kZ} (C : kC Z cX6_cast RX6 2 rmX6_cast) {v1 : Int32}  {st : kM} {res : Int32 × kM} (hf : fX6_cast v1 st = some res) (K : kEnd Z (some .int) (some (.int res.1)) res.2) : kV Z 2 0 [(0, kr Z 59), (1, .int v1)] [] st := by
  unfold fX6_cast at hf
  refine k_aload_n C 0 dX6_cast_0 rfl rfl rfl ?_
  refine k_iload_n C 1 dX6_cast_1 rfl rfl rfl ?_
  obtain ⟨q1, e2, hf⟩ := kf_b hf
  refine k_callV C [.int v1] (mX6_isOne e2) rfl (by decide) rfl kw_4_157 kw_4_159 kw_0_37 kw_1_7 kw_4_160 qX6_isOne rfl ⟨by decide, by decide⟩ ⟨rfl, rfl⟩ (Nat.le_of_ble_eq_true rfl) dX6_cast_2 rfl ?_ rfl
  refine (show kV Z 2 5 [(0, kr Z 59), (1, .int v1)] [.int q1.1] q1.2 from ?_)
  refine k_if_ne C 15 dX6_cast_5 rfl rfl (fun b3 => ?_) (fun b3 => ?_)
  · replace hf := kf_f hf b3
    refine k_aload_n C 0 dX6_cast_15 rfl rfl rfl ?_
    refine k_iload_n C 1 dX6_cast_16 rfl rfl rfl ?_
    refine k_iconst C (3 : Int32) dX6_cast_17 (by decide) rfl ?_
    obtain ⟨q4, e5, hf⟩ := kf_b hf
    refine k_callV C [.int v1, .int (3 : Int32)] (mX6_its e5) rfl (by decide) rfl kw_4_95 kw_4_97 kw_0_27 kw_1_7 kw_4_98 qX6_its rfl ⟨by decide, by decide⟩ ⟨rfl, rfl⟩ (Nat.le_of_ble_eq_true rfl) dX6_cast_18 rfl ?_ rfl
    refine (show kV Z 2 21 [(0, kr Z 59), (1, .int v1)] [.int q4.1] q4.2 from ?_)
    refine k_if_ne C 31 dX6_cast_21 rfl rfl (fun b6 => ?_) (fun b6 => ?_)
    · replace hf := kf_f hf b6
      refine k_aload_n C 0 dX6_cast_31 rfl rfl rfl ?_
      refine k_iload_n C 1 dX6_cast_32 rfl rfl rfl ?_
      refine k_iconst C (3 : Int32) dX6_cast_33 (by decide) rfl ?_
      refine k_iconst C (0 : Int32) dX6_cast_34 (by decide) rfl ?_
      obtain ⟨s7, e8, hf⟩ := kf_b hf
      refine k_callV C [.int v1, .int (3 : Int32), .int (0 : Int32)] (mX6_puts e8) rfl (by decide) rfl kw_4_149 kw_4_151 kw_0_36 kw_1_7 kw_4_152 qX6_puts rfl ⟨by decide, by decide⟩ ⟨rfl, rfl⟩ (Nat.le_of_ble_eq_true rfl) dX6_cast_35 rfl ?_ rfl
      refine (show kV Z 2 38 [(0, kr Z 59), (1, .int v1)] [] s7 from ?_)
      refine k_aload_n C 0 dX6_cast_38 rfl rfl rfl ?_
      refine k_iload_n C 1 dX6_cast_39 rfl rfl rfl ?_
      refine k_iconst C (4 : Int32) dX6_cast_40 (by decide) rfl ?_
      obtain ⟨q9, e10, hf⟩ := kf_b hf
      refine k_callV C [.int v1, .int (4 : Int32)] (mX6_its e10) rfl (by decide) rfl kw_4_95 kw_4_97 kw_0_27 kw_1_7 kw_4_98 qX6_its rfl ⟨by decide, by decide⟩ ⟨rfl, rfl⟩ (Nat.le_of_ble_eq_true rfl) dX6_cast_41 rfl ?_ rfl
      refine (show kV Z 2 44 [(0, kr Z 59), (1, .int v1)] [.int q9.1] q9.2 from ?_)
      exact k_iret C K hf dX6_cast_44
    · replace hf := kf_t hf b6
      refine k_aload_n C 0 dX6_cast_24 rfl rfl rfl ?_
      refine k_ldc C (-1000000005 : Int32) kw_4_201 dX6_cast_25 rfl ?_
      obtain ⟨q11, e12, hf⟩ := kf_b hf
      refine k_callV C [.int (-1000000005 : Int32)] (mX6_finds e12) rfl (by decide) rfl kw_4_68 kw_4_70 kw_0_24 kw_1_7 kw_4_71 qX6_finds rfl ⟨by decide, by decide⟩ ⟨rfl, rfl⟩ (Nat.le_of_ble_eq_true rfl) dX6_cast_27 rfl ?_ rfl
      refine (show kV Z 2 30 [(0, kr Z 59), (1, .int v1)] [.int q11.1] q11.2 from ?_)
      exact k_iret C K hf dX6_cast_30
  · replace hf := kf_t hf b3
    refine k_aload_n C 0 dX6_cast_8 rfl rfl rfl ?_
    refine k_ldc C (-1000000001 : Int32) kw_4_67 dX6_cast_9 rfl ?_
    obtain ⟨q13, e14, hf⟩ := kf_b hf
    refine k_callV C [.int (-1000000001 : Int32)] (mX6_finds e14) rfl (by decide) rfl kw_4_68 kw_4_70 kw_0_24 kw_1_7 kw_4_71 qX6_finds rfl ⟨by decide, by decide⟩ ⟨rfl, rfl⟩ (Nat.le_of_ble_eq_true rfl) dX6_cast_11 rfl ?_ rfl
    refine (show kV Z 2 14 [(0, kr Z 59), (1, .int v1)] [.int q13.1] q13.2 from ?_)
    exact k_iret C K hf dX6_cast_14
theorem mX6_cast {G : kG} {v1 : Int32}  {st : kM} {res : Int32 × kM} (hf : fX6_cast v1 st = some res) : kCt G yX6_cast cX6_cast 2 (some .int) rmX6_cast [.ref (G.2.1 59), .int v1] st (some (.int res.1)) res.2 := kMet (by decide) (Nat.le_of_ble_eq_true rfl) ⟨rfl, rfl⟩ (fun X A Q C K => tX6_cast C  hf K)
theorem qX6_cast : yX6_cast.cls = RX6 ∧ yX6_cast.cls ≠ "java/lang/invoke/MethodHandle" ∧ yX6_cast.cls ≠ "java/lang/invoke/VarHandle" ∧ (parseMethodDescriptor yX6_cast.desc).map (fun d => d.parameters.length) = some 1 := ⟨rfl, by decide, by decide, by decide +kernel⟩
-- TalkKnotsModel.pulls(I)V
def rmX6_pulls : Room := { frames := 4, cells := 0, slots := 0, locals := 93 }
def fX6_pulls_74 : Nat → Int32 → Int32 → Int32 → kM → Option (kM)
  | 0, _, _, _, _ => none
  | n + 1, x1, x3, x4, st =>
    if (st.1 60 1) ≤ x4 then ((fX6_knotsOf x1 (1 : Int32) st).bind fun q2 => (if q2.1 = 0 then ((fX6_puts1 x1 (1 : Int32) (0 : Int32) q2.2).bind fun s5 => (some s5)) else (some q2.2))) else (if ((x3 >>> (x4 &&& 31)) &&& (1 : Int32)) = (1 : Int32) then ((fX6_puts x4 (3 : Int32) (0 : Int32) st).bind fun s12 => (fX6_pulls_74 n x1 x3 (x4 + (1 : Int32)) s12)) else ((fX6_its x4 (3 : Int32) st).bind fun q8 => ((fX6_puts x4 (3 : Int32) q8.1 q8.2).bind fun s10 => (fX6_pulls_74 n x1 x3 (x4 + (1 : Int32)) s10))))
def fX6_pulls_11 : Nat → Int32 → Int32 → Int32 → Int32 → kM → Option (kM)
  | 0, _, _, _, _, _ => none
  | n + 1, x1, x2, x3, x4, st =>
    if (st.1 60 1) ≤ x4 then (fX6_pulls_74 kfu x1 x3 (0 : Int32) st) else ((fX6_its x4 (1 : Int32) st).bind fun q2 => (if q2.1 = x1 then ((fX6_its x4 (3 : Int32) q2.2).bind fun q7 => (if q7.1 = (1 : Int32) then ((fX6_isGiving x4 x2 q7.2).bind fun q12 => (if q12.1 = 0 then ((some (x3 ||| (0 : Int32))).bind fun z15 => (fX6_pulls_11 n x1 x2 z15 (x4 + (1 : Int32)) q12.2)) else ((some (x3 ||| ((1 : Int32) <<< (x4 &&& 31)))).bind fun z17 => (fX6_pulls_11 n x1 x2 z17 (x4 + (1 : Int32)) q12.2)))) else ((some (x3 ||| (0 : Int32))).bind fun z10 => (fX6_pulls_11 n x1 x2 z10 (x4 + (1 : Int32)) q7.2)))) else ((some (x3 ||| (0 : Int32))).bind fun z5 => (fX6_pulls_11 n x1 x2 z5 (x4 + (1 : Int32)) q2.2))))
def fX6_pulls (v1 : Int32) (st : kM) : Option (kM) :=
  (fX6_strain v1 st).bind fun q1 => (fX6_pulls_11 kfu v1 q1.1 (0 : Int32) (0 : Int32) q1.2)
set_option maxRecDepth 100000 in
theorem tX6_pulls_74 {Z : kZ} (C : kC Z cX6_pulls RX6 5 rmX6_pulls) {res : kM} (K : kEnd Z none none res) : ∀ (n : Nat) (x1 : Int32) (x3 : Int32) (x4 : Int32) (st : kM), fX6_pulls_74 n x1 x3 x4 st = some res → kV Z 5 74 [(0, kr Z 59), (1, .int x1), (3, .int x3), (4, .int x4)] [] st := by
  intro n
  induction n with
  | zero => intro x1 x3 x4 st hf; cases hf
  | succ n ih =>
    intro x1 x3 x4 st hf
    unfold fX6_pulls_74 at hf
    refine k_iload C 3 dX6_pulls_74 rfl rfl ?_
    refine k_aload_n C 0 dX6_pulls_76 rfl rfl rfl ?_
    refine g_X6_row C rfl kw_3_238 dX6_pulls_77 rfl ?_
    refine k_iconst C (1 : Int32) dX6_pulls_80 (by decide) rfl ?_
    refine k_iald (j := 1) C ⟨rfl, rfl⟩ (by decide) rfl dX6_pulls_81 rfl ?_
    refine k_icmp_ge C 119 dX6_pulls_82 rfl rfl (fun b1 => ?_) (fun b1 => ?_)
    · replace hf := kf_t hf b1
      refine k_aload_n C 0 dX6_pulls_119 rfl rfl rfl ?_
      refine k_iload_n C 1 dX6_pulls_120 rfl rfl rfl ?_
      refine k_iconst C (1 : Int32) dX6_pulls_121 (by decide) rfl ?_
      obtain ⟨q2, e3, hf⟩ := kf_b hf
      refine k_callV C [.int x1, .int (1 : Int32)] (mX6_knotsOf e3) rfl (by decide) rfl kw_4_91 kw_4_93 kw_0_26 kw_1_7 kw_4_94 qX6_knotsOf rfl ⟨by decide, by decide⟩ ⟨rfl, rfl⟩ (Nat.le_of_ble_eq_true rfl) dX6_pulls_122 rfl ?_ rfl
      refine (show kV Z 5 125 [(0, kr Z 59), (1, .int x1), (3, .int x3), (4, .int x4)] [.int q2.1] q2.2 from ?_)
      refine k_if_ne C 135 dX6_pulls_125 rfl rfl (fun b4 => ?_) (fun b4 => ?_)
      · replace hf := kf_f hf b4
        exact k_vret C K hf dX6_pulls_135
      · replace hf := kf_t hf b4
        refine k_aload_n C 0 dX6_pulls_128 rfl rfl rfl ?_
        refine k_iload_n C 1 dX6_pulls_129 rfl rfl rfl ?_
        refine k_iconst C (1 : Int32) dX6_pulls_130 (by decide) rfl ?_
        refine k_iconst C (0 : Int32) dX6_pulls_131 (by decide) rfl ?_
        obtain ⟨s5, e6, hf⟩ := kf_b hf
        refine k_callV C [.int x1, .int (1 : Int32), .int (0 : Int32)] (mX6_puts1 e6) rfl (by decide) rfl kw_3_234 kw_3_236 kw_0_22 kw_1_7 kw_3_237 qX6_puts1 rfl ⟨by decide, by decide⟩ ⟨rfl, rfl⟩ (Nat.le_of_ble_eq_true rfl) dX6_pulls_132 rfl ?_ rfl
        refine (show kV Z 5 135 [(0, kr Z 59), (1, .int x1), (3, .int x3), (4, .int x4)] [] s5 from ?_)
        exact k_vret C K hf dX6_pulls_135
    · replace hf := kf_f hf b1
      refine k_aload_n C 0 dX6_pulls_85 rfl rfl rfl ?_
      refine k_iload C 3 dX6_pulls_86 rfl rfl ?_
      refine k_iconst C (3 : Int32) dX6_pulls_88 (by decide) rfl ?_
      refine k_iload_n C 2 dX6_pulls_89 rfl rfl rfl ?_
      refine k_iload C 3 dX6_pulls_90 rfl rfl ?_
      refine k_ishr C dX6_pulls_92 rfl ?_
      refine k_iconst C (1 : Int32) dX6_pulls_93 (by decide) rfl ?_
      refine k_iand C dX6_pulls_94 rfl ?_
      refine k_iconst C (1 : Int32) dX6_pulls_95 (by decide) rfl ?_
      refine k_icmp_ne C 103 dX6_pulls_96 rfl rfl (fun b7 => ?_) (fun b7 => ?_)
      · replace hf := kf_f hf b7
        refine k_aload_n C 0 dX6_pulls_103 rfl rfl rfl ?_
        refine k_iload C 3 dX6_pulls_104 rfl rfl ?_
        refine k_iconst C (3 : Int32) dX6_pulls_106 (by decide) rfl ?_
        obtain ⟨q8, e9, hf⟩ := kf_b hf
        refine k_callV C [.int x4, .int (3 : Int32)] (mX6_its e9) rfl (by decide) rfl kw_4_95 kw_4_97 kw_0_27 kw_1_7 kw_4_98 qX6_its rfl ⟨by decide, by decide⟩ ⟨rfl, rfl⟩ (Nat.le_of_ble_eq_true rfl) dX6_pulls_107 rfl ?_ rfl
        refine (show kV Z 5 110 [(0, kr Z 59), (1, .int x1), (3, .int x3), (4, .int x4)] [.int q8.1, .int (3 : Int32), .int x4, kr Z 59] q8.2 from ?_)
        obtain ⟨s10, e11, hf⟩ := kf_b hf
        refine k_callV C [.int x4, .int (3 : Int32), .int q8.1] (mX6_puts e11) rfl (by decide) rfl kw_4_149 kw_4_151 kw_0_36 kw_1_7 kw_4_152 qX6_puts rfl ⟨by decide, by decide⟩ ⟨rfl, rfl⟩ (Nat.le_of_ble_eq_true rfl) dX6_pulls_110 rfl ?_ rfl
        refine (show kV Z 5 113 [(0, kr Z 59), (1, .int x1), (3, .int x3), (4, .int x4)] [] s10 from ?_)
        refine k_iinc (lv' := [(4, .int (x4 + (1 : Int32))), (0, kr Z 59), (1, .int x1), (3, .int x3)]) C (x4 + (1 : Int32)) 3 dX6_pulls_113 rfl rfl (by decide) rfl rfl ?_
        refine k_goto C 74 dX6_pulls_116 rfl ?_
        refine k_lv (lv' := [(0, kr Z 59), (1, .int x1), (3, .int x3), (4, .int (x4 + (1 : Int32)))]) [1, 2, 3, 0] rfl ?_
        exact ih x1 x3 (x4 + (1 : Int32)) s10  hf
      · replace hf := kf_t hf b7
        refine k_iconst C (0 : Int32) dX6_pulls_99 (by decide) rfl ?_
        refine k_goto C 110 dX6_pulls_100 rfl ?_
        obtain ⟨s12, e13, hf⟩ := kf_b hf
        refine k_callV C [.int x4, .int (3 : Int32), .int (0 : Int32)] (mX6_puts e13) rfl (by decide) rfl kw_4_149 kw_4_151 kw_0_36 kw_1_7 kw_4_152 qX6_puts rfl ⟨by decide, by decide⟩ ⟨rfl, rfl⟩ (Nat.le_of_ble_eq_true rfl) dX6_pulls_110 rfl ?_ rfl
        refine (show kV Z 5 113 [(0, kr Z 59), (1, .int x1), (3, .int x3), (4, .int x4)] [] s12 from ?_)
        refine k_iinc (lv' := [(4, .int (x4 + (1 : Int32))), (0, kr Z 59), (1, .int x1), (3, .int x3)]) C (x4 + (1 : Int32)) 3 dX6_pulls_113 rfl rfl (by decide) rfl rfl ?_
        refine k_goto C 74 dX6_pulls_116 rfl ?_
        refine k_lv (lv' := [(0, kr Z 59), (1, .int x1), (3, .int x3), (4, .int (x4 + (1 : Int32)))]) [1, 2, 3, 0] rfl ?_
        exact ih x1 x3 (x4 + (1 : Int32)) s12  hf
set_option maxRecDepth 100000 in
theorem tX6_pulls_11 {Z : kZ} (C : kC Z cX6_pulls RX6 5 rmX6_pulls) {res : kM} (K : kEnd Z none none res) : ∀ (n : Nat) (x1 : Int32) (x2 : Int32) (x3 : Int32) (x4 : Int32) (st : kM), fX6_pulls_11 n x1 x2 x3 x4 st = some res → kV Z 5 11 [(0, kr Z 59), (1, .int x1), (2, .int x2), (3, .int x3), (4, .int x4)] [] st := by
  intro n
  induction n with
  | zero => intro x1 x2 x3 x4 st hf; cases hf
  | succ n ih =>
    intro x1 x2 x3 x4 st hf
    unfold fX6_pulls_11 at hf
    refine k_iload C 4 dX6_pulls_11 rfl rfl ?_
    refine k_aload_n C 0 dX6_pulls_13 rfl rfl rfl ?_
    refine g_X6_row C rfl kw_3_238 dX6_pulls_14 rfl ?_
    refine k_iconst C (1 : Int32) dX6_pulls_17 (by decide) rfl ?_
    refine k_iald (j := 1) C ⟨rfl, rfl⟩ (by decide) rfl dX6_pulls_18 rfl ?_
    refine k_icmp_ge C 71 dX6_pulls_19 rfl rfl (fun b1 => ?_) (fun b1 => ?_)
    · replace hf := kf_t hf b1
      refine k_iconst C (0 : Int32) dX6_pulls_71 (by decide) rfl ?_
      refine k_istore (lv' := [(4, .int (0 : Int32)), (0, kr Z 59), (1, .int x1), (2, .int x2), (3, .int x3)]) C dX6_pulls_72 (by decide) rfl rfl ?_
      refine k_lv (lv' := [(0, kr Z 59), (1, .int x1), (3, .int x3), (4, .int (0 : Int32))]) [1, 2, 4, 0] rfl ?_
      exact tX6_pulls_74 C K _ x1 x3 (0 : Int32) st hf
    · replace hf := kf_f hf b1
      refine k_iload_n C 3 dX6_pulls_22 rfl rfl rfl ?_
      refine k_aload_n C 0 dX6_pulls_23 rfl rfl rfl ?_
      refine k_iload C 4 dX6_pulls_24 rfl rfl ?_
      refine k_iconst C (1 : Int32) dX6_pulls_26 (by decide) rfl ?_
      obtain ⟨q2, e3, hf⟩ := kf_b hf
      refine k_callV C [.int x4, .int (1 : Int32)] (mX6_its e3) rfl (by decide) rfl kw_4_95 kw_4_97 kw_0_27 kw_1_7 kw_4_98 qX6_its rfl ⟨by decide, by decide⟩ ⟨rfl, rfl⟩ (Nat.le_of_ble_eq_true rfl) dX6_pulls_27 rfl ?_ rfl
      refine (show kV Z 5 30 [(0, kr Z 59), (1, .int x1), (2, .int x2), (3, .int x3), (4, .int x4)] [.int q2.1, .int x3] q2.2 from ?_)
      refine k_iload_n C 1 dX6_pulls_30 rfl rfl rfl ?_
      refine k_icmp_ne C 62 dX6_pulls_31 rfl rfl (fun b4 => ?_) (fun b4 => ?_)
      · replace hf := kf_f hf b4
        refine k_iconst C (0 : Int32) dX6_pulls_62 (by decide) rfl ?_
        refine k_ior C dX6_pulls_63 rfl ?_
        obtain ⟨z5, e6, hf⟩ := kf_b hf
        refine k_topi e6 ?_
        refine k_istore_n (lv' := [(3, .int z5), (0, kr Z 59), (1, .int x1), (2, .int x2), (4, .int x4)]) C dX6_pulls_64 rfl (by decide) rfl rfl ?_
        refine k_iinc (lv' := [(4, .int (x4 + (1 : Int32))), (3, .int z5), (0, kr Z 59), (1, .int x1), (2, .int x2)]) C (x4 + (1 : Int32)) 4 dX6_pulls_65 rfl rfl (by decide) rfl rfl ?_
        refine k_goto C 11 dX6_pulls_68 rfl ?_
        refine k_lv (lv' := [(0, kr Z 59), (1, .int x1), (2, .int x2), (3, .int z5), (4, .int (x4 + (1 : Int32)))]) [2, 3, 4, 1, 0] rfl ?_
        exact ih x1 x2 z5 (x4 + (1 : Int32)) q2.2  hf
      · replace hf := kf_t hf b4
        refine k_aload_n C 0 dX6_pulls_34 rfl rfl rfl ?_
        refine k_iload C 4 dX6_pulls_35 rfl rfl ?_
        refine k_iconst C (3 : Int32) dX6_pulls_37 (by decide) rfl ?_
        obtain ⟨q7, e8, hf⟩ := kf_b hf
        refine k_callV C [.int x4, .int (3 : Int32)] (mX6_its e8) rfl (by decide) rfl kw_4_95 kw_4_97 kw_0_27 kw_1_7 kw_4_98 qX6_its rfl ⟨by decide, by decide⟩ ⟨rfl, rfl⟩ (Nat.le_of_ble_eq_true rfl) dX6_pulls_38 rfl ?_ rfl
        refine (show kV Z 5 41 [(0, kr Z 59), (1, .int x1), (2, .int x2), (3, .int x3), (4, .int x4)] [.int q7.1, .int x3] q7.2 from ?_)
        refine k_iconst C (1 : Int32) dX6_pulls_41 (by decide) rfl ?_
        refine k_icmp_ne C 62 dX6_pulls_42 rfl rfl (fun b9 => ?_) (fun b9 => ?_)
        · replace hf := kf_f hf b9
          refine k_iconst C (0 : Int32) dX6_pulls_62 (by decide) rfl ?_
          refine k_ior C dX6_pulls_63 rfl ?_
          obtain ⟨z10, e11, hf⟩ := kf_b hf
          refine k_topi e11 ?_
          refine k_istore_n (lv' := [(3, .int z10), (0, kr Z 59), (1, .int x1), (2, .int x2), (4, .int x4)]) C dX6_pulls_64 rfl (by decide) rfl rfl ?_
          refine k_iinc (lv' := [(4, .int (x4 + (1 : Int32))), (3, .int z10), (0, kr Z 59), (1, .int x1), (2, .int x2)]) C (x4 + (1 : Int32)) 4 dX6_pulls_65 rfl rfl (by decide) rfl rfl ?_
          refine k_goto C 11 dX6_pulls_68 rfl ?_
          refine k_lv (lv' := [(0, kr Z 59), (1, .int x1), (2, .int x2), (3, .int z10), (4, .int (x4 + (1 : Int32)))]) [2, 3, 4, 1, 0] rfl ?_
          exact ih x1 x2 z10 (x4 + (1 : Int32)) q7.2  hf
        · replace hf := kf_t hf b9
          refine k_aload_n C 0 dX6_pulls_45 rfl rfl rfl ?_
          refine k_iload C 4 dX6_pulls_46 rfl rfl ?_
          refine k_iload_n C 2 dX6_pulls_48 rfl rfl rfl ?_
          obtain ⟨q12, e13, hf⟩ := kf_b hf
          refine k_callV C [.int x4, .int x2] (mX6_isGiving e13) rfl (by decide) rfl kw_4_169 kw_4_171 kw_0_40 kw_1_7 kw_4_172 qX6_isGiving rfl ⟨by decide, by decide⟩ ⟨rfl, rfl⟩ (Nat.le_of_ble_eq_true rfl) dX6_pulls_49 rfl ?_ rfl
          refine (show kV Z 5 52 [(0, kr Z 59), (1, .int x1), (2, .int x2), (3, .int x3), (4, .int x4)] [.int q12.1, .int x3] q12.2 from ?_)
          refine k_if_eq C 62 dX6_pulls_52 rfl rfl (fun b14 => ?_) (fun b14 => ?_)
          · replace hf := kf_t hf b14
            refine k_iconst C (0 : Int32) dX6_pulls_62 (by decide) rfl ?_
            refine k_ior C dX6_pulls_63 rfl ?_
            obtain ⟨z15, e16, hf⟩ := kf_b hf
            refine k_topi e16 ?_
            refine k_istore_n (lv' := [(3, .int z15), (0, kr Z 59), (1, .int x1), (2, .int x2), (4, .int x4)]) C dX6_pulls_64 rfl (by decide) rfl rfl ?_
            refine k_iinc (lv' := [(4, .int (x4 + (1 : Int32))), (3, .int z15), (0, kr Z 59), (1, .int x1), (2, .int x2)]) C (x4 + (1 : Int32)) 4 dX6_pulls_65 rfl rfl (by decide) rfl rfl ?_
            refine k_goto C 11 dX6_pulls_68 rfl ?_
            refine k_lv (lv' := [(0, kr Z 59), (1, .int x1), (2, .int x2), (3, .int z15), (4, .int (x4 + (1 : Int32)))]) [2, 3, 4, 1, 0] rfl ?_
            exact ih x1 x2 z15 (x4 + (1 : Int32)) q12.2  hf
          · replace hf := kf_f hf b14
            refine k_iconst C (1 : Int32) dX6_pulls_55 (by decide) rfl ?_
            refine k_iload C 4 dX6_pulls_56 rfl rfl ?_
            refine k_ishl C dX6_pulls_58 rfl ?_
            refine k_goto C 63 dX6_pulls_59 rfl ?_
            refine k_ior C dX6_pulls_63 rfl ?_
            obtain ⟨z17, e18, hf⟩ := kf_b hf
            refine k_topi e18 ?_
            refine k_istore_n (lv' := [(3, .int z17), (0, kr Z 59), (1, .int x1), (2, .int x2), (4, .int x4)]) C dX6_pulls_64 rfl (by decide) rfl rfl ?_
            refine k_iinc (lv' := [(4, .int (x4 + (1 : Int32))), (3, .int z17), (0, kr Z 59), (1, .int x1), (2, .int x2)]) C (x4 + (1 : Int32)) 4 dX6_pulls_65 rfl rfl (by decide) rfl rfl ?_
            refine k_goto C 11 dX6_pulls_68 rfl ?_
            refine k_lv (lv' := [(0, kr Z 59), (1, .int x1), (2, .int x2), (3, .int z17), (4, .int (x4 + (1 : Int32)))]) [2, 3, 4, 1, 0] rfl ?_
            exact ih x1 x2 z17 (x4 + (1 : Int32)) q12.2  hf
set_option maxRecDepth 100000 in
theorem tX6_pulls {Z : kZ} (C : kC Z cX6_pulls RX6 5 rmX6_pulls) {v1 : Int32}  {st : kM} {res : kM} (hf : fX6_pulls v1 st = some res) (K : kEnd Z none none res) : kV Z 5 0 [(0, kr Z 59), (1, .int v1)] [] st := by
  unfold fX6_pulls at hf
  refine k_aload_n C 0 dX6_pulls_0 rfl rfl rfl ?_
  refine k_iload_n C 1 dX6_pulls_1 rfl rfl rfl ?_
  obtain ⟨q1, e2, hf⟩ := kf_b hf
  refine k_callV C [.int v1] (mX6_strain e2) rfl (by decide) rfl kw_4_99 kw_4_101 kw_0_28 kw_1_7 kw_4_102 qX6_strain rfl ⟨by decide, by decide⟩ ⟨rfl, rfl⟩ (Nat.le_of_ble_eq_true rfl) dX6_pulls_2 rfl ?_ rfl
  refine (show kV Z 5 5 [(0, kr Z 59), (1, .int v1)] [.int q1.1] q1.2 from ?_)
  refine k_istore_n (lv' := [(2, .int q1.1), (0, kr Z 59), (1, .int v1)]) C dX6_pulls_5 rfl (by decide) rfl rfl ?_
  refine k_iconst C (0 : Int32) dX6_pulls_6 (by decide) rfl ?_
  refine k_istore_n (lv' := [(3, .int (0 : Int32)), (2, .int q1.1), (0, kr Z 59), (1, .int v1)]) C dX6_pulls_7 rfl (by decide) rfl rfl ?_
  refine k_iconst C (0 : Int32) dX6_pulls_8 (by decide) rfl ?_
  refine k_istore (lv' := [(4, .int (0 : Int32)), (3, .int (0 : Int32)), (2, .int q1.1), (0, kr Z 59), (1, .int v1)]) C dX6_pulls_9 (by decide) rfl rfl ?_
  refine k_lv (lv' := [(0, kr Z 59), (1, .int v1), (2, .int q1.1), (3, .int (0 : Int32)), (4, .int (0 : Int32))]) [3, 4, 2, 1, 0] rfl ?_
  exact tX6_pulls_11 C K _ v1 q1.1 (0 : Int32) (0 : Int32) q1.2 hf
theorem mX6_pulls {G : kG} {v1 : Int32}  {st : kM} {res : kM} (hf : fX6_pulls v1 st = some res) : kCt G yX6_pulls cX6_pulls 5 none rmX6_pulls [.ref (G.2.1 59), .int v1] st none res := kMet (by decide) (Nat.le_of_ble_eq_true rfl) ⟨rfl, rfl⟩ (fun X A Q C K => tX6_pulls C  hf K)
theorem qX6_pulls : yX6_pulls.cls = RX6 ∧ yX6_pulls.cls ≠ "java/lang/invoke/MethodHandle" ∧ yX6_pulls.cls ≠ "java/lang/invoke/VarHandle" ∧ (parseMethodDescriptor yX6_pulls.desc).map (fun d => d.parameters.length) = some 1 := ⟨rfl, by decide, by decide, by decide +kernel⟩
