-- TalkKnotsModel.isLetter(I)Z
def rmX6_isLetter : Room := { frames := 1, cells := 0, slots := 0, locals := 22 }
def fX6_isLetter (v0 : Int32) (st : kM) : Option (Int32 × kM) :=
  (fX6_in v0 (97 : Int32) (122 : Int32) st).bind fun q1 => (if q1.1 = 0 ∨ q1.1 = 1 then some (q1.1, q1.2) else none)
set_option maxRecDepth 100000 in
theorem tX6_isLetter {Z : kZ} (C : kC Z cX6_isLetter RX6 1 rmX6_isLetter) {v0 : Int32}  {st : kM} {res : Int32 × kM} (hf : fX6_isLetter v0 st = some res) (K : kEnd Z (some .boolean) (some (.int res.1)) res.2) : kV Z 1 0 [(0, .int v0)] [] st := by
  unfold fX6_isLetter at hf
  refine k_iload_n C 0 dX6_isLetter_0 rfl rfl rfl ?_
  refine k_bipush C (97 : Int32) dX6_isLetter_1 (by decide) rfl ?_
  refine k_bipush C (122 : Int32) dX6_isLetter_3 (by decide) rfl ?_
  obtain ⟨q1, e2, hf⟩ := kf_b hf
  refine k_callS C [.int v0, .int (97 : Int32), .int (122 : Int32)] (mX6_in e2) kw_4_60 kw_4_61 kw_1_7 kw_4_62 qX6_in rfl ⟨by decide, by decide⟩ ⟨rfl, rfl⟩ (Nat.le_of_ble_eq_true rfl) dX6_isLetter_5 rfl ?_ rfl
  refine (show kV Z 1 8 [(0, .int v0)] [.int q1.1] q1.2 from ?_)
  obtain ⟨g0, hf⟩ := kf_y hf
  exact k_zret C K hf (kb_n g0) dX6_isLetter_8
theorem mX6_isLetter {G : kG} {v0 : Int32}  {st : kM} {res : Int32 × kM} (hf : fX6_isLetter v0 st = some res) : kCt G yX6_isLetter cX6_isLetter 1 (some .boolean) rmX6_isLetter [.int v0] st (some (.int res.1)) res.2 := kMet (by decide) (Nat.le_of_ble_eq_true rfl) ⟨rfl, rfl⟩ (fun X A Q C K => tX6_isLetter C  hf K)
theorem qX6_isLetter : yX6_isLetter.cls ≠ "java/lang/invoke/MethodHandle" ∧ yX6_isLetter.cls ≠ "java/lang/invoke/VarHandle" ∧ (parseMethodDescriptor yX6_isLetter.desc).map (fun d => d.parameters.length) = some 1 := ⟨by decide, by decide, by decide +kernel⟩
-- TalkKnotsModel.isDigit(I)Z
def rmX6_isDigit : Room := { frames := 1, cells := 0, slots := 0, locals := 22 }
def fX6_isDigit (v0 : Int32) (st : kM) : Option (Int32 × kM) :=
  (fX6_in v0 (48 : Int32) (57 : Int32) st).bind fun q1 => (if q1.1 = 0 ∨ q1.1 = 1 then some (q1.1, q1.2) else none)
set_option maxRecDepth 100000 in
theorem tX6_isDigit {Z : kZ} (C : kC Z cX6_isDigit RX6 1 rmX6_isDigit) {v0 : Int32}  {st : kM} {res : Int32 × kM} (hf : fX6_isDigit v0 st = some res) (K : kEnd Z (some .boolean) (some (.int res.1)) res.2) : kV Z 1 0 [(0, .int v0)] [] st := by
  unfold fX6_isDigit at hf
  refine k_iload_n C 0 dX6_isDigit_0 rfl rfl rfl ?_
  refine k_bipush C (48 : Int32) dX6_isDigit_1 (by decide) rfl ?_
  refine k_bipush C (57 : Int32) dX6_isDigit_3 (by decide) rfl ?_
  obtain ⟨q1, e2, hf⟩ := kf_b hf
  refine k_callS C [.int v0, .int (48 : Int32), .int (57 : Int32)] (mX6_in e2) kw_4_60 kw_4_61 kw_1_7 kw_4_62 qX6_in rfl ⟨by decide, by decide⟩ ⟨rfl, rfl⟩ (Nat.le_of_ble_eq_true rfl) dX6_isDigit_5 rfl ?_ rfl
  refine (show kV Z 1 8 [(0, .int v0)] [.int q1.1] q1.2 from ?_)
  obtain ⟨g0, hf⟩ := kf_y hf
  exact k_zret C K hf (kb_n g0) dX6_isDigit_8
theorem mX6_isDigit {G : kG} {v0 : Int32}  {st : kM} {res : Int32 × kM} (hf : fX6_isDigit v0 st = some res) : kCt G yX6_isDigit cX6_isDigit 1 (some .boolean) rmX6_isDigit [.int v0] st (some (.int res.1)) res.2 := kMet (by decide) (Nat.le_of_ble_eq_true rfl) ⟨rfl, rfl⟩ (fun X A Q C K => tX6_isDigit C  hf K)
theorem qX6_isDigit : yX6_isDigit.cls ≠ "java/lang/invoke/MethodHandle" ∧ yX6_isDigit.cls ≠ "java/lang/invoke/VarHandle" ∧ (parseMethodDescriptor yX6_isDigit.desc).map (fun d => d.parameters.length) = some 1 := ⟨by decide, by decide, by decide +kernel⟩
-- TalkKnotsModel.advance()V
def rmX6_advance : Room := { frames := 2, cells := 0, slots := 0, locals := 42 }
def fX6_advance_207 : Nat → kM → Option (kM)
  | 0, _ => none
  | n + 1, st =>
    if (st.1 59 6) = (2 : Int32) then ((fX6_byteAt (st.1 59 8) st).bind fun q2 => ((fX6_isDigit q2.1 q2.2).bind fun q4 => (if q4.1 = 0 then (some q4.2) else (if (q4.2.1 59 10) ≤ (999 : Int32) then ((fX6_byteAt (q4.2.1 59 8) q4.2).bind fun q8 => ((some (kwr q8.2 59 10 ((((10 : Int32) * (q4.2.1 59 10)) + q8.1) - (48 : Int32)))).bind fun s10 => ((some (kwr s10 59 8 ((s10.1 59 8) + (1 : Int32)))).bind fun s12 => (fX6_advance_207 n s12)))) else ((some (kwr q4.2 59 10 (10000 : Int32))).bind fun s14 => ((some (kwr s14 59 8 ((s14.1 59 8) + (1 : Int32)))).bind fun s16 => (fX6_advance_207 n s16))))))) else (some st)
def fX6_advance_126 : Nat → kM → Option (kM)
  | 0, _ => none
  | n + 1, st =>
    if (st.1 59 6) = (1 : Int32) then ((fX6_byteAt (st.1 59 8) st).bind fun q2 => ((fX6_isLetter q2.1 q2.2).bind fun q4 => (if q4.1 = 0 then (fX6_advance_207 kfu q4.2) else (if (12 : Int32) ≤ ((q4.2.1 59 8) - (q4.2.1 59 7)) then ((some (kwl q4.2 59 9 (-1 : Int64))).bind fun s8 => ((some (kwr s8 59 8 ((s8.1 59 8) + (1 : Int32)))).bind fun s10 => (fX6_advance_126 n s10))) else ((fX6_byteAt (q4.2.1 59 8) q4.2).bind fun q12 => ((some (kwl q12.2 59 9 ((((27 : Int64) * (q4.2.2 59 9)) + (q12.1.toInt64)) - (96 : Int64)))).bind fun s14 => ((some (kwr s14 59 8 ((s14.1 59 8) + (1 : Int32)))).bind fun s16 => (fX6_advance_126 n s16)))))))) else (fX6_advance_207 kfu st)
def fX6_advance_105 (y0 : Int32) (st : kM) : Option (kM) :=
  (some (kwr st 59 10 y0)).bind fun s1 => (if (s1.1 59 6) = (3 : Int32) then ((some (kwr s1 59 8 ((s1.1 59 8) + (1 : Int32)))).bind fun s4 => (fX6_advance_126 kfu s4)) else (fX6_advance_126 kfu s1))
def fX6_advance_83 (x1 : Int32) (y0 : Int32) (st : kM) : Option (kM) :=
  (some (kwr st 59 6 y0)).bind fun s1 => ((some (kwl s1 59 9 (0 : Int64))).bind fun s3 => (if (s3.1 59 6) = (2 : Int32) then (fX6_advance_105 (0 : Int32) s3) else (fX6_advance_105 x1 s3)))
def fX6_advance_8 : Nat → kM → Option (kM)
  | 0, _ => none
  | n + 1, st =>
    (fX6_byteAt (st.1 59 7) st).bind fun q1 => (if q1.1 = (32 : Int32) then ((some (kwr q1.2 59 7 ((q1.2.1 59 7) + (1 : Int32)))).bind fun s15 => (fX6_advance_8 n s15)) else ((some (kwr q1.2 59 8 (q1.2.1 59 7))).bind fun s4 => ((fX6_byteAt (s4.1 59 7) s4).bind fun q6 => (if 0 ≤ q6.1 then ((fX6_isLetter q6.1 q6.2).bind fun q9 => (if q9.1 = 0 then ((fX6_isDigit q6.1 q9.2).bind fun q12 => (if q12.1 = 0 then (fX6_advance_83 q6.1 (3 : Int32) q12.2) else (fX6_advance_83 q6.1 (2 : Int32) q12.2))) else (fX6_advance_83 q6.1 (1 : Int32) q9.2))) else (fX6_advance_83 q6.1 (0 : Int32) q6.2)))))
def fX6_advance (st : kM) : Option (kM) :=
  (some (kwr st 59 7 (st.1 59 8))).bind fun s1 => (fX6_advance_8 kfu s1)
set_option maxRecDepth 100000 in
theorem tX6_advance_207 {Z : kZ} (C : kC Z cX6_advance RX6 2 rmX6_advance) {res : kM} (K : kEnd Z none none res) : ∀ (n : Nat) (st : kM), fX6_advance_207 n st = some res → kV Z 2 207 [(0, kr Z 59)] [] st := by
  intro n
  induction n with
  | zero => intro st hf; cases hf
  | succ n ih =>
    intro st hf
    unfold fX6_advance_207 at hf
    refine k_aload_n C 0 dX6_advance_207 rfl rfl rfl ?_
    refine g_X6_sort C rfl kw_4_4 dX6_advance_208 rfl ?_
    refine k_iconst C (2 : Int32) dX6_advance_211 (by decide) rfl ?_
    refine k_icmp_ne C 281 dX6_advance_212 rfl rfl (fun b1 => ?_) (fun b1 => ?_)
    · replace hf := kf_f hf b1
      exact k_vret C K hf dX6_advance_281
    · replace hf := kf_t hf b1
      refine k_aload_n C 0 dX6_advance_215 rfl rfl rfl ?_
      refine k_aload_n C 0 dX6_advance_216 rfl rfl rfl ?_
      refine g_X6_tokenEnds C rfl kw_4_6 dX6_advance_217 rfl ?_
      obtain ⟨q2, e3, hf⟩ := kf_b hf
      refine k_callV C [.int (st.1 59 8)] (mX6_byteAt e3) rfl (by decide) rfl kw_5_56 kw_5_58 kw_0_49 kw_1_7 kw_5_59 qX6_byteAt rfl ⟨by decide, by decide⟩ ⟨rfl, rfl⟩ (Nat.le_of_ble_eq_true rfl) dX6_advance_220 rfl ?_ rfl
      refine (show kV Z 2 223 [(0, kr Z 59)] [.int q2.1] q2.2 from ?_)
      obtain ⟨q4, e5, hf⟩ := kf_b hf
      refine k_callS C [.int q2.1] (mX6_isDigit e5) kw_5_63 kw_5_64 kw_1_7 kw_5_65 qX6_isDigit rfl ⟨by decide, by decide⟩ ⟨rfl, rfl⟩ (Nat.le_of_ble_eq_true rfl) dX6_advance_223 rfl ?_ rfl
      refine (show kV Z 2 226 [(0, kr Z 59)] [.int q4.1] q4.2 from ?_)
      refine k_if_eq C 281 dX6_advance_226 rfl rfl (fun b6 => ?_) (fun b6 => ?_)
      · replace hf := kf_t hf b6
        exact k_vret C K hf dX6_advance_281
      · replace hf := kf_f hf b6
        refine k_aload_n C 0 dX6_advance_229 rfl rfl rfl ?_
        refine k_aload_n C 0 dX6_advance_230 rfl rfl rfl ?_
        refine g_X6_value C rfl kw_4_8 dX6_advance_231 rfl ?_
        refine k_sipush C (999 : Int32) dX6_advance_234 (by decide) rfl ?_
        refine k_icmp_le C 246 dX6_advance_237 rfl rfl (fun b7 => ?_) (fun b7 => ?_)
        · replace hf := kf_t hf b7
          refine k_bipush C (10 : Int32) dX6_advance_246 (by decide) rfl ?_
          refine k_aload_n C 0 dX6_advance_248 rfl rfl rfl ?_
          refine g_X6_value C rfl kw_4_8 dX6_advance_249 rfl ?_
          refine k_imul C dX6_advance_252 rfl ?_
          refine k_aload_n C 0 dX6_advance_253 rfl rfl rfl ?_
          refine k_aload_n C 0 dX6_advance_254 rfl rfl rfl ?_
          refine g_X6_tokenEnds C rfl kw_4_6 dX6_advance_255 rfl ?_
          obtain ⟨q8, e9, hf⟩ := kf_b hf
          refine k_callV C [.int (q4.2.1 59 8)] (mX6_byteAt e9) rfl (by decide) rfl kw_5_56 kw_5_58 kw_0_49 kw_1_7 kw_5_59 qX6_byteAt rfl ⟨by decide, by decide⟩ ⟨rfl, rfl⟩ (Nat.le_of_ble_eq_true rfl) dX6_advance_258 rfl ?_ rfl
          refine (show kV Z 2 261 [(0, kr Z 59)] [.int q8.1, .int ((10 : Int32) * (q4.2.1 59 10)), kr Z 59] q8.2 from ?_)
          refine k_iadd C dX6_advance_261 rfl ?_
          refine k_bipush C (48 : Int32) dX6_advance_262 (by decide) rfl ?_
          refine k_isub C dX6_advance_264 rfl ?_
          refine p_X6_value C rfl kw_4_8 dX6_advance_265 rfl ?_
          obtain ⟨s10, e11, hf⟩ := kf_b hf
          refine k_st e11 ?_
          refine k_aload_n C 0 dX6_advance_268 rfl rfl rfl ?_
          refine k_dup C rfl dX6_advance_269 rfl ?_
          refine g_X6_tokenEnds C rfl kw_4_6 dX6_advance_270 rfl ?_
          refine k_iconst C (1 : Int32) dX6_advance_273 (by decide) rfl ?_
          refine k_iadd C dX6_advance_274 rfl ?_
          refine p_X6_tokenEnds C rfl kw_4_6 dX6_advance_275 rfl ?_
          obtain ⟨s12, e13, hf⟩ := kf_b hf
          refine k_st e13 ?_
          refine k_goto C 207 dX6_advance_278 rfl ?_
          exact ih s12  hf
        · replace hf := kf_f hf b7
          refine k_sipush C (10000 : Int32) dX6_advance_240 (by decide) rfl ?_
          refine k_goto C 265 dX6_advance_243 rfl ?_
          refine p_X6_value C rfl kw_4_8 dX6_advance_265 rfl ?_
          obtain ⟨s14, e15, hf⟩ := kf_b hf
          refine k_st e15 ?_
          refine k_aload_n C 0 dX6_advance_268 rfl rfl rfl ?_
          refine k_dup C rfl dX6_advance_269 rfl ?_
          refine g_X6_tokenEnds C rfl kw_4_6 dX6_advance_270 rfl ?_
          refine k_iconst C (1 : Int32) dX6_advance_273 (by decide) rfl ?_
          refine k_iadd C dX6_advance_274 rfl ?_
          refine p_X6_tokenEnds C rfl kw_4_6 dX6_advance_275 rfl ?_
          obtain ⟨s16, e17, hf⟩ := kf_b hf
          refine k_st e17 ?_
          refine k_goto C 207 dX6_advance_278 rfl ?_
          exact ih s16  hf
set_option maxRecDepth 100000 in
theorem tX6_advance_126 {Z : kZ} (C : kC Z cX6_advance RX6 2 rmX6_advance) {res : kM} (K : kEnd Z none none res) : ∀ (n : Nat) (st : kM), fX6_advance_126 n st = some res → kV Z 2 126 [(0, kr Z 59)] [] st := by
  intro n
  induction n with
  | zero => intro st hf; cases hf
  | succ n ih =>
    intro st hf
    unfold fX6_advance_126 at hf
    refine k_aload_n C 0 dX6_advance_126 rfl rfl rfl ?_
    refine g_X6_sort C rfl kw_4_4 dX6_advance_127 rfl ?_
    refine k_iconst C (1 : Int32) dX6_advance_130 (by decide) rfl ?_
    refine k_icmp_ne C 207 dX6_advance_131 rfl rfl (fun b1 => ?_) (fun b1 => ?_)
    · replace hf := kf_f hf b1
      exact tX6_advance_207 C K _ st hf
    · replace hf := kf_t hf b1
      refine k_aload_n C 0 dX6_advance_134 rfl rfl rfl ?_
      refine k_aload_n C 0 dX6_advance_135 rfl rfl rfl ?_
      refine g_X6_tokenEnds C rfl kw_4_6 dX6_advance_136 rfl ?_
      obtain ⟨q2, e3, hf⟩ := kf_b hf
      refine k_callV C [.int (st.1 59 8)] (mX6_byteAt e3) rfl (by decide) rfl kw_5_56 kw_5_58 kw_0_49 kw_1_7 kw_5_59 qX6_byteAt rfl ⟨by decide, by decide⟩ ⟨rfl, rfl⟩ (Nat.le_of_ble_eq_true rfl) dX6_advance_139 rfl ?_ rfl
      refine (show kV Z 2 142 [(0, kr Z 59)] [.int q2.1] q2.2 from ?_)
      obtain ⟨q4, e5, hf⟩ := kf_b hf
      refine k_callS C [.int q2.1] (mX6_isLetter e5) kw_5_60 kw_5_61 kw_1_7 kw_5_62 qX6_isLetter rfl ⟨by decide, by decide⟩ ⟨rfl, rfl⟩ (Nat.le_of_ble_eq_true rfl) dX6_advance_142 rfl ?_ rfl
      refine (show kV Z 2 145 [(0, kr Z 59)] [.int q4.1] q4.2 from ?_)
      refine k_if_eq C 207 dX6_advance_145 rfl rfl (fun b6 => ?_) (fun b6 => ?_)
      · replace hf := kf_t hf b6
        exact tX6_advance_207 C K _ q4.2 hf
      · replace hf := kf_f hf b6
        refine k_aload_n C 0 dX6_advance_148 rfl rfl rfl ?_
        refine k_aload_n C 0 dX6_advance_149 rfl rfl rfl ?_
        refine g_X6_tokenEnds C rfl kw_4_6 dX6_advance_150 rfl ?_
        refine k_aload_n C 0 dX6_advance_153 rfl rfl rfl ?_
        refine g_X6_begins C rfl kw_4_5 dX6_advance_154 rfl ?_
        refine k_isub C dX6_advance_157 rfl ?_
        refine k_bipush C (12 : Int32) dX6_advance_158 (by decide) rfl ?_
        refine k_icmp_ge C 188 dX6_advance_160 rfl rfl (fun b7 => ?_) (fun b7 => ?_)
        · replace hf := kf_t hf b7
          refine k_ldc2 C (-1 : Int64) kw_5_68 dX6_advance_188 rfl ?_
          refine p_X6_word C rfl kw_4_7 dX6_advance_191 rfl ?_
          obtain ⟨s8, e9, hf⟩ := kf_b hf
          refine k_st e9 ?_
          refine k_aload_n C 0 dX6_advance_194 rfl rfl rfl ?_
          refine k_dup C rfl dX6_advance_195 rfl ?_
          refine g_X6_tokenEnds C rfl kw_4_6 dX6_advance_196 rfl ?_
          refine k_iconst C (1 : Int32) dX6_advance_199 (by decide) rfl ?_
          refine k_iadd C dX6_advance_200 rfl ?_
          refine p_X6_tokenEnds C rfl kw_4_6 dX6_advance_201 rfl ?_
          obtain ⟨s10, e11, hf⟩ := kf_b hf
          refine k_st e11 ?_
          refine k_goto C 126 dX6_advance_204 rfl ?_
          exact ih s10  hf
        · replace hf := kf_f hf b7
          refine k_ldc2 C (27 : Int64) kw_5_66 dX6_advance_163 rfl ?_
          refine k_aload_n C 0 dX6_advance_166 rfl rfl rfl ?_
          refine g_X6_word C rfl kw_4_7 dX6_advance_167 rfl ?_
          refine k_lmul C dX6_advance_170 rfl ?_
          refine k_aload_n C 0 dX6_advance_171 rfl rfl rfl ?_
          refine k_aload_n C 0 dX6_advance_172 rfl rfl rfl ?_
          refine g_X6_tokenEnds C rfl kw_4_6 dX6_advance_173 rfl ?_
          obtain ⟨q12, e13, hf⟩ := kf_b hf
          refine k_callV C [.int (q4.2.1 59 8)] (mX6_byteAt e13) rfl (by decide) rfl kw_5_56 kw_5_58 kw_0_49 kw_1_7 kw_5_59 qX6_byteAt rfl ⟨by decide, by decide⟩ ⟨rfl, rfl⟩ (Nat.le_of_ble_eq_true rfl) dX6_advance_176 rfl ?_ rfl
          refine (show kV Z 2 179 [(0, kr Z 59)] [.int q12.1, .long ((27 : Int64) * (q4.2.2 59 9)), kr Z 59] q12.2 from ?_)
          refine k_i2l C dX6_advance_179 rfl ?_
          refine k_ladd C dX6_advance_180 rfl ?_
          refine k_ldc2 C (96 : Int64) kw_5_67 dX6_advance_181 rfl ?_
          refine k_lsub C dX6_advance_184 rfl ?_
          refine k_goto C 191 dX6_advance_185 rfl ?_
          refine p_X6_word C rfl kw_4_7 dX6_advance_191 rfl ?_
          obtain ⟨s14, e15, hf⟩ := kf_b hf
          refine k_st e15 ?_
          refine k_aload_n C 0 dX6_advance_194 rfl rfl rfl ?_
          refine k_dup C rfl dX6_advance_195 rfl ?_
          refine g_X6_tokenEnds C rfl kw_4_6 dX6_advance_196 rfl ?_
          refine k_iconst C (1 : Int32) dX6_advance_199 (by decide) rfl ?_
          refine k_iadd C dX6_advance_200 rfl ?_
          refine p_X6_tokenEnds C rfl kw_4_6 dX6_advance_201 rfl ?_
          obtain ⟨s16, e17, hf⟩ := kf_b hf
          refine k_st e17 ?_
          refine k_goto C 126 dX6_advance_204 rfl ?_
          exact ih s16  hf
set_option maxRecDepth 100000 in
theorem tX6_advance_105 {Z : kZ} (C : kC Z cX6_advance RX6 2 rmX6_advance) {res : kM} (K : kEnd Z none none res) : ∀ (y0 : Int32) (st : kM), fX6_advance_105 y0 st = some res → kV Z 2 105 [(0, kr Z 59)] [.int y0, kr Z 59] st := by
  intro y0 st hf
  unfold fX6_advance_105 at hf
  refine p_X6_value C rfl kw_4_8 dX6_advance_105 rfl ?_
  obtain ⟨s1, e2, hf⟩ := kf_b hf
  refine k_st e2 ?_
  refine k_aload_n C 0 dX6_advance_108 rfl rfl rfl ?_
  refine g_X6_sort C rfl kw_4_4 dX6_advance_109 rfl ?_
  refine k_iconst C (3 : Int32) dX6_advance_112 (by decide) rfl ?_
  refine k_icmp_ne C 126 dX6_advance_113 rfl rfl (fun b3 => ?_) (fun b3 => ?_)
  · replace hf := kf_f hf b3
    exact tX6_advance_126 C K _ s1 hf
  · replace hf := kf_t hf b3
    refine k_aload_n C 0 dX6_advance_116 rfl rfl rfl ?_
    refine k_dup C rfl dX6_advance_117 rfl ?_
    refine g_X6_tokenEnds C rfl kw_4_6 dX6_advance_118 rfl ?_
    refine k_iconst C (1 : Int32) dX6_advance_121 (by decide) rfl ?_
    refine k_iadd C dX6_advance_122 rfl ?_
    refine p_X6_tokenEnds C rfl kw_4_6 dX6_advance_123 rfl ?_
    obtain ⟨s4, e5, hf⟩ := kf_b hf
    refine k_st e5 ?_
    exact tX6_advance_126 C K _ s4 hf
set_option maxRecDepth 100000 in
theorem tX6_advance_83 {Z : kZ} (C : kC Z cX6_advance RX6 2 rmX6_advance) {res : kM} (K : kEnd Z none none res) : ∀ (x1 : Int32) (y0 : Int32) (st : kM), fX6_advance_83 x1 y0 st = some res → kV Z 2 83 [(0, kr Z 59), (1, .int x1)] [.int y0, kr Z 59] st := by
  intro x1 y0 st hf
  unfold fX6_advance_83 at hf
  refine p_X6_sort C rfl kw_4_4 dX6_advance_83 rfl ?_
  obtain ⟨s1, e2, hf⟩ := kf_b hf
  refine k_st e2 ?_
  refine k_aload_n C 0 dX6_advance_86 rfl rfl rfl ?_
  refine k_lconst C (0 : Int64) dX6_advance_87 (by decide) rfl ?_
  refine p_X6_word C rfl kw_4_7 dX6_advance_88 rfl ?_
  obtain ⟨s3, e4, hf⟩ := kf_b hf
  refine k_st e4 ?_
  refine k_aload_n C 0 dX6_advance_91 rfl rfl rfl ?_
  refine k_aload_n C 0 dX6_advance_92 rfl rfl rfl ?_
  refine g_X6_sort C rfl kw_4_4 dX6_advance_93 rfl ?_
  refine k_iconst C (2 : Int32) dX6_advance_96 (by decide) rfl ?_
  refine k_icmp_ne C 104 dX6_advance_97 rfl rfl (fun b5 => ?_) (fun b5 => ?_)
  · replace hf := kf_f hf b5
    refine k_iload_n C 1 dX6_advance_104 rfl rfl rfl ?_
    refine k_lv (lv' := [(0, kr Z 59)]) [0] rfl ?_
    exact tX6_advance_105 C K x1 s3 hf
  · replace hf := kf_t hf b5
    refine k_iconst C (0 : Int32) dX6_advance_100 (by decide) rfl ?_
    refine k_goto C 105 dX6_advance_101 rfl ?_
    refine k_lv (lv' := [(0, kr Z 59)]) [0] rfl ?_
    exact tX6_advance_105 C K (0 : Int32) s3 hf
set_option maxRecDepth 100000 in
theorem tX6_advance_8 {Z : kZ} (C : kC Z cX6_advance RX6 2 rmX6_advance) {res : kM} (K : kEnd Z none none res) : ∀ (n : Nat) (st : kM), fX6_advance_8 n st = some res → kV Z 2 8 [(0, kr Z 59)] [] st := by
  intro n
  induction n with
  | zero => intro st hf; cases hf
  | succ n ih =>
    intro st hf
    unfold fX6_advance_8 at hf
    refine k_aload_n C 0 dX6_advance_8 rfl rfl rfl ?_
    refine k_aload_n C 0 dX6_advance_9 rfl rfl rfl ?_
    refine g_X6_begins C rfl kw_4_5 dX6_advance_10 rfl ?_
    obtain ⟨q1, e2, hf⟩ := kf_b hf
    refine k_callV C [.int (st.1 59 7)] (mX6_byteAt e2) rfl (by decide) rfl kw_5_56 kw_5_58 kw_0_49 kw_1_7 kw_5_59 qX6_byteAt rfl ⟨by decide, by decide⟩ ⟨rfl, rfl⟩ (Nat.le_of_ble_eq_true rfl) dX6_advance_13 rfl ?_ rfl
    refine (show kV Z 2 16 [(0, kr Z 59)] [.int q1.1] q1.2 from ?_)
    refine k_bipush C (32 : Int32) dX6_advance_16 (by decide) rfl ?_
    refine k_icmp_ne C 34 dX6_advance_18 rfl rfl (fun b3 => ?_) (fun b3 => ?_)
    · replace hf := kf_f hf b3
      refine k_aload_n C 0 dX6_advance_34 rfl rfl rfl ?_
      refine k_aload_n C 0 dX6_advance_35 rfl rfl rfl ?_
      refine g_X6_begins C rfl kw_4_5 dX6_advance_36 rfl ?_
      refine p_X6_tokenEnds C rfl kw_4_6 dX6_advance_39 rfl ?_
      obtain ⟨s4, e5, hf⟩ := kf_b hf
      refine k_st e5 ?_
      refine k_aload_n C 0 dX6_advance_42 rfl rfl rfl ?_
      refine k_aload_n C 0 dX6_advance_43 rfl rfl rfl ?_
      refine g_X6_begins C rfl kw_4_5 dX6_advance_44 rfl ?_
      obtain ⟨q6, e7, hf⟩ := kf_b hf
      refine k_callV C [.int (s4.1 59 7)] (mX6_byteAt e7) rfl (by decide) rfl kw_5_56 kw_5_58 kw_0_49 kw_1_7 kw_5_59 qX6_byteAt rfl ⟨by decide, by decide⟩ ⟨rfl, rfl⟩ (Nat.le_of_ble_eq_true rfl) dX6_advance_47 rfl ?_ rfl
      refine (show kV Z 2 50 [(0, kr Z 59)] [.int q6.1] q6.2 from ?_)
      refine k_istore_n (lv' := [(1, .int q6.1), (0, kr Z 59)]) C dX6_advance_50 rfl (by decide) rfl rfl ?_
      refine k_aload_n C 1 dX6_advance_51 rfl rfl rfl ?_
      refine k_iload_n C 0 dX6_advance_52 rfl rfl rfl ?_
      refine k_if_ge C 60 dX6_advance_53 rfl rfl (fun b8 => ?_) (fun b8 => ?_)
      · replace hf := kf_t hf b8
        refine k_iload_n C 0 dX6_advance_60 rfl rfl rfl ?_
        obtain ⟨q9, e10, hf⟩ := kf_b hf
        refine k_callS C [.int q6.1] (mX6_isLetter e10) kw_5_60 kw_5_61 kw_1_7 kw_5_62 qX6_isLetter rfl ⟨by decide, by decide⟩ ⟨rfl, rfl⟩ (Nat.le_of_ble_eq_true rfl) dX6_advance_61 rfl ?_ rfl
        refine (show kV Z 2 64 [(1, .int q6.1), (0, kr Z 59)] [.int q9.1, kr Z 59] q9.2 from ?_)
        refine k_if_eq C 71 dX6_advance_64 rfl rfl (fun b11 => ?_) (fun b11 => ?_)
        · replace hf := kf_t hf b11
          refine k_iload_n C 0 dX6_advance_71 rfl rfl rfl ?_
          obtain ⟨q12, e13, hf⟩ := kf_b hf
          refine k_callS C [.int q6.1] (mX6_isDigit e13) kw_5_63 kw_5_64 kw_1_7 kw_5_65 qX6_isDigit rfl ⟨by decide, by decide⟩ ⟨rfl, rfl⟩ (Nat.le_of_ble_eq_true rfl) dX6_advance_72 rfl ?_ rfl
          refine (show kV Z 2 75 [(1, .int q6.1), (0, kr Z 59)] [.int q12.1, kr Z 59] q12.2 from ?_)
          refine k_if_eq C 82 dX6_advance_75 rfl rfl (fun b14 => ?_) (fun b14 => ?_)
          · replace hf := kf_t hf b14
            refine k_iconst C (3 : Int32) dX6_advance_82 (by decide) rfl ?_
            refine k_lv (lv' := [(0, kr Z 59), (1, .int q6.1)]) [1, 0] rfl ?_
            exact tX6_advance_83 C K q6.1 (3 : Int32) q12.2 hf
          · replace hf := kf_f hf b14
            refine k_iconst C (2 : Int32) dX6_advance_78 (by decide) rfl ?_
            refine k_goto C 83 dX6_advance_79 rfl ?_
            refine k_lv (lv' := [(0, kr Z 59), (1, .int q6.1)]) [1, 0] rfl ?_
            exact tX6_advance_83 C K q6.1 (2 : Int32) q12.2 hf
        · replace hf := kf_f hf b11
          refine k_iconst C (1 : Int32) dX6_advance_67 (by decide) rfl ?_
          refine k_goto C 83 dX6_advance_68 rfl ?_
          refine k_lv (lv' := [(0, kr Z 59), (1, .int q6.1)]) [1, 0] rfl ?_
          exact tX6_advance_83 C K q6.1 (1 : Int32) q9.2 hf
      · replace hf := kf_f hf b8
        refine k_iconst C (0 : Int32) dX6_advance_56 (by decide) rfl ?_
        refine k_goto C 83 dX6_advance_57 rfl ?_
        refine k_lv (lv' := [(0, kr Z 59), (1, .int q6.1)]) [1, 0] rfl ?_
        exact tX6_advance_83 C K q6.1 (0 : Int32) q6.2 hf
    · replace hf := kf_t hf b3
      refine k_aload_n C 0 dX6_advance_21 rfl rfl rfl ?_
      refine k_dup C rfl dX6_advance_22 rfl ?_
      refine g_X6_begins C rfl kw_4_5 dX6_advance_23 rfl ?_
      refine k_iconst C (1 : Int32) dX6_advance_26 (by decide) rfl ?_
      refine k_iadd C dX6_advance_27 rfl ?_
      refine p_X6_begins C rfl kw_4_5 dX6_advance_28 rfl ?_
      obtain ⟨s15, e16, hf⟩ := kf_b hf
      refine k_st e16 ?_
      refine k_goto C 8 dX6_advance_31 rfl ?_
      exact ih s15  hf
set_option maxRecDepth 100000 in
theorem tX6_advance {Z : kZ} (C : kC Z cX6_advance RX6 2 rmX6_advance)   {st : kM} {res : kM} (hf : fX6_advance st = some res) (K : kEnd Z none none res) : kV Z 2 0 [(0, kr Z 59)] [] st := by
  unfold fX6_advance at hf
  refine k_aload_n C 0 dX6_advance_0 rfl rfl rfl ?_
  refine k_aload_n C 0 dX6_advance_1 rfl rfl rfl ?_
  refine g_X6_tokenEnds C rfl kw_4_6 dX6_advance_2 rfl ?_
  refine p_X6_begins C rfl kw_4_5 dX6_advance_5 rfl ?_
  obtain ⟨s1, e2, hf⟩ := kf_b hf
  refine k_st e2 ?_
  exact tX6_advance_8 C K _ s1 hf
theorem mX6_advance {G : kG}   {st : kM} {res : kM} (hf : fX6_advance st = some res) : kCt G yX6_advance cX6_advance 2 none rmX6_advance [.ref (G.2.1 59)] st none res := kMet (by decide) (Nat.le_of_ble_eq_true rfl) ⟨rfl, rfl⟩ (fun X A Q C K => tX6_advance C  hf K)
theorem qX6_advance : yX6_advance.cls = RX6 ∧ yX6_advance.cls ≠ "java/lang/invoke/MethodHandle" ∧ yX6_advance.cls ≠ "java/lang/invoke/VarHandle" ∧ (parseMethodDescriptor yX6_advance.desc).map (fun d => d.parameters.length) = some 0 := ⟨rfl, by decide, by decide, by decide +kernel⟩
-- TalkKnotsModel.isWord(J)Z
def rmX6_isWord : Room := { frames := 0, cells := 0, slots := 0, locals := 0 }
def fX6_isWord (v1 : Int64) (st : kM) : Option (Int32 × kM) :=
  if (st.1 59 6) = (1 : Int32) then (if (lg_cmp (st.2 59 9) v1) = 0 then (some ((1 : Int32), st)) else (some ((0 : Int32), st))) else (some ((0 : Int32), st))
set_option maxRecDepth 100000 in
theorem tX6_isWord {Z : kZ} (C : kC Z cX6_isWord RX6 3 rmX6_isWord) {v1 : Int64}  {st : kM} {res : Int32 × kM} (hf : fX6_isWord v1 st = some res) (K : kEnd Z (some .boolean) (some (.int res.1)) res.2) : kV Z 3 0 [(0, kr Z 59), (1, .long v1)] [] st := by
  unfold fX6_isWord at hf
  refine k_aload_n C 0 dX6_isWord_0 rfl rfl rfl ?_
  refine g_X6_sort C rfl kw_4_4 dX6_isWord_1 rfl ?_
  refine k_iconst C (1 : Int32) dX6_isWord_4 (by decide) rfl ?_
  refine k_icmp_ne C 21 dX6_isWord_5 rfl rfl (fun b1 => ?_) (fun b1 => ?_)
  · replace hf := kf_f hf b1
    refine k_iconst C (0 : Int32) dX6_isWord_21 (by decide) rfl ?_
    exact k_zret C K hf rfl dX6_isWord_22
  · replace hf := kf_t hf b1
    refine k_aload_n C 0 dX6_isWord_8 rfl rfl rfl ?_
    refine g_X6_word C rfl kw_4_7 dX6_isWord_9 rfl ?_
    refine k_lload_n C 1 dX6_isWord_12 rfl rfl rfl ?_
    refine k_lcmp C dX6_isWord_13 rfl ?_
    refine k_if_ne C 21 dX6_isWord_14 rfl rfl (fun b2 => ?_) (fun b2 => ?_)
    · replace hf := kf_f hf b2
      refine k_iconst C (0 : Int32) dX6_isWord_21 (by decide) rfl ?_
      exact k_zret C K hf rfl dX6_isWord_22
    · replace hf := kf_t hf b2
      refine k_iconst C (1 : Int32) dX6_isWord_17 (by decide) rfl ?_
      refine k_goto C 22 dX6_isWord_18 rfl ?_
      exact k_zret C K hf rfl dX6_isWord_22
theorem mX6_isWord {G : kG} {v1 : Int64}  {st : kM} {res : Int32 × kM} (hf : fX6_isWord v1 st = some res) : kCt G yX6_isWord cX6_isWord 3 (some .boolean) rmX6_isWord [.ref (G.2.1 59), .long v1] st (some (.int res.1)) res.2 := kMet (by decide) (Nat.le_of_ble_eq_true rfl) ⟨rfl, rfl⟩ (fun X A Q C K => tX6_isWord C  hf K)
theorem qX6_isWord : yX6_isWord.cls = RX6 ∧ yX6_isWord.cls ≠ "java/lang/invoke/MethodHandle" ∧ yX6_isWord.cls ≠ "java/lang/invoke/VarHandle" ∧ (parseMethodDescriptor yX6_isWord.desc).map (fun d => d.parameters.length) = some 1 := ⟨rfl, by decide, by decide, by decide +kernel⟩
-- TalkKnotsModel.kindHere()I
def rmX6_kindHere : Room := { frames := 1, cells := 0, slots := 0, locals := 22 }
def fX6_kindHere (st : kM) : Option (Int32 × kM) :=
  (fX6_isWord (227144 : Int64) st).bind fun q1 => (if q1.1 = 0 then ((fX6_isWord (281375132 : Int64) q1.2).bind fun q4 => (if q4.1 = 0 then ((fX6_isWord (4443344 : Int64) q4.2).bind fun q7 => (if q7.1 = 0 then ((fX6_isWord (129450 : Int64) q7.2).bind fun q10 => (if q10.1 = 0 then ((fX6_isWord (115789410 : Int64) q10.2).bind fun q13 => (if q13.1 = 0 then ((fX6_isWord (16466 : Int64) q13.2).bind fun q16 => (if q16.1 = 0 then (some ((-1 : Int32), q16.2)) else (some ((5 : Int32), q16.2)))) else (some ((4 : Int32), q13.2)))) else (some ((3 : Int32), q10.2)))) else (some ((2 : Int32), q7.2)))) else (some ((1 : Int32), q4.2)))) else (some ((0 : Int32), q1.2)))
set_option maxRecDepth 100000 in
theorem tX6_kindHere {Z : kZ} (C : kC Z cX6_kindHere RX6 1 rmX6_kindHere)   {st : kM} {res : Int32 × kM} (hf : fX6_kindHere st = some res) (K : kEnd Z (some .int) (some (.int res.1)) res.2) : kV Z 1 0 [(0, kr Z 59)] [] st := by
  unfold fX6_kindHere at hf
  refine k_aload_n C 0 dX6_kindHere_0 rfl rfl rfl ?_
  refine k_ldc2 C (227144 : Int64) kw_5_77 dX6_kindHere_1 rfl ?_
  obtain ⟨q1, e2, hf⟩ := kf_b hf
  refine k_callV C [.long (227144 : Int64)] (mX6_isWord e2) rfl (by decide) rfl kw_5_78 kw_5_80 kw_0_52 kw_1_7 kw_5_81 qX6_isWord rfl ⟨by decide, by decide⟩ ⟨rfl, rfl⟩ (Nat.le_of_ble_eq_true rfl) dX6_kindHere_4 rfl ?_ rfl
  refine (show kV Z 1 7 [(0, kr Z 59)] [.int q1.1] q1.2 from ?_)
  refine k_if_eq C 14 dX6_kindHere_7 rfl rfl (fun b3 => ?_) (fun b3 => ?_)
  · replace hf := kf_t hf b3
    refine k_aload_n C 0 dX6_kindHere_14 rfl rfl rfl ?_
    refine k_ldc2 C (281375132 : Int64) kw_5_82 dX6_kindHere_15 rfl ?_
    obtain ⟨q4, e5, hf⟩ := kf_b hf
    refine k_callV C [.long (281375132 : Int64)] (mX6_isWord e5) rfl (by decide) rfl kw_5_78 kw_5_80 kw_0_52 kw_1_7 kw_5_81 qX6_isWord rfl ⟨by decide, by decide⟩ ⟨rfl, rfl⟩ (Nat.le_of_ble_eq_true rfl) dX6_kindHere_18 rfl ?_ rfl
    refine (show kV Z 1 21 [(0, kr Z 59)] [.int q4.1] q4.2 from ?_)
    refine k_if_eq C 28 dX6_kindHere_21 rfl rfl (fun b6 => ?_) (fun b6 => ?_)
    · replace hf := kf_t hf b6
      refine k_aload_n C 0 dX6_kindHere_28 rfl rfl rfl ?_
      refine k_ldc2 C (4443344 : Int64) kw_5_83 dX6_kindHere_29 rfl ?_
      obtain ⟨q7, e8, hf⟩ := kf_b hf
      refine k_callV C [.long (4443344 : Int64)] (mX6_isWord e8) rfl (by decide) rfl kw_5_78 kw_5_80 kw_0_52 kw_1_7 kw_5_81 qX6_isWord rfl ⟨by decide, by decide⟩ ⟨rfl, rfl⟩ (Nat.le_of_ble_eq_true rfl) dX6_kindHere_32 rfl ?_ rfl
      refine (show kV Z 1 35 [(0, kr Z 59)] [.int q7.1] q7.2 from ?_)
      refine k_if_eq C 42 dX6_kindHere_35 rfl rfl (fun b9 => ?_) (fun b9 => ?_)
      · replace hf := kf_t hf b9
        refine k_aload_n C 0 dX6_kindHere_42 rfl rfl rfl ?_
        refine k_ldc2 C (129450 : Int64) kw_5_84 dX6_kindHere_43 rfl ?_
        obtain ⟨q10, e11, hf⟩ := kf_b hf
        refine k_callV C [.long (129450 : Int64)] (mX6_isWord e11) rfl (by decide) rfl kw_5_78 kw_5_80 kw_0_52 kw_1_7 kw_5_81 qX6_isWord rfl ⟨by decide, by decide⟩ ⟨rfl, rfl⟩ (Nat.le_of_ble_eq_true rfl) dX6_kindHere_46 rfl ?_ rfl
        refine (show kV Z 1 49 [(0, kr Z 59)] [.int q10.1] q10.2 from ?_)
        refine k_if_eq C 56 dX6_kindHere_49 rfl rfl (fun b12 => ?_) (fun b12 => ?_)
        · replace hf := kf_t hf b12
          refine k_aload_n C 0 dX6_kindHere_56 rfl rfl rfl ?_
          refine k_ldc2 C (115789410 : Int64) kw_5_85 dX6_kindHere_57 rfl ?_
          obtain ⟨q13, e14, hf⟩ := kf_b hf
          refine k_callV C [.long (115789410 : Int64)] (mX6_isWord e14) rfl (by decide) rfl kw_5_78 kw_5_80 kw_0_52 kw_1_7 kw_5_81 qX6_isWord rfl ⟨by decide, by decide⟩ ⟨rfl, rfl⟩ (Nat.le_of_ble_eq_true rfl) dX6_kindHere_60 rfl ?_ rfl
          refine (show kV Z 1 63 [(0, kr Z 59)] [.int q13.1] q13.2 from ?_)
          refine k_if_eq C 70 dX6_kindHere_63 rfl rfl (fun b15 => ?_) (fun b15 => ?_)
          · replace hf := kf_t hf b15
            refine k_aload_n C 0 dX6_kindHere_70 rfl rfl rfl ?_
            refine k_ldc2 C (16466 : Int64) kw_5_86 dX6_kindHere_71 rfl ?_
            obtain ⟨q16, e17, hf⟩ := kf_b hf
            refine k_callV C [.long (16466 : Int64)] (mX6_isWord e17) rfl (by decide) rfl kw_5_78 kw_5_80 kw_0_52 kw_1_7 kw_5_81 qX6_isWord rfl ⟨by decide, by decide⟩ ⟨rfl, rfl⟩ (Nat.le_of_ble_eq_true rfl) dX6_kindHere_74 rfl ?_ rfl
            refine (show kV Z 1 77 [(0, kr Z 59)] [.int q16.1] q16.2 from ?_)
            refine k_if_eq C 84 dX6_kindHere_77 rfl rfl (fun b18 => ?_) (fun b18 => ?_)
            · replace hf := kf_t hf b18
              refine k_iconst C (-1 : Int32) dX6_kindHere_84 (by decide) rfl ?_
              exact k_iret C K hf dX6_kindHere_85
            · replace hf := kf_f hf b18
              refine k_iconst C (5 : Int32) dX6_kindHere_80 (by decide) rfl ?_
              refine k_goto C 85 dX6_kindHere_81 rfl ?_
              exact k_iret C K hf dX6_kindHere_85
          · replace hf := kf_f hf b15
            refine k_iconst C (4 : Int32) dX6_kindHere_66 (by decide) rfl ?_
            refine k_goto C 85 dX6_kindHere_67 rfl ?_
            exact k_iret C K hf dX6_kindHere_85
        · replace hf := kf_f hf b12
          refine k_iconst C (3 : Int32) dX6_kindHere_52 (by decide) rfl ?_
          refine k_goto C 85 dX6_kindHere_53 rfl ?_
          exact k_iret C K hf dX6_kindHere_85
      · replace hf := kf_f hf b9
        refine k_iconst C (2 : Int32) dX6_kindHere_38 (by decide) rfl ?_
        refine k_goto C 85 dX6_kindHere_39 rfl ?_
        exact k_iret C K hf dX6_kindHere_85
    · replace hf := kf_f hf b6
      refine k_iconst C (1 : Int32) dX6_kindHere_24 (by decide) rfl ?_
      refine k_goto C 85 dX6_kindHere_25 rfl ?_
      exact k_iret C K hf dX6_kindHere_85
  · replace hf := kf_f hf b3
    refine k_iconst C (0 : Int32) dX6_kindHere_10 (by decide) rfl ?_
    refine k_goto C 85 dX6_kindHere_11 rfl ?_
    exact k_iret C K hf dX6_kindHere_85
theorem mX6_kindHere {G : kG}   {st : kM} {res : Int32 × kM} (hf : fX6_kindHere st = some res) : kCt G yX6_kindHere cX6_kindHere 1 (some .int) rmX6_kindHere [.ref (G.2.1 59)] st (some (.int res.1)) res.2 := kMet (by decide) (Nat.le_of_ble_eq_true rfl) ⟨rfl, rfl⟩ (fun X A Q C K => tX6_kindHere C  hf K)
theorem qX6_kindHere : yX6_kindHere.cls = RX6 ∧ yX6_kindHere.cls ≠ "java/lang/invoke/MethodHandle" ∧ yX6_kindHere.cls ≠ "java/lang/invoke/VarHandle" ∧ (parseMethodDescriptor yX6_kindHere.desc).map (fun d => d.parameters.length) = some 0 := ⟨rfl, by decide, by decide, by decide +kernel⟩
-- TalkKnotsModel.wantNumber(II)I
def rmX6_wantNumber : Room := { frames := 3, cells := 0, slots := 0, locals := 63 }
def fX6_wantNumber_35 (x3 : Int32) (y0 : Int32) (st : kM) : Option (Int32 × kM) :=
  if y0 = 0 ∨ y0 = 1 then ((some (kwr st 59 11 y0)).bind fun s2 => (if (s2.1 59 11) = 0 then (some (x3, s2)) else ((fX6_advance s2).bind fun s5 => (some (x3, s5))))) else none
def fX6_wantNumber_34 (x3 : Int32) (st : kM) : Option (Int32 × kM) :=
  fX6_wantNumber_35 x3 (0 : Int32) st
def fX6_wantNumber (v1 : Int32) (v2 : Int32) (st : kM) : Option (Int32 × kM) :=
  (some (st.1 59 10)).bind fun z1 => (if (st.1 59 11) = 0 then (fX6_wantNumber_34 z1 st) else (if (st.1 59 6) = (2 : Int32) then ((fX6_in z1 v1 v2 st).bind fun q5 => (if q5.1 = 0 then (fX6_wantNumber_34 z1 q5.2) else (fX6_wantNumber_35 z1 (1 : Int32) q5.2))) else (fX6_wantNumber_34 z1 st)))
set_option maxRecDepth 100000 in
theorem tX6_wantNumber_35 {Z : kZ} (C : kC Z cX6_wantNumber RX6 4 rmX6_wantNumber) {res : Int32 × kM} (K : kEnd Z (some .int) (some (.int res.1)) res.2) : ∀ (x3 : Int32) (y0 : Int32) (st : kM), fX6_wantNumber_35 x3 y0 st = some res → kV Z 4 35 [(0, kr Z 59), (3, .int x3)] [.int y0, kr Z 59] st := by
  intro x3 y0 st hf
  unfold fX6_wantNumber_35 at hf
  obtain ⟨g1, hf⟩ := kf_y hf
  refine p_X6_good C g1 rfl kw_4_9 dX6_wantNumber_35 rfl ?_
  obtain ⟨s2, e3, hf⟩ := kf_b hf
  refine k_st e3 ?_
  refine k_aload_n C 0 dX6_wantNumber_38 rfl rfl rfl ?_
  refine g_X6_good C rfl kw_4_9 dX6_wantNumber_39 rfl ?_
  refine k_if_eq C 49 dX6_wantNumber_42 rfl rfl (fun b4 => ?_) (fun b4 => ?_)
  · replace hf := kf_t hf b4
    refine k_iload_n C 1 dX6_wantNumber_49 rfl rfl rfl ?_
    exact k_iret C K hf dX6_wantNumber_50
  · replace hf := kf_f hf b4
    refine k_aload_n C 0 dX6_wantNumber_45 rfl rfl rfl ?_
    obtain ⟨s5, e6, hf⟩ := kf_b hf
    refine k_callV C [] (mX6_advance e6) rfl (by decide) rfl kw_5_52 kw_5_54 kw_0_48 kw_1_7 kw_5_55 qX6_advance rfl ⟨by decide, by decide⟩ ⟨rfl, rfl⟩ (Nat.le_of_ble_eq_true rfl) dX6_wantNumber_46 rfl ?_ rfl
    refine (show kV Z 4 49 [(0, kr Z 59), (3, .int x3)] [] s5 from ?_)
    refine k_iload_n C 1 dX6_wantNumber_49 rfl rfl rfl ?_
    exact k_iret C K hf dX6_wantNumber_50
set_option maxRecDepth 100000 in
theorem tX6_wantNumber_34 {Z : kZ} (C : kC Z cX6_wantNumber RX6 4 rmX6_wantNumber) {res : Int32 × kM} (K : kEnd Z (some .int) (some (.int res.1)) res.2) : ∀ (x3 : Int32) (st : kM), fX6_wantNumber_34 x3 st = some res → kV Z 4 34 [(0, kr Z 59), (3, .int x3)] [kr Z 59] st := by
  intro x3 st hf
  unfold fX6_wantNumber_34 at hf
  refine k_iconst C (0 : Int32) dX6_wantNumber_34 (by decide) rfl ?_
  exact tX6_wantNumber_35 C K x3 (0 : Int32) st hf
set_option maxRecDepth 100000 in
theorem tX6_wantNumber {Z : kZ} (C : kC Z cX6_wantNumber RX6 4 rmX6_wantNumber) {v1 : Int32} {v2 : Int32}  {st : kM} {res : Int32 × kM} (hf : fX6_wantNumber v1 v2 st = some res) (K : kEnd Z (some .int) (some (.int res.1)) res.2) : kV Z 4 0 [(0, kr Z 59), (1, .int v1), (2, .int v2)] [] st := by
  unfold fX6_wantNumber at hf
  refine k_aload_n C 0 dX6_wantNumber_0 rfl rfl rfl ?_
  refine g_X6_value C rfl kw_4_8 dX6_wantNumber_1 rfl ?_
  obtain ⟨z1, e2, hf⟩ := kf_b hf
  refine k_topi e2 ?_
  refine k_istore_n (lv' := [(3, .int z1), (0, kr Z 59), (1, .int v1), (2, .int v2)]) C dX6_wantNumber_4 rfl (by decide) rfl rfl ?_
  refine k_aload_n C 1 dX6_wantNumber_5 rfl rfl rfl ?_
  refine k_aload_n C 1 dX6_wantNumber_6 rfl rfl rfl ?_
  refine g_X6_good C rfl kw_4_9 dX6_wantNumber_7 rfl ?_
  refine k_if_eq C 34 dX6_wantNumber_10 rfl rfl (fun b3 => ?_) (fun b3 => ?_)
  · replace hf := kf_t hf b3
    refine k_lv (lv' := [(0, kr Z 59), (3, .int z1)]) [1, 0] rfl ?_
    exact tX6_wantNumber_34 C K z1 st hf
  · replace hf := kf_f hf b3
    refine k_aload_n C 1 dX6_wantNumber_13 rfl rfl rfl ?_
    refine g_X6_sort C rfl kw_4_4 dX6_wantNumber_14 rfl ?_
    refine k_iconst C (2 : Int32) dX6_wantNumber_17 (by decide) rfl ?_
    refine k_icmp_ne C 34 dX6_wantNumber_18 rfl rfl (fun b4 => ?_) (fun b4 => ?_)
    · replace hf := kf_f hf b4
      refine k_lv (lv' := [(0, kr Z 59), (3, .int z1)]) [1, 0] rfl ?_
      exact tX6_wantNumber_34 C K z1 st hf
    · replace hf := kf_t hf b4
      refine k_iload_n C 0 dX6_wantNumber_21 rfl rfl rfl ?_
      refine k_iload_n C 2 dX6_wantNumber_22 rfl rfl rfl ?_
      refine k_iload_n C 3 dX6_wantNumber_23 rfl rfl rfl ?_
      obtain ⟨q5, e6, hf⟩ := kf_b hf
      refine k_callS C [.int z1, .int v1, .int v2] (mX6_in e6) kw_4_60 kw_4_61 kw_1_7 kw_4_62 qX6_in rfl ⟨by decide, by decide⟩ ⟨rfl, rfl⟩ (Nat.le_of_ble_eq_true rfl) dX6_wantNumber_24 rfl ?_ rfl
      refine (show kV Z 4 27 [(3, .int z1), (0, kr Z 59), (1, .int v1), (2, .int v2)] [.int q5.1, kr Z 59] q5.2 from ?_)
      refine k_if_eq C 34 dX6_wantNumber_27 rfl rfl (fun b7 => ?_) (fun b7 => ?_)
      · replace hf := kf_t hf b7
        refine k_lv (lv' := [(0, kr Z 59), (3, .int z1)]) [1, 0] rfl ?_
        exact tX6_wantNumber_34 C K z1 q5.2 hf
      · replace hf := kf_f hf b7
        refine k_iconst C (1 : Int32) dX6_wantNumber_30 (by decide) rfl ?_
        refine k_goto C 35 dX6_wantNumber_31 rfl ?_
        refine k_lv (lv' := [(0, kr Z 59), (3, .int z1)]) [1, 0] rfl ?_
        exact tX6_wantNumber_35 C K z1 (1 : Int32) q5.2 hf
theorem mX6_wantNumber {G : kG} {v1 : Int32} {v2 : Int32}  {st : kM} {res : Int32 × kM} (hf : fX6_wantNumber v1 v2 st = some res) : kCt G yX6_wantNumber cX6_wantNumber 4 (some .int) rmX6_wantNumber [.ref (G.2.1 59), .int v1, .int v2] st (some (.int res.1)) res.2 := kMet (by decide) (Nat.le_of_ble_eq_true rfl) ⟨rfl, rfl⟩ (fun X A Q C K => tX6_wantNumber C  hf K)
theorem qX6_wantNumber : yX6_wantNumber.cls = RX6 ∧ yX6_wantNumber.cls ≠ "java/lang/invoke/MethodHandle" ∧ yX6_wantNumber.cls ≠ "java/lang/invoke/VarHandle" ∧ (parseMethodDescriptor yX6_wantNumber.desc).map (fun d => d.parameters.length) = some 2 := ⟨rfl, by decide, by decide, by decide +kernel⟩
-- TalkKnotsModel.mayWant(JIII)I
def rmX6_mayWant : Room := { frames := 4, cells := 0, slots := 0, locals := 86 }
def fX6_mayWant (v1 : Int64) (v3 : Int32) (v4 : Int32) (v5 : Int32) (st : kM) : Option (Int32 × kM) :=
  if (st.1 59 11) = 0 then (some (v5, st)) else ((fX6_isWord v1 st).bind fun q2 => (if q2.1 = 0 then (some (v5, q2.2)) else ((fX6_advance q2.2).bind fun s5 => ((fX6_wantNumber v3 v4 s5).bind fun q7 => (some (q7.1, q7.2))))))
set_option maxRecDepth 100000 in
theorem tX6_mayWant {Z : kZ} (C : kC Z cX6_mayWant RX6 6 rmX6_mayWant) {v1 : Int64} {v3 : Int32} {v4 : Int32} {v5 : Int32}  {st : kM} {res : Int32 × kM} (hf : fX6_mayWant v1 v3 v4 v5 st = some res) (K : kEnd Z (some .int) (some (.int res.1)) res.2) : kV Z 6 0 [(0, kr Z 59), (1, .long v1), (3, .int v3), (4, .int v4), (5, .int v5)] [] st := by
  unfold fX6_mayWant at hf
  refine k_aload_n C 0 dX6_mayWant_0 rfl rfl rfl ?_
  refine g_X6_good C rfl kw_4_9 dX6_mayWant_1 rfl ?_
  refine k_if_eq C 15 dX6_mayWant_4 rfl rfl (fun b1 => ?_) (fun b1 => ?_)
  · replace hf := kf_t hf b1
    refine k_iload C 4 dX6_mayWant_15 rfl rfl ?_
    exact k_iret C K hf dX6_mayWant_17
  · replace hf := kf_f hf b1
    refine k_aload_n C 0 dX6_mayWant_7 rfl rfl rfl ?_
    refine k_lload_n C 1 dX6_mayWant_8 rfl rfl rfl ?_
    obtain ⟨q2, e3, hf⟩ := kf_b hf
    refine k_callV C [.long v1] (mX6_isWord e3) rfl (by decide) rfl kw_5_78 kw_5_80 kw_0_52 kw_1_7 kw_5_81 qX6_isWord rfl ⟨by decide, by decide⟩ ⟨rfl, rfl⟩ (Nat.le_of_ble_eq_true rfl) dX6_mayWant_9 rfl ?_ rfl
    refine (show kV Z 6 12 [(0, kr Z 59), (1, .long v1), (3, .int v3), (4, .int v4), (5, .int v5)] [.int q2.1] q2.2 from ?_)
    refine k_if_ne C 18 dX6_mayWant_12 rfl rfl (fun b4 => ?_) (fun b4 => ?_)
    · replace hf := kf_f hf b4
      refine k_aload_n C 0 dX6_mayWant_18 rfl rfl rfl ?_
      obtain ⟨s5, e6, hf⟩ := kf_b hf
      refine k_callV C [] (mX6_advance e6) rfl (by decide) rfl kw_5_52 kw_5_54 kw_0_48 kw_1_7 kw_5_55 qX6_advance rfl ⟨by decide, by decide⟩ ⟨rfl, rfl⟩ (Nat.le_of_ble_eq_true rfl) dX6_mayWant_19 rfl ?_ rfl
      refine (show kV Z 6 22 [(0, kr Z 59), (1, .long v1), (3, .int v3), (4, .int v4), (5, .int v5)] [] s5 from ?_)
      refine k_aload_n C 0 dX6_mayWant_22 rfl rfl rfl ?_
      refine k_iload_n C 2 dX6_mayWant_23 rfl rfl rfl ?_
      refine k_iload C 3 dX6_mayWant_24 rfl rfl ?_
      obtain ⟨q7, e8, hf⟩ := kf_b hf
      refine k_callV C [.int v3, .int v4] (mX6_wantNumber e8) rfl (by decide) rfl kw_5_91 kw_5_93 kw_0_54 kw_1_7 kw_5_94 qX6_wantNumber rfl ⟨by decide, by decide⟩ ⟨rfl, rfl⟩ (Nat.le_of_ble_eq_true rfl) dX6_mayWant_26 rfl ?_ rfl
      refine (show kV Z 6 29 [(0, kr Z 59), (1, .long v1), (3, .int v3), (4, .int v4), (5, .int v5)] [.int q7.1] q7.2 from ?_)
      exact k_iret C K hf dX6_mayWant_29
    · replace hf := kf_t hf b4
      refine k_iload C 4 dX6_mayWant_15 rfl rfl ?_
      exact k_iret C K hf dX6_mayWant_17
theorem mX6_mayWant {G : kG} {v1 : Int64} {v3 : Int32} {v4 : Int32} {v5 : Int32}  {st : kM} {res : Int32 × kM} (hf : fX6_mayWant v1 v3 v4 v5 st = some res) : kCt G yX6_mayWant cX6_mayWant 6 (some .int) rmX6_mayWant [.ref (G.2.1 59), .long v1, .int v3, .int v4, .int v5] st (some (.int res.1)) res.2 := kMet (by decide) (Nat.le_of_ble_eq_true rfl) ⟨rfl, rfl⟩ (fun X A Q C K => tX6_mayWant C  hf K)
theorem qX6_mayWant : yX6_mayWant.cls = RX6 ∧ yX6_mayWant.cls ≠ "java/lang/invoke/MethodHandle" ∧ yX6_mayWant.cls ≠ "java/lang/invoke/VarHandle" ∧ (parseMethodDescriptor yX6_mayWant.desc).map (fun d => d.parameters.length) = some 4 := ⟨rfl, by decide, by decide, by decide +kernel⟩
-- TalkKnotsModel.may(J)Z
def rmX6_may : Room := { frames := 3, cells := 0, slots := 0, locals := 63 }
def fX6_may_20 (y0 : Int32) (st : kM) : Option (Int32 × kM) :=
  if y0 = 0 then (if y0 = 0 ∨ y0 = 1 then some (y0, st) else none) else ((fX6_advance st).bind fun s2 => (if y0 = 0 ∨ y0 = 1 then some (y0, s2) else none))
def fX6_may_19 (st : kM) : Option (Int32 × kM) :=
  fX6_may_20 (0 : Int32) st
def fX6_may (v1 : Int64) (st : kM) : Option (Int32 × kM) :=
  if (st.1 59 11) = 0 then (fX6_may_19 st) else ((fX6_isWord v1 st).bind fun q2 => (if q2.1 = 0 then (fX6_may_19 q2.2) else (fX6_may_20 (1 : Int32) q2.2)))
set_option maxRecDepth 100000 in
theorem tX6_may_20 {Z : kZ} (C : kC Z cX6_may RX6 4 rmX6_may) {res : Int32 × kM} (K : kEnd Z (some .boolean) (some (.int res.1)) res.2) : ∀ (y0 : Int32) (st : kM), fX6_may_20 y0 st = some res → kV Z 4 20 [(0, kr Z 59)] [.int y0] st := by
  intro y0 st hf
  unfold fX6_may_20 at hf
  refine k_istore_n (lv' := [(3, .int y0), (0, kr Z 59)]) C dX6_may_20 rfl (by decide) rfl rfl ?_
  refine k_iload_n C 0 dX6_may_21 rfl rfl rfl ?_
  refine k_if_eq C 29 dX6_may_22 rfl rfl (fun b1 => ?_) (fun b1 => ?_)
  · replace hf := kf_t hf b1
    refine k_iload_n C 0 dX6_may_29 rfl rfl rfl ?_
    obtain ⟨g0, hf⟩ := kf_y hf
    exact k_zret C K hf (kb_n g0) dX6_may_30
  · replace hf := kf_f hf b1
    refine k_aload_n C 1 dX6_may_25 rfl rfl rfl ?_
    obtain ⟨s2, e3, hf⟩ := kf_b hf
    refine k_callV C [] (mX6_advance e3) rfl (by decide) rfl kw_5_52 kw_5_54 kw_0_48 kw_1_7 kw_5_55 qX6_advance rfl ⟨by decide, by decide⟩ ⟨rfl, rfl⟩ (Nat.le_of_ble_eq_true rfl) dX6_may_26 rfl ?_ rfl
    refine (show kV Z 4 29 [(3, .int y0), (0, kr Z 59)] [] s2 from ?_)
    refine k_iload_n C 0 dX6_may_29 rfl rfl rfl ?_
    obtain ⟨g0, hf⟩ := kf_y hf
    exact k_zret C K hf (kb_n g0) dX6_may_30
set_option maxRecDepth 100000 in
theorem tX6_may_19 {Z : kZ} (C : kC Z cX6_may RX6 4 rmX6_may) {res : Int32 × kM} (K : kEnd Z (some .boolean) (some (.int res.1)) res.2) : ∀ (st : kM), fX6_may_19 st = some res → kV Z 4 19 [(0, kr Z 59)] [] st := by
  intro st hf
  unfold fX6_may_19 at hf
  refine k_iconst C (0 : Int32) dX6_may_19 (by decide) rfl ?_
  exact tX6_may_20 C K (0 : Int32) st hf
set_option maxRecDepth 100000 in
theorem tX6_may {Z : kZ} (C : kC Z cX6_may RX6 4 rmX6_may) {v1 : Int64}  {st : kM} {res : Int32 × kM} (hf : fX6_may v1 st = some res) (K : kEnd Z (some .boolean) (some (.int res.1)) res.2) : kV Z 4 0 [(0, kr Z 59), (1, .long v1)] [] st := by
  unfold fX6_may at hf
  refine k_aload_n C 0 dX6_may_0 rfl rfl rfl ?_
  refine g_X6_good C rfl kw_4_9 dX6_may_1 rfl ?_
  refine k_if_eq C 19 dX6_may_4 rfl rfl (fun b1 => ?_) (fun b1 => ?_)
  · replace hf := kf_t hf b1
    refine k_lv (lv' := [(0, kr Z 59)]) [0] rfl ?_
    exact tX6_may_19 C K st hf
  · replace hf := kf_f hf b1
    refine k_aload_n C 0 dX6_may_7 rfl rfl rfl ?_
    refine k_lload_n C 1 dX6_may_8 rfl rfl rfl ?_
    obtain ⟨q2, e3, hf⟩ := kf_b hf
    refine k_callV C [.long v1] (mX6_isWord e3) rfl (by decide) rfl kw_5_78 kw_5_80 kw_0_52 kw_1_7 kw_5_81 qX6_isWord rfl ⟨by decide, by decide⟩ ⟨rfl, rfl⟩ (Nat.le_of_ble_eq_true rfl) dX6_may_9 rfl ?_ rfl
    refine (show kV Z 4 12 [(0, kr Z 59), (1, .long v1)] [.int q2.1] q2.2 from ?_)
    refine k_if_eq C 19 dX6_may_12 rfl rfl (fun b4 => ?_) (fun b4 => ?_)
    · replace hf := kf_t hf b4
      refine k_lv (lv' := [(0, kr Z 59)]) [0] rfl ?_
      exact tX6_may_19 C K q2.2 hf
    · replace hf := kf_f hf b4
      refine k_iconst C (1 : Int32) dX6_may_15 (by decide) rfl ?_
      refine k_goto C 20 dX6_may_16 rfl ?_
      refine k_lv (lv' := [(0, kr Z 59)]) [0] rfl ?_
      exact tX6_may_20 C K (1 : Int32) q2.2 hf
theorem mX6_may {G : kG} {v1 : Int64}  {st : kM} {res : Int32 × kM} (hf : fX6_may v1 st = some res) : kCt G yX6_may cX6_may 4 (some .boolean) rmX6_may [.ref (G.2.1 59), .long v1] st (some (.int res.1)) res.2 := kMet (by decide) (Nat.le_of_ble_eq_true rfl) ⟨rfl, rfl⟩ (fun X A Q C K => tX6_may C  hf K)
theorem qX6_may : yX6_may.cls = RX6 ∧ yX6_may.cls ≠ "java/lang/invoke/MethodHandle" ∧ yX6_may.cls ≠ "java/lang/invoke/VarHandle" ∧ (parseMethodDescriptor yX6_may.desc).map (fun d => d.parameters.length) = some 1 := ⟨rfl, by decide, by decide, by decide +kernel⟩
-- TalkKnotsModel.wantOne(I)V
def rmX6_wantOne : Room := { frames := 5, cells := 0, slots := 0, locals := 111 }
def fX6_wantOne_67 (x1 : Int32) (x2 : Int32) (x3 : Int32) (y0 : Int32) (st : kM) : Option (kM) :=
  if (st.1 59 11) = 0 then (some st) else ((fX6_adds x1 x2 x3 y0 st).bind fun s2 => (some s2))
def fX6_wantOne_17 (x1 : Int32) (y0 : Int32) (st : kM) : Option (kM) :=
  if y0 = 0 ∨ y0 = 1 then ((some (kwr st 59 11 y0)).bind fun s2 => (if (s2.1 59 11) = 0 then (some s2) else ((fX6_advance s2).bind fun s5 => ((fX6_wantNumber (0 : Int32) (3 : Int32) s5).bind fun q7 => ((fX6_mayWant (307058 : Int64) (0 : Int32) (99 : Int32) (50 : Int32) q7.2).bind fun q9 => ((fX6_may (6683990 : Int64) q9.2).bind fun q11 => (if q11.1 = 0 then (fX6_wantOne_67 x1 q7.1 q9.1 (1 : Int32) q11.2) else (fX6_wantOne_67 x1 q7.1 q9.1 (0 : Int32) q11.2)))))))) else none
def fX6_wantOne (v1 : Int32) (st : kM) : Option (kM) :=
  if (10 : Int32) ≤ (st.1 60 1) then (fX6_wantOne_17 v1 (0 : Int32) st) else (fX6_wantOne_17 v1 (1 : Int32) st)
set_option maxRecDepth 100000 in
theorem tX6_wantOne_67 {Z : kZ} (C : kC Z cX6_wantOne RX6 5 rmX6_wantOne) {res : kM} (K : kEnd Z none none res) : ∀ (x1 : Int32) (x2 : Int32) (x3 : Int32) (y0 : Int32) (st : kM), fX6_wantOne_67 x1 x2 x3 y0 st = some res → kV Z 5 67 [(0, kr Z 59), (1, .int x1), (2, .int x2), (3, .int x3)] [.int y0] st := by
  intro x1 x2 x3 y0 st hf
  unfold fX6_wantOne_67 at hf
  refine k_istore (lv' := [(4, .int y0), (0, kr Z 59), (1, .int x1), (2, .int x2), (3, .int x3)]) C dX6_wantOne_67 (by decide) rfl rfl ?_
  refine k_aload_n C 1 dX6_wantOne_69 rfl rfl rfl ?_
  refine g_X6_good C rfl kw_4_9 dX6_wantOne_70 rfl ?_
  refine k_if_eq C 85 dX6_wantOne_73 rfl rfl (fun b1 => ?_) (fun b1 => ?_)
  · replace hf := kf_t hf b1
    exact k_vret C K hf dX6_wantOne_85
  · replace hf := kf_f hf b1
    refine k_aload_n C 1 dX6_wantOne_76 rfl rfl rfl ?_
    refine k_iload_n C 2 dX6_wantOne_77 rfl rfl rfl ?_
    refine k_iload_n C 3 dX6_wantOne_78 rfl rfl rfl ?_
    refine k_iload_n C 4 dX6_wantOne_79 rfl rfl rfl ?_
    refine k_iload C 0 dX6_wantOne_80 rfl rfl ?_
    obtain ⟨s2, e3, hf⟩ := kf_b hf
    refine k_callV C [.int x1, .int x2, .int x3, .int y0] (mX6_adds e3) rfl (by decide) rfl kw_4_145 kw_4_147 kw_0_35 kw_1_7 kw_4_148 qX6_adds rfl ⟨by decide, by decide⟩ ⟨rfl, rfl⟩ (Nat.le_of_ble_eq_true rfl) dX6_wantOne_82 rfl ?_ rfl
    refine (show kV Z 5 85 [(4, .int y0), (0, kr Z 59), (1, .int x1), (2, .int x2), (3, .int x3)] [] s2 from ?_)
    exact k_vret C K hf dX6_wantOne_85
set_option maxRecDepth 100000 in
theorem tX6_wantOne_17 {Z : kZ} (C : kC Z cX6_wantOne RX6 5 rmX6_wantOne) {res : kM} (K : kEnd Z none none res) : ∀ (x1 : Int32) (y0 : Int32) (st : kM), fX6_wantOne_17 x1 y0 st = some res → kV Z 5 17 [(0, kr Z 59), (1, .int x1)] [.int y0, kr Z 59] st := by
  intro x1 y0 st hf
  unfold fX6_wantOne_17 at hf
  obtain ⟨g1, hf⟩ := kf_y hf
  refine p_X6_good C g1 rfl kw_4_9 dX6_wantOne_17 rfl ?_
  obtain ⟨s2, e3, hf⟩ := kf_b hf
  refine k_st e3 ?_
  refine k_aload_n C 0 dX6_wantOne_20 rfl rfl rfl ?_
  refine g_X6_good C rfl kw_4_9 dX6_wantOne_21 rfl ?_
  refine k_if_ne C 28 dX6_wantOne_24 rfl rfl (fun b4 => ?_) (fun b4 => ?_)
  · replace hf := kf_f hf b4
    refine k_aload_n C 0 dX6_wantOne_28 rfl rfl rfl ?_
    obtain ⟨s5, e6, hf⟩ := kf_b hf
    refine k_callV C [] (mX6_advance e6) rfl (by decide) rfl kw_5_52 kw_5_54 kw_0_48 kw_1_7 kw_5_55 qX6_advance rfl ⟨by decide, by decide⟩ ⟨rfl, rfl⟩ (Nat.le_of_ble_eq_true rfl) dX6_wantOne_29 rfl ?_ rfl
    refine (show kV Z 5 32 [(0, kr Z 59), (1, .int x1)] [] s5 from ?_)
    refine k_aload_n C 0 dX6_wantOne_32 rfl rfl rfl ?_
    refine k_iconst C (0 : Int32) dX6_wantOne_33 (by decide) rfl ?_
    refine k_iconst C (3 : Int32) dX6_wantOne_34 (by decide) rfl ?_
    obtain ⟨q7, e8, hf⟩ := kf_b hf
    refine k_callV C [.int (0 : Int32), .int (3 : Int32)] (mX6_wantNumber e8) rfl (by decide) rfl kw_5_91 kw_5_93 kw_0_54 kw_1_7 kw_5_94 qX6_wantNumber rfl ⟨by decide, by decide⟩ ⟨rfl, rfl⟩ (Nat.le_of_ble_eq_true rfl) dX6_wantOne_35 rfl ?_ rfl
    refine (show kV Z 5 38 [(0, kr Z 59), (1, .int x1)] [.int q7.1] q7.2 from ?_)
    refine k_istore_n (lv' := [(2, .int q7.1), (0, kr Z 59), (1, .int x1)]) C dX6_wantOne_38 rfl (by decide) rfl rfl ?_
    refine k_aload_n C 1 dX6_wantOne_39 rfl rfl rfl ?_
    refine k_ldc2 C (307058 : Int64) kw_5_95 dX6_wantOne_40 rfl ?_
    refine k_iconst C (0 : Int32) dX6_wantOne_43 (by decide) rfl ?_
    refine k_bipush C (99 : Int32) dX6_wantOne_44 (by decide) rfl ?_
    refine k_bipush C (50 : Int32) dX6_wantOne_46 (by decide) rfl ?_
    obtain ⟨q9, e10, hf⟩ := kf_b hf
    refine k_callV C [.long (307058 : Int64), .int (0 : Int32), .int (99 : Int32), .int (50 : Int32)] (mX6_mayWant e10) rfl (by decide) rfl kw_5_96 kw_5_98 kw_0_55 kw_1_7 kw_5_99 qX6_mayWant rfl ⟨by decide, by decide⟩ ⟨rfl, rfl⟩ (Nat.le_of_ble_eq_true rfl) dX6_wantOne_48 rfl ?_ rfl
    refine (show kV Z 5 51 [(2, .int q7.1), (0, kr Z 59), (1, .int x1)] [.int q9.1] q9.2 from ?_)
    refine k_istore_n (lv' := [(3, .int q9.1), (2, .int q7.1), (0, kr Z 59), (1, .int x1)]) C dX6_wantOne_51 rfl (by decide) rfl rfl ?_
    refine k_aload_n C 2 dX6_wantOne_52 rfl rfl rfl ?_
    refine k_ldc2 C (6683990 : Int64) kw_5_100 dX6_wantOne_53 rfl ?_
    obtain ⟨q11, e12, hf⟩ := kf_b hf
    refine k_callV C [.long (6683990 : Int64)] (mX6_may e12) rfl (by decide) rfl kw_5_101 kw_5_103 kw_0_56 kw_1_7 kw_5_104 qX6_may rfl ⟨by decide, by decide⟩ ⟨rfl, rfl⟩ (Nat.le_of_ble_eq_true rfl) dX6_wantOne_56 rfl ?_ rfl
    refine (show kV Z 5 59 [(3, .int q9.1), (2, .int q7.1), (0, kr Z 59), (1, .int x1)] [.int q11.1] q11.2 from ?_)
    refine k_if_eq C 66 dX6_wantOne_59 rfl rfl (fun b13 => ?_) (fun b13 => ?_)
    · replace hf := kf_t hf b13
      refine k_iconst C (1 : Int32) dX6_wantOne_66 (by decide) rfl ?_
      refine k_lv (lv' := [(0, kr Z 59), (1, .int x1), (2, .int q7.1), (3, .int q9.1)]) [2, 3, 1, 0] rfl ?_
      exact tX6_wantOne_67 C K x1 q7.1 q9.1 (1 : Int32) q11.2 hf
    · replace hf := kf_f hf b13
      refine k_iconst C (0 : Int32) dX6_wantOne_62 (by decide) rfl ?_
      refine k_goto C 67 dX6_wantOne_63 rfl ?_
      refine k_lv (lv' := [(0, kr Z 59), (1, .int x1), (2, .int q7.1), (3, .int q9.1)]) [2, 3, 1, 0] rfl ?_
      exact tX6_wantOne_67 C K x1 q7.1 q9.1 (0 : Int32) q11.2 hf
  · replace hf := kf_t hf b4
    exact k_vret C K hf dX6_wantOne_27
set_option maxRecDepth 100000 in
theorem tX6_wantOne {Z : kZ} (C : kC Z cX6_wantOne RX6 5 rmX6_wantOne) {v1 : Int32}  {st : kM} {res : kM} (hf : fX6_wantOne v1 st = some res) (K : kEnd Z none none res) : kV Z 5 0 [(0, kr Z 59), (1, .int v1)] [] st := by
  unfold fX6_wantOne at hf
  refine k_aload_n C 0 dX6_wantOne_0 rfl rfl rfl ?_
  refine k_aload_n C 0 dX6_wantOne_1 rfl rfl rfl ?_
  refine g_X6_row C rfl kw_3_238 dX6_wantOne_2 rfl ?_
  refine k_iconst C (1 : Int32) dX6_wantOne_5 (by decide) rfl ?_
  refine k_iald (j := 1) C ⟨rfl, rfl⟩ (by decide) rfl dX6_wantOne_6 rfl ?_
  refine k_bipush C (10 : Int32) dX6_wantOne_7 (by decide) rfl ?_
  refine k_icmp_ge C 16 dX6_wantOne_9 rfl rfl (fun b1 => ?_) (fun b1 => ?_)
  · replace hf := kf_t hf b1
    refine k_iconst C (0 : Int32) dX6_wantOne_16 (by decide) rfl ?_
    exact tX6_wantOne_17 C K v1 (0 : Int32) st hf
  · replace hf := kf_f hf b1
    refine k_iconst C (1 : Int32) dX6_wantOne_12 (by decide) rfl ?_
    refine k_goto C 17 dX6_wantOne_13 rfl ?_
    exact tX6_wantOne_17 C K v1 (1 : Int32) st hf
theorem mX6_wantOne {G : kG} {v1 : Int32}  {st : kM} {res : kM} (hf : fX6_wantOne v1 st = some res) : kCt G yX6_wantOne cX6_wantOne 5 none rmX6_wantOne [.ref (G.2.1 59), .int v1] st none res := kMet (by decide) (Nat.le_of_ble_eq_true rfl) ⟨rfl, rfl⟩ (fun X A Q C K => tX6_wantOne C  hf K)
theorem qX6_wantOne : yX6_wantOne.cls = RX6 ∧ yX6_wantOne.cls ≠ "java/lang/invoke/MethodHandle" ∧ yX6_wantOne.cls ≠ "java/lang/invoke/VarHandle" ∧ (parseMethodDescriptor yX6_wantOne.desc).map (fun d => d.parameters.length) = some 1 := ⟨rfl, by decide, by decide, by decide +kernel⟩
-- TalkKnotsModel.wantMast()V
def rmX6_wantMast : Room := { frames := 4, cells := 0, slots := 0, locals := 86 }
def fX6_wantMast_42 (x1 : Int32) (x2 : Int32) (y0 : Int32) (st : kM) : Option (kM) :=
  if (st.1 59 11) = 0 then (some st) else ((fX6_puts1 x1 (0 : Int32) x2 st).bind fun s2 => ((fX6_puts1 x1 (1 : Int32) y0 s2).bind fun s4 => (some s4)))
def fX6_wantMast_26 (x1 : Int32) (y0 : Int32) (st : kM) : Option (kM) :=
  (fX6_may (90302 : Int64) st).bind fun q1 => (if q1.1 = 0 then (fX6_wantMast_42 x1 y0 (1 : Int32) q1.2) else (fX6_wantMast_42 x1 y0 (0 : Int32) q1.2))
def fX6_wantMast (st : kM) : Option (kM) :=
  (fX6_wantNumber (0 : Int32) (3 : Int32) st).bind fun q1 => (if (q1.2.1 59 11) = 0 then (fX6_wantMast_26 q1.1 (0 : Int32) q1.2) else ((fX6_wantNumber (0 : Int32) (999 : Int32) q1.2).bind fun q4 => (fX6_wantMast_26 q1.1 q4.1 q4.2)))
set_option maxRecDepth 100000 in
theorem tX6_wantMast_42 {Z : kZ} (C : kC Z cX6_wantMast RX6 4 rmX6_wantMast) {res : kM} (K : kEnd Z none none res) : ∀ (x1 : Int32) (x2 : Int32) (y0 : Int32) (st : kM), fX6_wantMast_42 x1 x2 y0 st = some res → kV Z 4 42 [(0, kr Z 59), (1, .int x1), (2, .int x2)] [.int y0] st := by
  intro x1 x2 y0 st hf
  unfold fX6_wantMast_42 at hf
  refine k_istore_n (lv' := [(3, .int y0), (0, kr Z 59), (1, .int x1), (2, .int x2)]) C dX6_wantMast_42 rfl (by decide) rfl rfl ?_
  refine k_aload_n C 1 dX6_wantMast_43 rfl rfl rfl ?_
  refine g_X6_good C rfl kw_4_9 dX6_wantMast_44 rfl ?_
  refine k_if_eq C 64 dX6_wantMast_47 rfl rfl (fun b1 => ?_) (fun b1 => ?_)
  · replace hf := kf_t hf b1
    exact k_vret C K hf dX6_wantMast_64
  · replace hf := kf_f hf b1
    refine k_aload_n C 1 dX6_wantMast_50 rfl rfl rfl ?_
    refine k_iload_n C 2 dX6_wantMast_51 rfl rfl rfl ?_
    refine k_iconst C (0 : Int32) dX6_wantMast_52 (by decide) rfl ?_
    refine k_iload_n C 3 dX6_wantMast_53 rfl rfl rfl ?_
    obtain ⟨s2, e3, hf⟩ := kf_b hf
    refine k_callV C [.int x1, .int (0 : Int32), .int x2] (mX6_puts1 e3) rfl (by decide) rfl kw_3_234 kw_3_236 kw_0_22 kw_1_7 kw_3_237 qX6_puts1 rfl ⟨by decide, by decide⟩ ⟨rfl, rfl⟩ (Nat.le_of_ble_eq_true rfl) dX6_wantMast_54 rfl ?_ rfl
    refine (show kV Z 4 57 [(3, .int y0), (0, kr Z 59), (1, .int x1), (2, .int x2)] [] s2 from ?_)
    refine k_aload_n C 1 dX6_wantMast_57 rfl rfl rfl ?_
    refine k_iload_n C 2 dX6_wantMast_58 rfl rfl rfl ?_
    refine k_iconst C (1 : Int32) dX6_wantMast_59 (by decide) rfl ?_
    refine k_iload_n C 0 dX6_wantMast_60 rfl rfl rfl ?_
    obtain ⟨s4, e5, hf⟩ := kf_b hf
    refine k_callV C [.int x1, .int (1 : Int32), .int y0] (mX6_puts1 e5) rfl (by decide) rfl kw_3_234 kw_3_236 kw_0_22 kw_1_7 kw_3_237 qX6_puts1 rfl ⟨by decide, by decide⟩ ⟨rfl, rfl⟩ (Nat.le_of_ble_eq_true rfl) dX6_wantMast_61 rfl ?_ rfl
    refine (show kV Z 4 64 [(3, .int y0), (0, kr Z 59), (1, .int x1), (2, .int x2)] [] s4 from ?_)
    exact k_vret C K hf dX6_wantMast_64
set_option maxRecDepth 100000 in
theorem tX6_wantMast_26 {Z : kZ} (C : kC Z cX6_wantMast RX6 4 rmX6_wantMast) {res : kM} (K : kEnd Z none none res) : ∀ (x1 : Int32) (y0 : Int32) (st : kM), fX6_wantMast_26 x1 y0 st = some res → kV Z 4 26 [(0, kr Z 59), (1, .int x1)] [.int y0] st := by
  intro x1 y0 st hf
  unfold fX6_wantMast_26 at hf
  refine k_istore_n (lv' := [(2, .int y0), (0, kr Z 59), (1, .int x1)]) C dX6_wantMast_26 rfl (by decide) rfl rfl ?_
  refine k_aload_n C 1 dX6_wantMast_27 rfl rfl rfl ?_
  refine k_ldc2 C (90302 : Int64) kw_5_110 dX6_wantMast_28 rfl ?_
  obtain ⟨q1, e2, hf⟩ := kf_b hf
  refine k_callV C [.long (90302 : Int64)] (mX6_may e2) rfl (by decide) rfl kw_5_101 kw_5_103 kw_0_56 kw_1_7 kw_5_104 qX6_may rfl ⟨by decide, by decide⟩ ⟨rfl, rfl⟩ (Nat.le_of_ble_eq_true rfl) dX6_wantMast_31 rfl ?_ rfl
  refine (show kV Z 4 34 [(2, .int y0), (0, kr Z 59), (1, .int x1)] [.int q1.1] q1.2 from ?_)
  refine k_if_eq C 41 dX6_wantMast_34 rfl rfl (fun b3 => ?_) (fun b3 => ?_)
  · replace hf := kf_t hf b3
    refine k_iconst C (1 : Int32) dX6_wantMast_41 (by decide) rfl ?_
    refine k_lv (lv' := [(0, kr Z 59), (1, .int x1), (2, .int y0)]) [1, 2, 0] rfl ?_
    exact tX6_wantMast_42 C K x1 y0 (1 : Int32) q1.2 hf
  · replace hf := kf_f hf b3
    refine k_iconst C (0 : Int32) dX6_wantMast_37 (by decide) rfl ?_
    refine k_goto C 42 dX6_wantMast_38 rfl ?_
    refine k_lv (lv' := [(0, kr Z 59), (1, .int x1), (2, .int y0)]) [1, 2, 0] rfl ?_
    exact tX6_wantMast_42 C K x1 y0 (0 : Int32) q1.2 hf
set_option maxRecDepth 100000 in
theorem tX6_wantMast {Z : kZ} (C : kC Z cX6_wantMast RX6 4 rmX6_wantMast)   {st : kM} {res : kM} (hf : fX6_wantMast st = some res) (K : kEnd Z none none res) : kV Z 4 0 [(0, kr Z 59)] [] st := by
  unfold fX6_wantMast at hf
  refine k_aload_n C 0 dX6_wantMast_0 rfl rfl rfl ?_
  refine k_iconst C (0 : Int32) dX6_wantMast_1 (by decide) rfl ?_
  refine k_iconst C (3 : Int32) dX6_wantMast_2 (by decide) rfl ?_
  obtain ⟨q1, e2, hf⟩ := kf_b hf
  refine k_callV C [.int (0 : Int32), .int (3 : Int32)] (mX6_wantNumber e2) rfl (by decide) rfl kw_5_91 kw_5_93 kw_0_54 kw_1_7 kw_5_94 qX6_wantNumber rfl ⟨by decide, by decide⟩ ⟨rfl, rfl⟩ (Nat.le_of_ble_eq_true rfl) dX6_wantMast_3 rfl ?_ rfl
  refine (show kV Z 4 6 [(0, kr Z 59)] [.int q1.1] q1.2 from ?_)
  refine k_istore_n (lv' := [(1, .int q1.1), (0, kr Z 59)]) C dX6_wantMast_6 rfl (by decide) rfl rfl ?_
  refine k_aload_n C 1 dX6_wantMast_7 rfl rfl rfl ?_
  refine g_X6_good C rfl kw_4_9 dX6_wantMast_8 rfl ?_
  refine k_if_eq C 25 dX6_wantMast_11 rfl rfl (fun b3 => ?_) (fun b3 => ?_)
  · replace hf := kf_t hf b3
    refine k_iconst C (0 : Int32) dX6_wantMast_25 (by decide) rfl ?_
    refine k_lv (lv' := [(0, kr Z 59), (1, .int q1.1)]) [1, 0] rfl ?_
    exact tX6_wantMast_26 C K q1.1 (0 : Int32) q1.2 hf
  · replace hf := kf_f hf b3
    refine k_aload_n C 1 dX6_wantMast_14 rfl rfl rfl ?_
    refine k_iconst C (0 : Int32) dX6_wantMast_15 (by decide) rfl ?_
    refine k_sipush C (999 : Int32) dX6_wantMast_16 (by decide) rfl ?_
    obtain ⟨q4, e5, hf⟩ := kf_b hf
    refine k_callV C [.int (0 : Int32), .int (999 : Int32)] (mX6_wantNumber e5) rfl (by decide) rfl kw_5_91 kw_5_93 kw_0_54 kw_1_7 kw_5_94 qX6_wantNumber rfl ⟨by decide, by decide⟩ ⟨rfl, rfl⟩ (Nat.le_of_ble_eq_true rfl) dX6_wantMast_19 rfl ?_ rfl
    refine (show kV Z 4 22 [(1, .int q1.1), (0, kr Z 59)] [.int q4.1] q4.2 from ?_)
    refine k_goto C 26 dX6_wantMast_22 rfl ?_
    refine k_lv (lv' := [(0, kr Z 59), (1, .int q1.1)]) [1, 0] rfl ?_
    exact tX6_wantMast_26 C K q1.1 q4.1 q4.2 hf
theorem mX6_wantMast {G : kG}   {st : kM} {res : kM} (hf : fX6_wantMast st = some res) : kCt G yX6_wantMast cX6_wantMast 4 none rmX6_wantMast [.ref (G.2.1 59)] st none res := kMet (by decide) (Nat.le_of_ble_eq_true rfl) ⟨rfl, rfl⟩ (fun X A Q C K => tX6_wantMast C  hf K)
theorem qX6_wantMast : yX6_wantMast.cls = RX6 ∧ yX6_wantMast.cls ≠ "java/lang/invoke/MethodHandle" ∧ yX6_wantMast.cls ≠ "java/lang/invoke/VarHandle" ∧ (parseMethodDescriptor yX6_wantMast.desc).map (fun d => d.parameters.length) = some 0 := ⟨rfl, by decide, by decide, by decide +kernel⟩
-- TalkKnotsModel.wantWind()V
def rmX6_wantWind : Room := { frames := 4, cells := 0, slots := 0, locals := 86 }
def fX6_wantWind_26 (x1 : Int32) (y0 : Int32) (st : kM) : Option (kM) :=
  if (st.1 59 11) = 0 then (some st) else (if ((2 : Int32) + x1) < 0 ∨ 72 ≤ ((2 : Int32) + x1).toNatClampNeg then none else ((some (kwr st 60 (((2 : Int32) + x1).toNatClampNeg) y0)).bind fun s3 => (some s3)))
def fX6_wantWind (st : kM) : Option (kM) :=
  (fX6_wantNumber (0 : Int32) (11 : Int32) st).bind fun q1 => (if (q1.2.1 59 11) = 0 then (fX6_wantWind_26 q1.1 (0 : Int32) q1.2) else ((fX6_wantNumber (0 : Int32) (99 : Int32) q1.2).bind fun q4 => (fX6_wantWind_26 q1.1 q4.1 q4.2)))
set_option maxRecDepth 100000 in
theorem tX6_wantWind_26 {Z : kZ} (C : kC Z cX6_wantWind RX6 3 rmX6_wantWind) {res : kM} (K : kEnd Z none none res) : ∀ (x1 : Int32) (y0 : Int32) (st : kM), fX6_wantWind_26 x1 y0 st = some res → kV Z 3 26 [(0, kr Z 59), (1, .int x1)] [.int y0] st := by
  intro x1 y0 st hf
  unfold fX6_wantWind_26 at hf
  refine k_istore_n (lv' := [(2, .int y0), (0, kr Z 59), (1, .int x1)]) C dX6_wantWind_26 rfl (by decide) rfl rfl ?_
  refine k_aload_n C 1 dX6_wantWind_27 rfl rfl rfl ?_
  refine g_X6_good C rfl kw_4_9 dX6_wantWind_28 rfl ?_
  refine k_if_eq C 43 dX6_wantWind_31 rfl rfl (fun b1 => ?_) (fun b1 => ?_)
  · replace hf := kf_t hf b1
    exact k_vret C K hf dX6_wantWind_43
  · replace hf := kf_f hf b1
    refine k_aload_n C 1 dX6_wantWind_34 rfl rfl rfl ?_
    refine g_X6_row C rfl kw_3_238 dX6_wantWind_35 rfl ?_
    refine k_iconst C (2 : Int32) dX6_wantWind_38 (by decide) rfl ?_
    refine k_iload_n C 2 dX6_wantWind_39 rfl rfl rfl ?_
    refine k_iadd C dX6_wantWind_40 rfl ?_
    refine k_iload_n C 0 dX6_wantWind_41 rfl rfl rfl ?_
    obtain ⟨g2, hf⟩ := kf_g hf
    refine k_iast (j := ((2 : Int32) + x1).toNatClampNeg) C ⟨rfl, rfl⟩ g2 rfl dX6_wantWind_42 rfl ?_
    obtain ⟨s3, e4, hf⟩ := kf_b hf
    refine k_st e4 ?_
    exact k_vret C K hf dX6_wantWind_43
set_option maxRecDepth 100000 in
theorem tX6_wantWind {Z : kZ} (C : kC Z cX6_wantWind RX6 3 rmX6_wantWind)   {st : kM} {res : kM} (hf : fX6_wantWind st = some res) (K : kEnd Z none none res) : kV Z 3 0 [(0, kr Z 59)] [] st := by
  unfold fX6_wantWind at hf
  refine k_aload_n C 0 dX6_wantWind_0 rfl rfl rfl ?_
  refine k_iconst C (0 : Int32) dX6_wantWind_1 (by decide) rfl ?_
  refine k_bipush C (11 : Int32) dX6_wantWind_2 (by decide) rfl ?_
  obtain ⟨q1, e2, hf⟩ := kf_b hf
  refine k_callV C [.int (0 : Int32), .int (11 : Int32)] (mX6_wantNumber e2) rfl (by decide) rfl kw_5_91 kw_5_93 kw_0_54 kw_1_7 kw_5_94 qX6_wantNumber rfl ⟨by decide, by decide⟩ ⟨rfl, rfl⟩ (Nat.le_of_ble_eq_true rfl) dX6_wantWind_4 rfl ?_ rfl
  refine (show kV Z 3 7 [(0, kr Z 59)] [.int q1.1] q1.2 from ?_)
  refine k_istore_n (lv' := [(1, .int q1.1), (0, kr Z 59)]) C dX6_wantWind_7 rfl (by decide) rfl rfl ?_
  refine k_aload_n C 1 dX6_wantWind_8 rfl rfl rfl ?_
  refine g_X6_good C rfl kw_4_9 dX6_wantWind_9 rfl ?_
  refine k_if_eq C 25 dX6_wantWind_12 rfl rfl (fun b3 => ?_) (fun b3 => ?_)
  · replace hf := kf_t hf b3
    refine k_iconst C (0 : Int32) dX6_wantWind_25 (by decide) rfl ?_
    refine k_lv (lv' := [(0, kr Z 59), (1, .int q1.1)]) [1, 0] rfl ?_
    exact tX6_wantWind_26 C K q1.1 (0 : Int32) q1.2 hf
  · replace hf := kf_f hf b3
    refine k_aload_n C 1 dX6_wantWind_15 rfl rfl rfl ?_
    refine k_iconst C (0 : Int32) dX6_wantWind_16 (by decide) rfl ?_
    refine k_bipush C (99 : Int32) dX6_wantWind_17 (by decide) rfl ?_
    obtain ⟨q4, e5, hf⟩ := kf_b hf
    refine k_callV C [.int (0 : Int32), .int (99 : Int32)] (mX6_wantNumber e5) rfl (by decide) rfl kw_5_91 kw_5_93 kw_0_54 kw_1_7 kw_5_94 qX6_wantNumber rfl ⟨by decide, by decide⟩ ⟨rfl, rfl⟩ (Nat.le_of_ble_eq_true rfl) dX6_wantWind_19 rfl ?_ rfl
    refine (show kV Z 3 22 [(1, .int q1.1), (0, kr Z 59)] [.int q4.1] q4.2 from ?_)
    refine k_goto C 26 dX6_wantWind_22 rfl ?_
    refine k_lv (lv' := [(0, kr Z 59), (1, .int q1.1)]) [1, 0] rfl ?_
    exact tX6_wantWind_26 C K q1.1 q4.1 q4.2 hf
theorem mX6_wantWind {G : kG}   {st : kM} {res : kM} (hf : fX6_wantWind st = some res) : kCt G yX6_wantWind cX6_wantWind 3 none rmX6_wantWind [.ref (G.2.1 59)] st none res := kMet (by decide) (Nat.le_of_ble_eq_true rfl) ⟨rfl, rfl⟩ (fun X A Q C K => tX6_wantWind C  hf K)
theorem qX6_wantWind : yX6_wantWind.cls = RX6 ∧ yX6_wantWind.cls ≠ "java/lang/invoke/MethodHandle" ∧ yX6_wantWind.cls ≠ "java/lang/invoke/VarHandle" ∧ (parseMethodDescriptor yX6_wantWind.desc).map (fun d => d.parameters.length) = some 0 := ⟨rfl, by decide, by decide, by decide +kernel⟩
-- TalkKnotsModel.wantItem()V
def rmX6_wantItem : Room := { frames := 6, cells := 0, slots := 0, locals := 135 }
def fX6_wantItem (st : kM) : Option (kM) :=
  (fX6_kindHere st).bind fun q1 => (if q1.1 < 0 then ((fX6_may (257141 : Int64) q1.2).bind fun q4 => (if q4.1 = 0 then ((fX6_may (459652 : Int64) q4.2).bind fun q7 => (if q7.1 = 0 then ((fX6_may (10728482 : Int64) q7.2).bind fun q10 => (if q10.1 = 0 then ((some (kwr q10.2 59 11 (0 : Int32))).bind fun s13 => (some s13)) else ((fX6_wantNumber (0 : Int32) ((q10.2.1 60 1) - (1 : Int32)) q10.2).bind fun q15 => (if (q15.2.1 59 11) = 0 then (some q15.2) else ((fX6_teases q15.1 q15.2).bind fun s18 => (some s18)))))) else ((fX6_wantWind q7.2).bind fun s20 => (some s20)))) else ((fX6_wantMast q4.2).bind fun s22 => (some s22)))) else ((fX6_kindHere q1.2).bind fun q24 => ((fX6_wantOne q24.1 q24.2).bind fun s26 => (some s26))))
set_option maxRecDepth 100000 in
theorem tX6_wantItem {Z : kZ} (C : kC Z cX6_wantItem RX6 2 rmX6_wantItem)   {st : kM} {res : kM} (hf : fX6_wantItem st = some res) (K : kEnd Z none none res) : kV Z 2 0 [(0, kr Z 59)] [] st := by
  unfold fX6_wantItem at hf
  refine k_aload_n C 0 dX6_wantItem_0 rfl rfl rfl ?_
  obtain ⟨q1, e2, hf⟩ := kf_b hf
  refine k_callV C [] (mX6_kindHere e2) rfl (by decide) rfl kw_5_73 kw_5_75 kw_0_51 kw_1_7 kw_5_76 qX6_kindHere rfl ⟨by decide, by decide⟩ ⟨rfl, rfl⟩ (Nat.le_of_ble_eq_true rfl) dX6_wantItem_1 rfl ?_ rfl
  refine (show kV Z 2 4 [(0, kr Z 59)] [.int q1.1] q1.2 from ?_)
  refine k_if_lt C 18 dX6_wantItem_4 rfl rfl (fun b3 => ?_) (fun b3 => ?_)
  · replace hf := kf_t hf b3
    refine k_aload_n C 0 dX6_wantItem_18 rfl rfl rfl ?_
    refine k_ldc2 C (257141 : Int64) kw_5_105 dX6_wantItem_19 rfl ?_
    obtain ⟨q4, e5, hf⟩ := kf_b hf
    refine k_callV C [.long (257141 : Int64)] (mX6_may e5) rfl (by decide) rfl kw_5_101 kw_5_103 kw_0_56 kw_1_7 kw_5_104 qX6_may rfl ⟨by decide, by decide⟩ ⟨rfl, rfl⟩ (Nat.le_of_ble_eq_true rfl) dX6_wantItem_22 rfl ?_ rfl
    refine (show kV Z 2 25 [(0, kr Z 59)] [.int q4.1] q4.2 from ?_)
    refine k_if_eq C 35 dX6_wantItem_25 rfl rfl (fun b6 => ?_) (fun b6 => ?_)
    · replace hf := kf_t hf b6
      refine k_aload_n C 0 dX6_wantItem_35 rfl rfl rfl ?_
      refine k_ldc2 C (459652 : Int64) kw_5_111 dX6_wantItem_36 rfl ?_
      obtain ⟨q7, e8, hf⟩ := kf_b hf
      refine k_callV C [.long (459652 : Int64)] (mX6_may e8) rfl (by decide) rfl kw_5_101 kw_5_103 kw_0_56 kw_1_7 kw_5_104 qX6_may rfl ⟨by decide, by decide⟩ ⟨rfl, rfl⟩ (Nat.le_of_ble_eq_true rfl) dX6_wantItem_39 rfl ?_ rfl
      refine (show kV Z 2 42 [(0, kr Z 59)] [.int q7.1] q7.2 from ?_)
      refine k_if_eq C 52 dX6_wantItem_42 rfl rfl (fun b9 => ?_) (fun b9 => ?_)
      · replace hf := kf_t hf b9
        refine k_aload_n C 0 dX6_wantItem_52 rfl rfl rfl ?_
        refine k_ldc2 C (10728482 : Int64) kw_5_116 dX6_wantItem_53 rfl ?_
        obtain ⟨q10, e11, hf⟩ := kf_b hf
        refine k_callV C [.long (10728482 : Int64)] (mX6_may e11) rfl (by decide) rfl kw_5_101 kw_5_103 kw_0_56 kw_1_7 kw_5_104 qX6_may rfl ⟨by decide, by decide⟩ ⟨rfl, rfl⟩ (Nat.le_of_ble_eq_true rfl) dX6_wantItem_56 rfl ?_ rfl
        refine (show kV Z 2 59 [(0, kr Z 59)] [.int q10.1] q10.2 from ?_)
        refine k_if_eq C 91 dX6_wantItem_59 rfl rfl (fun b12 => ?_) (fun b12 => ?_)
        · replace hf := kf_t hf b12
          refine k_aload_n C 0 dX6_wantItem_91 rfl rfl rfl ?_
          refine k_iconst C (0 : Int32) dX6_wantItem_92 (by decide) rfl ?_
          refine p_X6_good C (by decide) rfl kw_4_9 dX6_wantItem_93 rfl ?_
          obtain ⟨s13, e14, hf⟩ := kf_b hf
          refine k_st e14 ?_
          exact k_vret C K hf dX6_wantItem_96
        · replace hf := kf_f hf b12
          refine k_aload_n C 0 dX6_wantItem_62 rfl rfl rfl ?_
          refine k_iconst C (0 : Int32) dX6_wantItem_63 (by decide) rfl ?_
          refine k_aload_n C 0 dX6_wantItem_64 rfl rfl rfl ?_
          refine g_X6_row C rfl kw_3_238 dX6_wantItem_65 rfl ?_
          refine k_iconst C (1 : Int32) dX6_wantItem_68 (by decide) rfl ?_
          refine k_iald (j := 1) C ⟨rfl, rfl⟩ (by decide) rfl dX6_wantItem_69 rfl ?_
          refine k_iconst C (1 : Int32) dX6_wantItem_70 (by decide) rfl ?_
          refine k_isub C dX6_wantItem_71 rfl ?_
          obtain ⟨q15, e16, hf⟩ := kf_b hf
          refine k_callV C [.int (0 : Int32), .int ((q10.2.1 60 1) - (1 : Int32))] (mX6_wantNumber e16) rfl (by decide) rfl kw_5_91 kw_5_93 kw_0_54 kw_1_7 kw_5_94 qX6_wantNumber rfl ⟨by decide, by decide⟩ ⟨rfl, rfl⟩ (Nat.le_of_ble_eq_true rfl) dX6_wantItem_72 rfl ?_ rfl
          refine (show kV Z 2 75 [(0, kr Z 59)] [.int q15.1] q15.2 from ?_)
          refine k_istore_n (lv' := [(1, .int q15.1), (0, kr Z 59)]) C dX6_wantItem_75 rfl (by decide) rfl rfl ?_
          refine k_aload_n C 1 dX6_wantItem_76 rfl rfl rfl ?_
          refine g_X6_good C rfl kw_4_9 dX6_wantItem_77 rfl ?_
          refine k_if_eq C 88 dX6_wantItem_80 rfl rfl (fun b17 => ?_) (fun b17 => ?_)
          · replace hf := kf_t hf b17
            refine k_goto C 96 dX6_wantItem_88 rfl ?_
            exact k_vret C K hf dX6_wantItem_96
          · replace hf := kf_f hf b17
            refine k_aload_n C 1 dX6_wantItem_83 rfl rfl rfl ?_
            refine k_iload_n C 0 dX6_wantItem_84 rfl rfl rfl ?_
            obtain ⟨s18, e19, hf⟩ := kf_b hf
            refine k_callV C [.int q15.1] (mX6_teases e19) rfl (by decide) rfl kw_4_193 kw_4_195 kw_0_41 kw_1_7 kw_4_196 qX6_teases rfl ⟨by decide, by decide⟩ ⟨rfl, rfl⟩ (Nat.le_of_ble_eq_true rfl) dX6_wantItem_85 rfl ?_ rfl
            refine (show kV Z 2 88 [(1, .int q15.1), (0, kr Z 59)] [] s18 from ?_)
            refine k_goto C 96 dX6_wantItem_88 rfl ?_
            exact k_vret C K hf dX6_wantItem_96
      · replace hf := kf_f hf b9
        refine k_aload_n C 0 dX6_wantItem_45 rfl rfl rfl ?_
        obtain ⟨s20, e21, hf⟩ := kf_b hf
        refine k_callV C [] (mX6_wantWind e21) rfl (by decide) rfl kw_5_112 kw_5_114 kw_0_58 kw_1_7 kw_5_115 qX6_wantWind rfl ⟨by decide, by decide⟩ ⟨rfl, rfl⟩ (Nat.le_of_ble_eq_true rfl) dX6_wantItem_46 rfl ?_ rfl
        refine (show kV Z 2 49 [(0, kr Z 59)] [] s20 from ?_)
        refine k_goto C 96 dX6_wantItem_49 rfl ?_
        exact k_vret C K hf dX6_wantItem_96
    · replace hf := kf_f hf b6
      refine k_aload_n C 0 dX6_wantItem_28 rfl rfl rfl ?_
      obtain ⟨s22, e23, hf⟩ := kf_b hf
      refine k_callV C [] (mX6_wantMast e23) rfl (by decide) rfl kw_5_106 kw_5_108 kw_0_57 kw_1_7 kw_5_109 qX6_wantMast rfl ⟨by decide, by decide⟩ ⟨rfl, rfl⟩ (Nat.le_of_ble_eq_true rfl) dX6_wantItem_29 rfl ?_ rfl
      refine (show kV Z 2 32 [(0, kr Z 59)] [] s22 from ?_)
      refine k_goto C 96 dX6_wantItem_32 rfl ?_
      exact k_vret C K hf dX6_wantItem_96
  · replace hf := kf_f hf b3
    refine k_aload_n C 0 dX6_wantItem_7 rfl rfl rfl ?_
    refine k_aload_n C 0 dX6_wantItem_8 rfl rfl rfl ?_
    obtain ⟨q24, e25, hf⟩ := kf_b hf
    refine k_callV C [] (mX6_kindHere e25) rfl (by decide) rfl kw_5_73 kw_5_75 kw_0_51 kw_1_7 kw_5_76 qX6_kindHere rfl ⟨by decide, by decide⟩ ⟨rfl, rfl⟩ (Nat.le_of_ble_eq_true rfl) dX6_wantItem_9 rfl ?_ rfl
    refine (show kV Z 2 12 [(0, kr Z 59)] [.int q24.1, kr Z 59] q24.2 from ?_)
    obtain ⟨s26, e27, hf⟩ := kf_b hf
    refine k_callV C [.int q24.1] (mX6_wantOne e27) rfl (by decide) rfl kw_5_87 kw_5_89 kw_0_53 kw_1_7 kw_5_90 qX6_wantOne rfl ⟨by decide, by decide⟩ ⟨rfl, rfl⟩ (Nat.le_of_ble_eq_true rfl) dX6_wantItem_12 rfl ?_ rfl
    refine (show kV Z 2 15 [(0, kr Z 59)] [] s26 from ?_)
    refine k_goto C 96 dX6_wantItem_15 rfl ?_
    exact k_vret C K hf dX6_wantItem_96
theorem mX6_wantItem {G : kG}   {st : kM} {res : kM} (hf : fX6_wantItem st = some res) : kCt G yX6_wantItem cX6_wantItem 2 none rmX6_wantItem [.ref (G.2.1 59)] st none res := kMet (by decide) (Nat.le_of_ble_eq_true rfl) ⟨rfl, rfl⟩ (fun X A Q C K => tX6_wantItem C  hf K)
theorem qX6_wantItem : yX6_wantItem.cls = RX6 ∧ yX6_wantItem.cls ≠ "java/lang/invoke/MethodHandle" ∧ yX6_wantItem.cls ≠ "java/lang/invoke/VarHandle" ∧ (parseMethodDescriptor yX6_wantItem.desc).map (fun d => d.parameters.length) = some 0 := ⟨rfl, by decide, by decide, by decide +kernel⟩
-- TalkKnotsModel.yard()I
def rmX6_yard : Room := { frames := 7, cells := 0, slots := 0, locals := 156 }
def fX6_yard_91 (x1 : Int32) (y0 : Int32) (st : kM) : Option (Int32 × kM) :=
  if y0 = 0 ∨ y0 = 1 then ((some (kwr st 59 11 y0)).bind fun s2 => ((some (kwr s2 59 5 (0 : Int32))).bind fun s4 => (if (s4.1 59 11) = 0 then ((fX6_moveAll (0 : Int32) 70 s4).bind fun s7 => (some (((-1 : Int32) - (s7.1 59 7)), s7))) else (some (x1, s4))))) else none
def fX6_yard_90 (x1 : Int32) (st : kM) : Option (Int32 × kM) :=
  fX6_yard_91 x1 (0 : Int32) st
def fX6_yard_23 : Nat → Int32 → Int32 → kM → Option (Int32 × kM)
  | 0, _, _, _ => none
  | n + 1, x1, x2, st =>
    if x2 = 0 then (if (st.1 59 11) = 0 then (fX6_yard_90 x1 st) else (if (st.1 59 6) = 0 then (fX6_yard_91 x1 (1 : Int32) st) else (fX6_yard_90 x1 st))) else ((fX6_advance st).bind fun s4 => ((fX6_wantItem s4).bind fun s6 => (if (s6.1 59 11) = 0 then (fX6_yard_23 n (x1 + (1 : Int32)) (0 : Int32) s6) else (if (s6.1 59 6) = (3 : Int32) then (if (s6.1 59 10) = (59 : Int32) then (fX6_yard_23 n (x1 + (1 : Int32)) (1 : Int32) s6) else (fX6_yard_23 n (x1 + (1 : Int32)) (0 : Int32) s6)) else (fX6_yard_23 n (x1 + (1 : Int32)) (0 : Int32) s6)))))
def fX6_yard (st : kM) : Option (Int32 × kM) :=
  (fX6_moveAll (1 : Int32) 70 st).bind fun s1 => ((some (kwr s1 59 8 (0 : Int32))).bind fun s3 => ((some (kwr s3 59 11 (1 : Int32))).bind fun s5 => (fX6_yard_23 kfu (0 : Int32) (1 : Int32) s5)))
set_option maxRecDepth 100000 in
theorem tX6_yard_91 {Z : kZ} (C : kC Z cX6_yard RX6 3 rmX6_yard) {res : Int32 × kM} (K : kEnd Z (some .int) (some (.int res.1)) res.2) : ∀ (x1 : Int32) (y0 : Int32) (st : kM), fX6_yard_91 x1 y0 st = some res → kV Z 3 91 [(0, kr Z 59), (1, .int x1)] [.int y0, kr Z 59] st := by
  intro x1 y0 st hf
  unfold fX6_yard_91 at hf
  obtain ⟨g1, hf⟩ := kf_y hf
  refine p_X6_good C g1 rfl kw_4_9 dX6_yard_91 rfl ?_
  obtain ⟨s2, e3, hf⟩ := kf_b hf
  refine k_st e3 ?_
  refine k_aload_n C 0 dX6_yard_94 rfl rfl rfl ?_
  refine k_iconst C (0 : Int32) dX6_yard_95 (by decide) rfl ?_
  refine p_X6_tapeMany C rfl kw_4_3 dX6_yard_96 rfl ?_
  obtain ⟨s4, e5, hf⟩ := kf_b hf
  refine k_st e5 ?_
  refine k_aload_n C 0 dX6_yard_99 rfl rfl rfl ?_
  refine g_X6_good C rfl kw_4_9 dX6_yard_100 rfl ?_
  refine k_if_ne C 122 dX6_yard_103 rfl rfl (fun b6 => ?_) (fun b6 => ?_)
  · replace hf := kf_f hf b6
    refine k_iload_n C 1 dX6_yard_122 rfl rfl rfl ?_
    exact k_iret C K hf dX6_yard_123
  · replace hf := kf_t hf b6
    refine k_aload_n C 0 dX6_yard_106 rfl rfl rfl ?_
    refine k_iconst C (0 : Int32) dX6_yard_107 (by decide) rfl ?_
    refine k_aload_n C 0 dX6_yard_108 rfl rfl rfl ?_
    refine g_X6_before C rfl kw_4_15 dX6_yard_109 rfl ?_
    obtain ⟨s7, e8, hf⟩ := kf_b hf
    refine k_callV C [.int (0 : Int32), kr Z 70] (mX6_moveAll ⟨rfl, rfl⟩ e8) rfl (by decide) rfl kw_4_227 kw_4_229 kw_0_45 kw_1_7 kw_4_230 qX6_moveAll rfl ⟨by decide, by decide⟩ ⟨rfl, rfl⟩ (Nat.le_of_ble_eq_true rfl) dX6_yard_112 rfl ?_ rfl
    refine (show kV Z 3 115 [(0, kr Z 59), (1, .int x1)] [] s7 from ?_)
    refine k_iconst C (-1 : Int32) dX6_yard_115 (by decide) rfl ?_
    refine k_aload_n C 0 dX6_yard_116 rfl rfl rfl ?_
    refine g_X6_begins C rfl kw_4_5 dX6_yard_117 rfl ?_
    refine k_isub C dX6_yard_120 rfl ?_
    exact k_iret C K hf dX6_yard_121
set_option maxRecDepth 100000 in
theorem tX6_yard_90 {Z : kZ} (C : kC Z cX6_yard RX6 3 rmX6_yard) {res : Int32 × kM} (K : kEnd Z (some .int) (some (.int res.1)) res.2) : ∀ (x1 : Int32) (st : kM), fX6_yard_90 x1 st = some res → kV Z 3 90 [(0, kr Z 59), (1, .int x1)] [kr Z 59] st := by
  intro x1 st hf
  unfold fX6_yard_90 at hf
  refine k_iconst C (0 : Int32) dX6_yard_90 (by decide) rfl ?_
  exact tX6_yard_91 C K x1 (0 : Int32) st hf
set_option maxRecDepth 100000 in
theorem tX6_yard_23 {Z : kZ} (C : kC Z cX6_yard RX6 3 rmX6_yard) {res : Int32 × kM} (K : kEnd Z (some .int) (some (.int res.1)) res.2) : ∀ (n : Nat) (x1 : Int32) (x2 : Int32) (st : kM), fX6_yard_23 n x1 x2 st = some res → kV Z 3 23 [(0, kr Z 59), (1, .int x1), (2, .int x2)] [] st := by
  intro n
  induction n with
  | zero => intro x1 x2 st hf; cases hf
  | succ n ih =>
    intro x1 x2 st hf
    unfold fX6_yard_23 at hf
    refine k_iload_n C 2 dX6_yard_23 rfl rfl rfl ?_
    refine k_if_eq C 71 dX6_yard_24 rfl rfl (fun b1 => ?_) (fun b1 => ?_)
    · replace hf := kf_t hf b1
      refine k_aload_n C 0 dX6_yard_71 rfl rfl rfl ?_
      refine k_aload_n C 0 dX6_yard_72 rfl rfl rfl ?_
      refine g_X6_good C rfl kw_4_9 dX6_yard_73 rfl ?_
      refine k_if_eq C 90 dX6_yard_76 rfl rfl (fun b2 => ?_) (fun b2 => ?_)
      · replace hf := kf_t hf b2
        refine k_lv (lv' := [(0, kr Z 59), (1, .int x1)]) [0, 1] rfl ?_
        exact tX6_yard_90 C K x1 st hf
      · replace hf := kf_f hf b2
        refine k_aload_n C 0 dX6_yard_79 rfl rfl rfl ?_
        refine g_X6_sort C rfl kw_4_4 dX6_yard_80 rfl ?_
        refine k_if_ne C 90 dX6_yard_83 rfl rfl (fun b3 => ?_) (fun b3 => ?_)
        · replace hf := kf_f hf b3
          refine k_lv (lv' := [(0, kr Z 59), (1, .int x1)]) [0, 1] rfl ?_
          exact tX6_yard_90 C K x1 st hf
        · replace hf := kf_t hf b3
          refine k_iconst C (1 : Int32) dX6_yard_86 (by decide) rfl ?_
          refine k_goto C 91 dX6_yard_87 rfl ?_
          refine k_lv (lv' := [(0, kr Z 59), (1, .int x1)]) [0, 1] rfl ?_
          exact tX6_yard_91 C K x1 (1 : Int32) st hf
    · replace hf := kf_f hf b1
      refine k_aload_n C 0 dX6_yard_27 rfl rfl rfl ?_
      obtain ⟨s4, e5, hf⟩ := kf_b hf
      refine k_callV C [] (mX6_advance e5) rfl (by decide) rfl kw_5_52 kw_5_54 kw_0_48 kw_1_7 kw_5_55 qX6_advance rfl ⟨by decide, by decide⟩ ⟨rfl, rfl⟩ (Nat.le_of_ble_eq_true rfl) dX6_yard_28 rfl ?_ rfl
      refine (show kV Z 3 31 [(0, kr Z 59), (1, .int x1), (2, .int x2)] [] s4 from ?_)
      refine k_aload_n C 0 dX6_yard_31 rfl rfl rfl ?_
      obtain ⟨s6, e7, hf⟩ := kf_b hf
      refine k_callV C [] (mX6_wantItem e7) rfl (by decide) rfl kw_5_69 kw_5_71 kw_0_50 kw_1_7 kw_5_72 qX6_wantItem rfl ⟨by decide, by decide⟩ ⟨rfl, rfl⟩ (Nat.le_of_ble_eq_true rfl) dX6_yard_32 rfl ?_ rfl
      refine (show kV Z 3 35 [(0, kr Z 59), (1, .int x1), (2, .int x2)] [] s6 from ?_)
      refine k_iinc (lv' := [(1, .int (x1 + (1 : Int32))), (0, kr Z 59), (2, .int x2)]) C (x1 + (1 : Int32)) 1 dX6_yard_35 rfl rfl (by decide) rfl rfl ?_
      refine k_aload_n C 1 dX6_yard_38 rfl rfl rfl ?_
      refine g_X6_good C rfl kw_4_9 dX6_yard_39 rfl ?_
      refine k_if_eq C 66 dX6_yard_42 rfl rfl (fun b8 => ?_) (fun b8 => ?_)
      · replace hf := kf_t hf b8
        refine k_iconst C (0 : Int32) dX6_yard_66 (by decide) rfl ?_
        refine k_istore_n (lv' := [(2, .int (0 : Int32)), (1, .int (x1 + (1 : Int32))), (0, kr Z 59)]) C dX6_yard_67 rfl (by decide) rfl rfl ?_
        refine k_goto C 23 dX6_yard_68 rfl ?_
        refine k_lv (lv' := [(0, kr Z 59), (1, .int (x1 + (1 : Int32))), (2, .int (0 : Int32))]) [2, 1, 0] rfl ?_
        exact ih (x1 + (1 : Int32)) (0 : Int32) s6  hf
      · replace hf := kf_f hf b8
        refine k_aload_n C 1 dX6_yard_45 rfl rfl rfl ?_
        refine g_X6_sort C rfl kw_4_4 dX6_yard_46 rfl ?_
        refine k_iconst C (3 : Int32) dX6_yard_49 (by decide) rfl ?_
        refine k_icmp_ne C 66 dX6_yard_50 rfl rfl (fun b9 => ?_) (fun b9 => ?_)
        · replace hf := kf_f hf b9
          refine k_iconst C (0 : Int32) dX6_yard_66 (by decide) rfl ?_
          refine k_istore_n (lv' := [(2, .int (0 : Int32)), (1, .int (x1 + (1 : Int32))), (0, kr Z 59)]) C dX6_yard_67 rfl (by decide) rfl rfl ?_
          refine k_goto C 23 dX6_yard_68 rfl ?_
          refine k_lv (lv' := [(0, kr Z 59), (1, .int (x1 + (1 : Int32))), (2, .int (0 : Int32))]) [2, 1, 0] rfl ?_
          exact ih (x1 + (1 : Int32)) (0 : Int32) s6  hf
        · replace hf := kf_t hf b9
          refine k_aload_n C 1 dX6_yard_53 rfl rfl rfl ?_
          refine g_X6_value C rfl kw_4_8 dX6_yard_54 rfl ?_
          refine k_bipush C (59 : Int32) dX6_yard_57 (by decide) rfl ?_
          refine k_icmp_ne C 66 dX6_yard_59 rfl rfl (fun b10 => ?_) (fun b10 => ?_)
          · replace hf := kf_f hf b10
            refine k_iconst C (0 : Int32) dX6_yard_66 (by decide) rfl ?_
            refine k_istore_n (lv' := [(2, .int (0 : Int32)), (1, .int (x1 + (1 : Int32))), (0, kr Z 59)]) C dX6_yard_67 rfl (by decide) rfl rfl ?_
            refine k_goto C 23 dX6_yard_68 rfl ?_
            refine k_lv (lv' := [(0, kr Z 59), (1, .int (x1 + (1 : Int32))), (2, .int (0 : Int32))]) [2, 1, 0] rfl ?_
            exact ih (x1 + (1 : Int32)) (0 : Int32) s6  hf
          · replace hf := kf_t hf b10
            refine k_iconst C (1 : Int32) dX6_yard_62 (by decide) rfl ?_
            refine k_goto C 67 dX6_yard_63 rfl ?_
            refine k_istore_n (lv' := [(2, .int (1 : Int32)), (1, .int (x1 + (1 : Int32))), (0, kr Z 59)]) C dX6_yard_67 rfl (by decide) rfl rfl ?_
            refine k_goto C 23 dX6_yard_68 rfl ?_
            refine k_lv (lv' := [(0, kr Z 59), (1, .int (x1 + (1 : Int32))), (2, .int (1 : Int32))]) [2, 1, 0] rfl ?_
            exact ih (x1 + (1 : Int32)) (1 : Int32) s6  hf
set_option maxRecDepth 100000 in
theorem tX6_yard {Z : kZ} (C : kC Z cX6_yard RX6 3 rmX6_yard)   {st : kM} {res : Int32 × kM} (hf : fX6_yard st = some res) (K : kEnd Z (some .int) (some (.int res.1)) res.2) : kV Z 3 0 [(0, kr Z 59)] [] st := by
  unfold fX6_yard at hf
  refine k_aload_n C 0 dX6_yard_0 rfl rfl rfl ?_
  refine k_iconst C (1 : Int32) dX6_yard_1 (by decide) rfl ?_
  refine k_aload_n C 0 dX6_yard_2 rfl rfl rfl ?_
  refine g_X6_before C rfl kw_4_15 dX6_yard_3 rfl ?_
  obtain ⟨s1, e2, hf⟩ := kf_b hf
  refine k_callV C [.int (1 : Int32), kr Z 70] (mX6_moveAll ⟨rfl, rfl⟩ e2) rfl (by decide) rfl kw_4_227 kw_4_229 kw_0_45 kw_1_7 kw_4_230 qX6_moveAll rfl ⟨by decide, by decide⟩ ⟨rfl, rfl⟩ (Nat.le_of_ble_eq_true rfl) dX6_yard_6 rfl ?_ rfl
  refine (show kV Z 3 9 [(0, kr Z 59)] [] s1 from ?_)
  refine k_aload_n C 0 dX6_yard_9 rfl rfl rfl ?_
  refine k_iconst C (0 : Int32) dX6_yard_10 (by decide) rfl ?_
  refine p_X6_tokenEnds C rfl kw_4_6 dX6_yard_11 rfl ?_
  obtain ⟨s3, e4, hf⟩ := kf_b hf
  refine k_st e4 ?_
  refine k_aload_n C 0 dX6_yard_14 rfl rfl rfl ?_
  refine k_iconst C (1 : Int32) dX6_yard_15 (by decide) rfl ?_
  refine p_X6_good C (by decide) rfl kw_4_9 dX6_yard_16 rfl ?_
  obtain ⟨s5, e6, hf⟩ := kf_b hf
  refine k_st e6 ?_
  refine k_iconst C (0 : Int32) dX6_yard_19 (by decide) rfl ?_
  refine k_istore_n (lv' := [(1, .int (0 : Int32)), (0, kr Z 59)]) C dX6_yard_20 rfl (by decide) rfl rfl ?_
  refine k_iconst C (1 : Int32) dX6_yard_21 (by decide) rfl ?_
  refine k_istore_n (lv' := [(2, .int (1 : Int32)), (1, .int (0 : Int32)), (0, kr Z 59)]) C dX6_yard_22 rfl (by decide) rfl rfl ?_
  refine k_lv (lv' := [(0, kr Z 59), (1, .int (0 : Int32)), (2, .int (1 : Int32))]) [2, 1, 0] rfl ?_
  exact tX6_yard_23 C K _ (0 : Int32) (1 : Int32) s5 hf
theorem mX6_yard {G : kG}   {st : kM} {res : Int32 × kM} (hf : fX6_yard st = some res) : kCt G yX6_yard cX6_yard 3 (some .int) rmX6_yard [.ref (G.2.1 59)] st (some (.int res.1)) res.2 := kMet (by decide) (Nat.le_of_ble_eq_true rfl) ⟨rfl, rfl⟩ (fun X A Q C K => tX6_yard C  hf K)
theorem qX6_yard : yX6_yard.cls = RX6 ∧ yX6_yard.cls ≠ "java/lang/invoke/MethodHandle" ∧ yX6_yard.cls ≠ "java/lang/invoke/VarHandle" ∧ (parseMethodDescriptor yX6_yard.desc).map (fun d => d.parameters.length) = some 0 := ⟨rfl, by decide, by decide, by decide +kernel⟩
-- TalkKnotsModel.isSheet(I)Z
def rmX6_isSheet : Room := { frames := 1, cells := 0, slots := 0, locals := 22 }
def fX6_isSheet (v0 : Int32) (st : kM) : Option (Int32 × kM) :=
  (fX6_in v0 (0 : Int32) (3 : Int32) st).bind fun q1 => (if q1.1 = 0 ∨ q1.1 = 1 then some (q1.1, q1.2) else none)
set_option maxRecDepth 100000 in
theorem tX6_isSheet {Z : kZ} (C : kC Z cX6_isSheet RX6 1 rmX6_isSheet) {v0 : Int32}  {st : kM} {res : Int32 × kM} (hf : fX6_isSheet v0 st = some res) (K : kEnd Z (some .boolean) (some (.int res.1)) res.2) : kV Z 1 0 [(0, .int v0)] [] st := by
  unfold fX6_isSheet at hf
  refine k_iload_n C 0 dX6_isSheet_0 rfl rfl rfl ?_
  refine k_iconst C (0 : Int32) dX6_isSheet_1 (by decide) rfl ?_
  refine k_iconst C (3 : Int32) dX6_isSheet_2 (by decide) rfl ?_
  obtain ⟨q1, e2, hf⟩ := kf_b hf
  refine k_callS C [.int v0, .int (0 : Int32), .int (3 : Int32)] (mX6_in e2) kw_4_60 kw_4_61 kw_1_7 kw_4_62 qX6_in rfl ⟨by decide, by decide⟩ ⟨rfl, rfl⟩ (Nat.le_of_ble_eq_true rfl) dX6_isSheet_3 rfl ?_ rfl
  refine (show kV Z 1 6 [(0, .int v0)] [.int q1.1] q1.2 from ?_)
  obtain ⟨g0, hf⟩ := kf_y hf
  exact k_zret C K hf (kb_n g0) dX6_isSheet_6
theorem mX6_isSheet {G : kG} {v0 : Int32}  {st : kM} {res : Int32 × kM} (hf : fX6_isSheet v0 st = some res) : kCt G yX6_isSheet cX6_isSheet 1 (some .boolean) rmX6_isSheet [.int v0] st (some (.int res.1)) res.2 := kMet (by decide) (Nat.le_of_ble_eq_true rfl) ⟨rfl, rfl⟩ (fun X A Q C K => tX6_isSheet C  hf K)
theorem qX6_isSheet : yX6_isSheet.cls ≠ "java/lang/invoke/MethodHandle" ∧ yX6_isSheet.cls ≠ "java/lang/invoke/VarHandle" ∧ (parseMethodDescriptor yX6_isSheet.desc).map (fun d => d.parameters.length) = some 1 := ⟨by decide, by decide, by decide +kernel⟩
-- TalkKnotsModel.narrow(IJ)J
def rmX6_narrow : Room := { frames := 0, cells := 0, slots := 0, locals := 0 }
def fX6_narrow (v0 : Int32) (v1 : Int64) (st : kM) : Option (Int64 × kM) :=
  if v0 = (8 : Int32) then (some (((v1 <<< ((56 : Int32).toInt64 &&& 63)) >>> ((56 : Int32).toInt64 &&& 63)), st)) else (if v0 = (16 : Int32) then (some (((v1 <<< ((48 : Int32).toInt64 &&& 63)) >>> ((48 : Int32).toInt64 &&& 63)), st)) else (some (v1, st)))
set_option maxRecDepth 100000 in
theorem tX6_narrow {Z : kZ} (C : kC Z cX6_narrow RX6 3 rmX6_narrow) {v0 : Int32} {v1 : Int64}  {st : kM} {res : Int64 × kM} (hf : fX6_narrow v0 v1 st = some res) (K : kEnd Z (some .long) (some (.long res.1)) res.2) : kV Z 3 0 [(0, .int v0), (1, .long v1)] [] st := by
  unfold fX6_narrow at hf
  refine k_iload_n C 0 dX6_narrow_0 rfl rfl rfl ?_
  refine k_bipush C (8 : Int32) dX6_narrow_1 (by decide) rfl ?_
  refine k_icmp_ne C 16 dX6_narrow_3 rfl rfl (fun b1 => ?_) (fun b1 => ?_)
  · replace hf := kf_f hf b1
    refine k_iload_n C 0 dX6_narrow_16 rfl rfl rfl ?_
    refine k_bipush C (16 : Int32) dX6_narrow_17 (by decide) rfl ?_
    refine k_icmp_ne C 32 dX6_narrow_19 rfl rfl (fun b2 => ?_) (fun b2 => ?_)
    · replace hf := kf_f hf b2
      refine k_lload_n C 1 dX6_narrow_32 rfl rfl rfl ?_
      exact k_lret C K hf dX6_narrow_33
    · replace hf := kf_t hf b2
      refine k_lload_n C 1 dX6_narrow_22 rfl rfl rfl ?_
      refine k_bipush C (48 : Int32) dX6_narrow_23 (by decide) rfl ?_
      refine k_lshl C dX6_narrow_25 rfl ?_
      refine k_bipush C (48 : Int32) dX6_narrow_26 (by decide) rfl ?_
      refine k_lshr C dX6_narrow_28 rfl ?_
      refine k_goto C 33 dX6_narrow_29 rfl ?_
      exact k_lret C K hf dX6_narrow_33
  · replace hf := kf_t hf b1
    refine k_lload_n C 1 dX6_narrow_6 rfl rfl rfl ?_
    refine k_bipush C (56 : Int32) dX6_narrow_7 (by decide) rfl ?_
    refine k_lshl C dX6_narrow_9 rfl ?_
    refine k_bipush C (56 : Int32) dX6_narrow_10 (by decide) rfl ?_
    refine k_lshr C dX6_narrow_12 rfl ?_
    refine k_goto C 33 dX6_narrow_13 rfl ?_
    exact k_lret C K hf dX6_narrow_33
theorem mX6_narrow {G : kG} {v0 : Int32} {v1 : Int64}  {st : kM} {res : Int64 × kM} (hf : fX6_narrow v0 v1 st = some res) : kCt G yX6_narrow cX6_narrow 3 (some .long) rmX6_narrow [.int v0, .long v1] st (some (.long res.1)) res.2 := kMet (by decide) (Nat.le_of_ble_eq_true rfl) ⟨rfl, rfl⟩ (fun X A Q C K => tX6_narrow C  hf K)
theorem qX6_narrow : yX6_narrow.cls ≠ "java/lang/invoke/MethodHandle" ∧ yX6_narrow.cls ≠ "java/lang/invoke/VarHandle" ∧ (parseMethodDescriptor yX6_narrow.desc).map (fun d => d.parameters.length) = some 2 := ⟨by decide, by decide, by decide +kernel⟩
-- TalkKnotsModel.sheet(III)I
def rmX6_sheet : Room := { frames := 2, cells := 0, slots := 0, locals := 42 }
def fX6_sheet_86 : Nat → Int32 → Int32 → kM → Option (Int32 × kM)
  | 0, _, _, _ => none
  | n + 1, x1, x4, st =>
    if (40 : Int32) ≤ x4 then (if x1 < 0 ∨ 4 ≤ x1.toNatClampNeg then none else (some ((st.1 66 x1.toNatClampNeg), st))) else (if (((40 : Int32) * x1) + x4) < 0 ∨ 160 ≤ (((40 : Int32) * x1) + x4).toNatClampNeg then none else ((some (kwl st 67 ((((40 : Int32) * x1) + x4).toNatClampNeg) (0 : Int64))).bind fun s4 => (fX6_sheet_86 n x1 (x4 + (1 : Int32)) s4)))
def fX6_sheet_36 (x1 : Int32) (x2 : Int32) (x3 : Int32) (st : kM) : Option (Int32 × kM) :=
  if 0 ≤ x3 then (if x3 ≤ (40 : Int32) then (if x1 < 0 ∨ 4 ≤ x1.toNatClampNeg then none else ((some (kwr st 65 x1.toNatClampNeg x2)).bind fun s4 => (if x2 = 0 then ((some (kwr s4 66 x1.toNatClampNeg (0 : Int32))).bind fun s9 => (fX6_sheet_86 kfu x1 (0 : Int32) s9)) else ((some (kwr s4 66 x1.toNatClampNeg x3)).bind fun s7 => (fX6_sheet_86 kfu x1 (0 : Int32) s7))))) else ((fX6_finds (-1000000001 : Int32) st).bind fun q11 => (some (q11.1, q11.2)))) else ((fX6_finds (-1000000007 : Int32) st).bind fun q13 => (some (q13.1, q13.2)))
def fX6_sheet (v1 : Int32) (v2 : Int32) (v3 : Int32) (st : kM) : Option (Int32 × kM) :=
  (fX6_isSheet v1 st).bind fun q1 => (if q1.1 = 0 then ((fX6_finds (-1000000001 : Int32) q1.2).bind fun q4 => (some (q4.1, q4.2))) else (if v2 = 0 then (fX6_sheet_36 v1 v2 v3 q1.2) else (if v2 = (8 : Int32) then (fX6_sheet_36 v1 v2 v3 q1.2) else (if v2 = (16 : Int32) then (fX6_sheet_36 v1 v2 v3 q1.2) else (if v2 = (64 : Int32) then (fX6_sheet_36 v1 v2 v3 q1.2) else ((fX6_finds (-1000000001 : Int32) q1.2).bind fun q10 => (some (q10.1, q10.2))))))))
set_option maxRecDepth 100000 in
theorem tX6_sheet_86 {Z : kZ} (C : kC Z cX6_sheet RX6 5 rmX6_sheet) {res : Int32 × kM} (K : kEnd Z (some .int) (some (.int res.1)) res.2) : ∀ (n : Nat) (x1 : Int32) (x4 : Int32) (st : kM), fX6_sheet_86 n x1 x4 st = some res → kV Z 5 86 [(0, kr Z 59), (1, .int x1), (4, .int x4)] [] st := by
  intro n
  induction n with
  | zero => intro x1 x4 st hf; cases hf
  | succ n ih =>
    intro x1 x4 st hf
    unfold fX6_sheet_86 at hf
    refine k_iload C 2 dX6_sheet_86 rfl rfl ?_
    refine k_bipush C (40 : Int32) dX6_sheet_88 (by decide) rfl ?_
    refine k_icmp_ge C 112 dX6_sheet_90 rfl rfl (fun b1 => ?_) (fun b1 => ?_)
    · replace hf := kf_t hf b1
      refine k_aload_n C 0 dX6_sheet_112 rfl rfl rfl ?_
      refine g_X6_sizeOf C rfl kw_4_11 dX6_sheet_113 rfl ?_
      refine k_iload_n C 1 dX6_sheet_116 rfl rfl rfl ?_
      obtain ⟨g2, hf⟩ := kf_g hf
      refine k_iald (j := x1.toNatClampNeg) C ⟨rfl, rfl⟩ g2 rfl dX6_sheet_117 rfl ?_
      exact k_iret C K hf dX6_sheet_118
    · replace hf := kf_f hf b1
      refine k_aload_n C 0 dX6_sheet_93 rfl rfl rfl ?_
      refine g_X6_sheets C rfl kw_4_12 dX6_sheet_94 rfl ?_
      refine k_bipush C (40 : Int32) dX6_sheet_97 (by decide) rfl ?_
      refine k_iload_n C 1 dX6_sheet_99 rfl rfl rfl ?_
      refine k_imul C dX6_sheet_100 rfl ?_
      refine k_iload C 2 dX6_sheet_101 rfl rfl ?_
      refine k_iadd C dX6_sheet_103 rfl ?_
      refine k_lconst C (0 : Int64) dX6_sheet_104 (by decide) rfl ?_
      obtain ⟨g3, hf⟩ := kf_g hf
      refine k_last (j := (((40 : Int32) * x1) + x4).toNatClampNeg) C ⟨rfl, rfl⟩ g3 rfl dX6_sheet_105 rfl ?_
      obtain ⟨s4, e5, hf⟩ := kf_b hf
      refine k_st e5 ?_
      refine k_iinc (lv' := [(4, .int (x4 + (1 : Int32))), (0, kr Z 59), (1, .int x1)]) C (x4 + (1 : Int32)) 2 dX6_sheet_106 rfl rfl (by decide) rfl rfl ?_
      refine k_goto C 86 dX6_sheet_109 rfl ?_
      refine k_lv (lv' := [(0, kr Z 59), (1, .int x1), (4, .int (x4 + (1 : Int32)))]) [1, 2, 0] rfl ?_
      exact ih x1 (x4 + (1 : Int32)) s4  hf
set_option maxRecDepth 100000 in
theorem tX6_sheet_36 {Z : kZ} (C : kC Z cX6_sheet RX6 5 rmX6_sheet) {res : Int32 × kM} (K : kEnd Z (some .int) (some (.int res.1)) res.2) : ∀ (x1 : Int32) (x2 : Int32) (x3 : Int32) (st : kM), fX6_sheet_36 x1 x2 x3 st = some res → kV Z 5 36 [(0, kr Z 59), (1, .int x1), (2, .int x2), (3, .int x3)] [] st := by
  intro x1 x2 x3 st hf
  unfold fX6_sheet_36 at hf
  refine k_iload_n C 3 dX6_sheet_36 rfl rfl rfl ?_
  refine k_if_ge C 48 dX6_sheet_37 rfl rfl (fun b1 => ?_) (fun b1 => ?_)
  · replace hf := kf_t hf b1
    refine k_iload_n C 3 dX6_sheet_48 rfl rfl rfl ?_
    refine k_bipush C (40 : Int32) dX6_sheet_49 (by decide) rfl ?_
    refine k_icmp_le C 61 dX6_sheet_51 rfl rfl (fun b2 => ?_) (fun b2 => ?_)
    · replace hf := kf_t hf b2
      refine k_aload_n C 0 dX6_sheet_61 rfl rfl rfl ?_
      refine g_X6_bitsOf C rfl kw_4_10 dX6_sheet_62 rfl ?_
      refine k_iload_n C 1 dX6_sheet_65 rfl rfl rfl ?_
      refine k_iload_n C 2 dX6_sheet_66 rfl rfl rfl ?_
      obtain ⟨g3, hf⟩ := kf_g hf
      refine k_iast (j := x1.toNatClampNeg) C ⟨rfl, rfl⟩ g3 rfl dX6_sheet_67 rfl ?_
      obtain ⟨s4, e5, hf⟩ := kf_b hf
      refine k_st e5 ?_
      refine k_aload_n C 0 dX6_sheet_68 rfl rfl rfl ?_
      refine g_X6_sizeOf C rfl kw_4_11 dX6_sheet_69 rfl ?_
      refine k_iload_n C 1 dX6_sheet_72 rfl rfl rfl ?_
      refine k_iload_n C 2 dX6_sheet_73 rfl rfl rfl ?_
      refine k_if_ne C 81 dX6_sheet_74 rfl rfl (fun b6 => ?_) (fun b6 => ?_)
      · replace hf := kf_f hf b6
        refine k_iload_n C 3 dX6_sheet_81 rfl rfl rfl ?_
        refine k_iast (j := x1.toNatClampNeg) C ⟨rfl, rfl⟩ g3 rfl dX6_sheet_82 rfl ?_
        obtain ⟨s7, e8, hf⟩ := kf_b hf
        refine k_st e8 ?_
        refine k_iconst C (0 : Int32) dX6_sheet_83 (by decide) rfl ?_
        refine k_istore (lv' := [(4, .int (0 : Int32)), (0, kr Z 59), (1, .int x1), (2, .int x2), (3, .int x3)]) C dX6_sheet_84 (by decide) rfl rfl ?_
        refine k_lv (lv' := [(0, kr Z 59), (1, .int x1), (4, .int (0 : Int32))]) [1, 2, 0] rfl ?_
        exact tX6_sheet_86 C K _ x1 (0 : Int32) s7 hf
      · replace hf := kf_t hf b6
        refine k_iconst C (0 : Int32) dX6_sheet_77 (by decide) rfl ?_
        refine k_goto C 82 dX6_sheet_78 rfl ?_
        refine k_iast (j := x1.toNatClampNeg) C ⟨rfl, rfl⟩ g3 rfl dX6_sheet_82 rfl ?_
        obtain ⟨s9, e10, hf⟩ := kf_b hf
        refine k_st e10 ?_
        refine k_iconst C (0 : Int32) dX6_sheet_83 (by decide) rfl ?_
        refine k_istore (lv' := [(4, .int (0 : Int32)), (0, kr Z 59), (1, .int x1), (2, .int x2), (3, .int x3)]) C dX6_sheet_84 (by decide) rfl rfl ?_
        refine k_lv (lv' := [(0, kr Z 59), (1, .int x1), (4, .int (0 : Int32))]) [1, 2, 0] rfl ?_
        exact tX6_sheet_86 C K _ x1 (0 : Int32) s9 hf
    · replace hf := kf_f hf b2
      refine k_aload_n C 0 dX6_sheet_54 rfl rfl rfl ?_
      refine k_ldc C (-1000000001 : Int32) kw_4_67 dX6_sheet_55 rfl ?_
      obtain ⟨q11, e12, hf⟩ := kf_b hf
      refine k_callV C [.int (-1000000001 : Int32)] (mX6_finds e12) rfl (by decide) rfl kw_4_68 kw_4_70 kw_0_24 kw_1_7 kw_4_71 qX6_finds rfl ⟨by decide, by decide⟩ ⟨rfl, rfl⟩ (Nat.le_of_ble_eq_true rfl) dX6_sheet_57 rfl ?_ rfl
      refine (show kV Z 5 60 [(0, kr Z 59), (1, .int x1), (2, .int x2), (3, .int x3)] [.int q11.1] q11.2 from ?_)
      exact k_iret C K hf dX6_sheet_60
  · replace hf := kf_f hf b1
    refine k_aload_n C 0 dX6_sheet_40 rfl rfl rfl ?_
    refine k_ldcw C (-1000000007 : Int32) kw_5_124 dX6_sheet_41 rfl ?_
    obtain ⟨q13, e14, hf⟩ := kf_b hf
    refine k_callV C [.int (-1000000007 : Int32)] (mX6_finds e14) rfl (by decide) rfl kw_4_68 kw_4_70 kw_0_24 kw_1_7 kw_4_71 qX6_finds rfl ⟨by decide, by decide⟩ ⟨rfl, rfl⟩ (Nat.le_of_ble_eq_true rfl) dX6_sheet_44 rfl ?_ rfl
    refine (show kV Z 5 47 [(0, kr Z 59), (1, .int x1), (2, .int x2), (3, .int x3)] [.int q13.1] q13.2 from ?_)
    exact k_iret C K hf dX6_sheet_47
set_option maxRecDepth 100000 in
theorem tX6_sheet {Z : kZ} (C : kC Z cX6_sheet RX6 5 rmX6_sheet) {v1 : Int32} {v2 : Int32} {v3 : Int32}  {st : kM} {res : Int32 × kM} (hf : fX6_sheet v1 v2 v3 st = some res) (K : kEnd Z (some .int) (some (.int res.1)) res.2) : kV Z 5 0 [(0, kr Z 59), (1, .int v1), (2, .int v2), (3, .int v3)] [] st := by
  unfold fX6_sheet at hf
  refine k_iload_n C 1 dX6_sheet_0 rfl rfl rfl ?_
  obtain ⟨q1, e2, hf⟩ := kf_b hf
  refine k_callS C [.int v1] (mX6_isSheet e2) kw_5_121 kw_5_122 kw_1_7 kw_5_123 qX6_isSheet rfl ⟨by decide, by decide⟩ ⟨rfl, rfl⟩ (Nat.le_of_ble_eq_true rfl) dX6_sheet_1 rfl ?_ rfl
  refine (show kV Z 5 4 [(0, kr Z 59), (1, .int v1), (2, .int v2), (3, .int v3)] [.int q1.1] q1.2 from ?_)
  refine k_if_eq C 29 dX6_sheet_4 rfl rfl (fun b3 => ?_) (fun b3 => ?_)
  · replace hf := kf_t hf b3
    refine k_aload_n C 0 dX6_sheet_29 rfl rfl rfl ?_
    refine k_ldc C (-1000000001 : Int32) kw_4_67 dX6_sheet_30 rfl ?_
    obtain ⟨q4, e5, hf⟩ := kf_b hf
    refine k_callV C [.int (-1000000001 : Int32)] (mX6_finds e5) rfl (by decide) rfl kw_4_68 kw_4_70 kw_0_24 kw_1_7 kw_4_71 qX6_finds rfl ⟨by decide, by decide⟩ ⟨rfl, rfl⟩ (Nat.le_of_ble_eq_true rfl) dX6_sheet_32 rfl ?_ rfl
    refine (show kV Z 5 35 [(0, kr Z 59), (1, .int v1), (2, .int v2), (3, .int v3)] [.int q4.1] q4.2 from ?_)
    exact k_iret C K hf dX6_sheet_35
  · replace hf := kf_f hf b3
    refine k_iload_n C 2 dX6_sheet_7 rfl rfl rfl ?_
    refine k_if_eq C 36 dX6_sheet_8 rfl rfl (fun b6 => ?_) (fun b6 => ?_)
    · replace hf := kf_t hf b6
      exact tX6_sheet_36 C K v1 v2 v3 q1.2 hf
    · replace hf := kf_f hf b6
      refine k_iload_n C 2 dX6_sheet_11 rfl rfl rfl ?_
      refine k_bipush C (8 : Int32) dX6_sheet_12 (by decide) rfl ?_
      refine k_icmp_eq C 36 dX6_sheet_14 rfl rfl (fun b7 => ?_) (fun b7 => ?_)
      · replace hf := kf_t hf b7
        exact tX6_sheet_36 C K v1 v2 v3 q1.2 hf
      · replace hf := kf_f hf b7
        refine k_iload_n C 2 dX6_sheet_17 rfl rfl rfl ?_
        refine k_bipush C (16 : Int32) dX6_sheet_18 (by decide) rfl ?_
        refine k_icmp_eq C 36 dX6_sheet_20 rfl rfl (fun b8 => ?_) (fun b8 => ?_)
        · replace hf := kf_t hf b8
          exact tX6_sheet_36 C K v1 v2 v3 q1.2 hf
        · replace hf := kf_f hf b8
          refine k_iload_n C 2 dX6_sheet_23 rfl rfl rfl ?_
          refine k_bipush C (64 : Int32) dX6_sheet_24 (by decide) rfl ?_
          refine k_icmp_eq C 36 dX6_sheet_26 rfl rfl (fun b9 => ?_) (fun b9 => ?_)
          · replace hf := kf_t hf b9
            exact tX6_sheet_36 C K v1 v2 v3 q1.2 hf
          · replace hf := kf_f hf b9
            refine k_aload_n C 0 dX6_sheet_29 rfl rfl rfl ?_
            refine k_ldc C (-1000000001 : Int32) kw_4_67 dX6_sheet_30 rfl ?_
            obtain ⟨q10, e11, hf⟩ := kf_b hf
            refine k_callV C [.int (-1000000001 : Int32)] (mX6_finds e11) rfl (by decide) rfl kw_4_68 kw_4_70 kw_0_24 kw_1_7 kw_4_71 qX6_finds rfl ⟨by decide, by decide⟩ ⟨rfl, rfl⟩ (Nat.le_of_ble_eq_true rfl) dX6_sheet_32 rfl ?_ rfl
            refine (show kV Z 5 35 [(0, kr Z 59), (1, .int v1), (2, .int v2), (3, .int v3)] [.int q10.1] q10.2 from ?_)
            exact k_iret C K hf dX6_sheet_35
theorem mX6_sheet {G : kG} {v1 : Int32} {v2 : Int32} {v3 : Int32}  {st : kM} {res : Int32 × kM} (hf : fX6_sheet v1 v2 v3 st = some res) : kCt G yX6_sheet cX6_sheet 5 (some .int) rmX6_sheet [.ref (G.2.1 59), .int v1, .int v2, .int v3] st (some (.int res.1)) res.2 := kMet (by decide) (Nat.le_of_ble_eq_true rfl) ⟨rfl, rfl⟩ (fun X A Q C K => tX6_sheet C  hf K)
theorem qX6_sheet : yX6_sheet.cls = RX6 ∧ yX6_sheet.cls ≠ "java/lang/invoke/MethodHandle" ∧ yX6_sheet.cls ≠ "java/lang/invoke/VarHandle" ∧ (parseMethodDescriptor yX6_sheet.desc).map (fun d => d.parameters.length) = some 3 := ⟨rfl, by decide, by decide, by decide +kernel⟩
-- TalkKnotsModel.write(IIJ)J
def rmX6_write : Room := { frames := 2, cells := 0, slots := 0, locals := 42 }
def fX6_write (v1 : Int32) (v2 : Int32) (v3 : Int64) (st : kM) : Option (Int64 × kM) :=
  (fX6_isSheet v1 st).bind fun q1 => (if q1.1 = 0 then ((fX6_finds (-1000000001 : Int32) q1.2).bind fun q20 => (some ((q20.1.toInt64), q20.2))) else (if v1 < 0 ∨ 4 ≤ v1.toNatClampNeg then none else (if (q1.2.1 65 v1.toNatClampNeg) = 0 then ((fX6_finds (-1000000006 : Int32) q1.2).bind fun q18 => (some ((q18.1.toInt64), q18.2))) else ((fX6_in v2 (0 : Int32) ((q1.2.1 66 v1.toNatClampNeg) - (1 : Int32)) q1.2).bind fun q6 => (if q6.1 = 0 then ((fX6_finds (-1000000001 : Int32) q6.2).bind fun q16 => (some ((q16.1.toInt64), q16.2))) else (if (((40 : Int32) * v1) + v2) < 0 ∨ 160 ≤ (((40 : Int32) * v1) + v2).toNatClampNeg then none else ((some (q6.2.2 67 ((((40 : Int32) * v1) + v2).toNatClampNeg))).bind fun z10 => ((fX6_narrow (q6.2.1 65 v1.toNatClampNeg) v3 q6.2).bind fun q12 => ((some (kwl q12.2 67 ((((40 : Int32) * v1) + v2).toNatClampNeg) q12.1)).bind fun s14 => (some (z10, s14)))))))))))
set_option maxRecDepth 100000 in
theorem tX6_write {Z : kZ} (C : kC Z cX6_write RX6 7 rmX6_write) {v1 : Int32} {v2 : Int32} {v3 : Int64}  {st : kM} {res : Int64 × kM} (hf : fX6_write v1 v2 v3 st = some res) (K : kEnd Z (some .long) (some (.long res.1)) res.2) : kV Z 7 0 [(0, kr Z 59), (1, .int v1), (2, .int v2), (3, .long v3)] [] st := by
  unfold fX6_write at hf
  refine k_iload_n C 1 dX6_write_0 rfl rfl rfl ?_
  obtain ⟨q1, e2, hf⟩ := kf_b hf
  refine k_callS C [.int v1] (mX6_isSheet e2) kw_5_121 kw_5_122 kw_1_7 kw_5_123 qX6_isSheet rfl ⟨by decide, by decide⟩ ⟨rfl, rfl⟩ (Nat.le_of_ble_eq_true rfl) dX6_write_1 rfl ?_ rfl
  refine (show kV Z 7 4 [(0, kr Z 59), (1, .int v1), (2, .int v2), (3, .long v3)] [.int q1.1] q1.2 from ?_)
  refine k_if_ne C 15 dX6_write_4 rfl rfl (fun b3 => ?_) (fun b3 => ?_)
  · replace hf := kf_f hf b3
    refine k_aload_n C 0 dX6_write_15 rfl rfl rfl ?_
    refine g_X6_bitsOf C rfl kw_4_10 dX6_write_16 rfl ?_
    refine k_iload_n C 1 dX6_write_19 rfl rfl rfl ?_
    obtain ⟨g4, hf⟩ := kf_g hf
    refine k_iald (j := v1.toNatClampNeg) C ⟨rfl, rfl⟩ g4 rfl dX6_write_20 rfl ?_
    refine k_if_ne C 33 dX6_write_21 rfl rfl (fun b5 => ?_) (fun b5 => ?_)
    · replace hf := kf_f hf b5
      refine k_iload_n C 2 dX6_write_33 rfl rfl rfl ?_
      refine k_iconst C (0 : Int32) dX6_write_34 (by decide) rfl ?_
      refine k_aload_n C 0 dX6_write_35 rfl rfl rfl ?_
      refine g_X6_sizeOf C rfl kw_4_11 dX6_write_36 rfl ?_
      refine k_iload_n C 1 dX6_write_39 rfl rfl rfl ?_
      refine k_iald (j := v1.toNatClampNeg) C ⟨rfl, rfl⟩ g4 rfl dX6_write_40 rfl ?_
      refine k_iconst C (1 : Int32) dX6_write_41 (by decide) rfl ?_
      refine k_isub C dX6_write_42 rfl ?_
      obtain ⟨q6, e7, hf⟩ := kf_b hf
      refine k_callS C [.int v2, .int (0 : Int32), .int ((q1.2.1 66 v1.toNatClampNeg) - (1 : Int32))] (mX6_in e7) kw_4_60 kw_4_61 kw_1_7 kw_4_62 qX6_in rfl ⟨by decide, by decide⟩ ⟨rfl, rfl⟩ (Nat.le_of_ble_eq_true rfl) dX6_write_43 rfl ?_ rfl
      refine (show kV Z 7 46 [(0, kr Z 59), (1, .int v1), (2, .int v2), (3, .long v3)] [.int q6.1] q6.2 from ?_)
      refine k_if_ne C 57 dX6_write_46 rfl rfl (fun b8 => ?_) (fun b8 => ?_)
      · replace hf := kf_f hf b8
        refine k_aload_n C 0 dX6_write_57 rfl rfl rfl ?_
        refine g_X6_sheets C rfl kw_4_12 dX6_write_58 rfl ?_
        refine k_bipush C (40 : Int32) dX6_write_61 (by decide) rfl ?_
        refine k_iload_n C 1 dX6_write_63 rfl rfl rfl ?_
        refine k_imul C dX6_write_64 rfl ?_
        refine k_iload_n C 2 dX6_write_65 rfl rfl rfl ?_
        refine k_iadd C dX6_write_66 rfl ?_
        obtain ⟨g9, hf⟩ := kf_g hf
        refine k_lald (j := (((40 : Int32) * v1) + v2).toNatClampNeg) C ⟨rfl, rfl⟩ g9 rfl dX6_write_67 rfl ?_
        obtain ⟨z10, e11, hf⟩ := kf_b hf
        refine k_topl e11 ?_
        refine k_lstore (lv' := [(5, .long z10), (0, kr Z 59), (1, .int v1), (2, .int v2), (3, .long v3)]) C dX6_write_68 (by decide) rfl rfl ?_
        refine k_aload_n C 1 dX6_write_70 rfl rfl rfl ?_
        refine g_X6_sheets C rfl kw_4_12 dX6_write_71 rfl ?_
        refine k_bipush C (40 : Int32) dX6_write_74 (by decide) rfl ?_
        refine k_iload_n C 2 dX6_write_76 rfl rfl rfl ?_
        refine k_imul C dX6_write_77 rfl ?_
        refine k_iload_n C 3 dX6_write_78 rfl rfl rfl ?_
        refine k_iadd C dX6_write_79 rfl ?_
        refine k_aload_n C 1 dX6_write_80 rfl rfl rfl ?_
        refine g_X6_bitsOf C rfl kw_4_10 dX6_write_81 rfl ?_
        refine k_iload_n C 2 dX6_write_84 rfl rfl rfl ?_
        refine k_iald (j := v1.toNatClampNeg) C ⟨rfl, rfl⟩ g4 rfl dX6_write_85 rfl ?_
        refine k_lload_n C 4 dX6_write_86 rfl rfl rfl ?_
        obtain ⟨q12, e13, hf⟩ := kf_b hf
        refine k_callS C [.int (q6.2.1 65 v1.toNatClampNeg), .long v3] (mX6_narrow e13) kw_5_130 kw_5_131 kw_1_7 kw_5_132 qX6_narrow rfl ⟨by decide, by decide⟩ ⟨rfl, rfl⟩ (Nat.le_of_ble_eq_true rfl) dX6_write_87 rfl ?_ rfl
        refine (show kV Z 7 90 [(5, .long z10), (0, kr Z 59), (1, .int v1), (2, .int v2), (3, .long v3)] [.long q12.1, .int (((40 : Int32) * v1) + v2), kr Z 67] q12.2 from ?_)
        refine k_last (j := (((40 : Int32) * v1) + v2).toNatClampNeg) C ⟨rfl, rfl⟩ g9 rfl dX6_write_90 rfl ?_
        obtain ⟨s14, e15, hf⟩ := kf_b hf
        refine k_st e15 ?_
        refine k_lload C 0 dX6_write_91 rfl rfl ?_
        exact k_lret C K hf dX6_write_93
      · replace hf := kf_t hf b8
        refine k_aload_n C 0 dX6_write_49 rfl rfl rfl ?_
        refine k_ldc C (-1000000001 : Int32) kw_4_67 dX6_write_50 rfl ?_
        obtain ⟨q16, e17, hf⟩ := kf_b hf
        refine k_callV C [.int (-1000000001 : Int32)] (mX6_finds e17) rfl (by decide) rfl kw_4_68 kw_4_70 kw_0_24 kw_1_7 kw_4_71 qX6_finds rfl ⟨by decide, by decide⟩ ⟨rfl, rfl⟩ (Nat.le_of_ble_eq_true rfl) dX6_write_52 rfl ?_ rfl
        refine (show kV Z 7 55 [(0, kr Z 59), (1, .int v1), (2, .int v2), (3, .long v3)] [.int q16.1] q16.2 from ?_)
        refine k_i2l C dX6_write_55 rfl ?_
        exact k_lret C K hf dX6_write_56
    · replace hf := kf_t hf b5
      refine k_aload_n C 0 dX6_write_24 rfl rfl rfl ?_
      refine k_ldcw C (-1000000006 : Int32) kw_5_129 dX6_write_25 rfl ?_
      obtain ⟨q18, e19, hf⟩ := kf_b hf
      refine k_callV C [.int (-1000000006 : Int32)] (mX6_finds e19) rfl (by decide) rfl kw_4_68 kw_4_70 kw_0_24 kw_1_7 kw_4_71 qX6_finds rfl ⟨by decide, by decide⟩ ⟨rfl, rfl⟩ (Nat.le_of_ble_eq_true rfl) dX6_write_28 rfl ?_ rfl
      refine (show kV Z 7 31 [(0, kr Z 59), (1, .int v1), (2, .int v2), (3, .long v3)] [.int q18.1] q18.2 from ?_)
      refine k_i2l C dX6_write_31 rfl ?_
      exact k_lret C K hf dX6_write_32
  · replace hf := kf_t hf b3
    refine k_aload_n C 0 dX6_write_7 rfl rfl rfl ?_
    refine k_ldc C (-1000000001 : Int32) kw_4_67 dX6_write_8 rfl ?_
    obtain ⟨q20, e21, hf⟩ := kf_b hf
    refine k_callV C [.int (-1000000001 : Int32)] (mX6_finds e21) rfl (by decide) rfl kw_4_68 kw_4_70 kw_0_24 kw_1_7 kw_4_71 qX6_finds rfl ⟨by decide, by decide⟩ ⟨rfl, rfl⟩ (Nat.le_of_ble_eq_true rfl) dX6_write_10 rfl ?_ rfl
    refine (show kV Z 7 13 [(0, kr Z 59), (1, .int v1), (2, .int v2), (3, .long v3)] [.int q20.1] q20.2 from ?_)
    refine k_i2l C dX6_write_13 rfl ?_
    exact k_lret C K hf dX6_write_14
theorem mX6_write {G : kG} {v1 : Int32} {v2 : Int32} {v3 : Int64}  {st : kM} {res : Int64 × kM} (hf : fX6_write v1 v2 v3 st = some res) : kCt G yX6_write cX6_write 7 (some .long) rmX6_write [.ref (G.2.1 59), .int v1, .int v2, .long v3] st (some (.long res.1)) res.2 := kMet (by decide) (Nat.le_of_ble_eq_true rfl) ⟨rfl, rfl⟩ (fun X A Q C K => tX6_write C  hf K)
theorem qX6_write : yX6_write.cls = RX6 ∧ yX6_write.cls ≠ "java/lang/invoke/MethodHandle" ∧ yX6_write.cls ≠ "java/lang/invoke/VarHandle" ∧ (parseMethodDescriptor yX6_write.desc).map (fun d => d.parameters.length) = some 3 := ⟨rfl, by decide, by decide, by decide +kernel⟩
-- TalkKnotsModel.isPart(III)Z
def rmX6_isPart_ : Room := { frames := 0, cells := 0, slots := 0, locals := 0 }
def fX6_isPart_ (v1 : Int32) (v2 : Int32) (v3 : Int32) (st : kM) : Option (Int32 × kM) :=
  if v2 < 0 then (some ((0 : Int32), st)) else (if v3 < 0 then (some ((0 : Int32), st)) else (if v1 < 0 ∨ 4 ≤ v1.toNatClampNeg then none else (if (st.1 66 v1.toNatClampNeg) < v3 then (some ((0 : Int32), st)) else (if ((st.1 66 v1.toNatClampNeg) - v3) < v2 then (some ((0 : Int32), st)) else (some ((1 : Int32), st))))))
set_option maxRecDepth 100000 in
theorem tX6_isPart_ {Z : kZ} (C : kC Z cX6_isPart_ RX6 4 rmX6_isPart_) {v1 : Int32} {v2 : Int32} {v3 : Int32}  {st : kM} {res : Int32 × kM} (hf : fX6_isPart_ v1 v2 v3 st = some res) (K : kEnd Z (some .boolean) (some (.int res.1)) res.2) : kV Z 4 0 [(0, kr Z 59), (1, .int v1), (2, .int v2), (3, .int v3)] [] st := by
  unfold fX6_isPart_ at hf
  refine k_iload_n C 2 dX6_isPart__0 rfl rfl rfl ?_
  refine k_if_lt C 34 dX6_isPart__1 rfl rfl (fun b1 => ?_) (fun b1 => ?_)
  · replace hf := kf_t hf b1
    refine k_iconst C (0 : Int32) dX6_isPart__34 (by decide) rfl ?_
    exact k_zret C K hf rfl dX6_isPart__35
  · replace hf := kf_f hf b1
    refine k_iload_n C 3 dX6_isPart__4 rfl rfl rfl ?_
    refine k_if_lt C 34 dX6_isPart__5 rfl rfl (fun b2 => ?_) (fun b2 => ?_)
    · replace hf := kf_t hf b2
      refine k_iconst C (0 : Int32) dX6_isPart__34 (by decide) rfl ?_
      exact k_zret C K hf rfl dX6_isPart__35
    · replace hf := kf_f hf b2
      refine k_iload_n C 3 dX6_isPart__8 rfl rfl rfl ?_
      refine k_aload_n C 0 dX6_isPart__9 rfl rfl rfl ?_
      refine g_X6_sizeOf C rfl kw_4_11 dX6_isPart__10 rfl ?_
      refine k_iload_n C 1 dX6_isPart__13 rfl rfl rfl ?_
      obtain ⟨g3, hf⟩ := kf_g hf
      refine k_iald (j := v1.toNatClampNeg) C ⟨rfl, rfl⟩ g3 rfl dX6_isPart__14 rfl ?_
      refine k_icmp_gt C 34 dX6_isPart__15 rfl rfl (fun b4 => ?_) (fun b4 => ?_)
      · replace hf := kf_t hf b4
        refine k_iconst C (0 : Int32) dX6_isPart__34 (by decide) rfl ?_
        exact k_zret C K hf rfl dX6_isPart__35
      · replace hf := kf_f hf b4
        refine k_iload_n C 2 dX6_isPart__18 rfl rfl rfl ?_
        refine k_aload_n C 0 dX6_isPart__19 rfl rfl rfl ?_
        refine g_X6_sizeOf C rfl kw_4_11 dX6_isPart__20 rfl ?_
        refine k_iload_n C 1 dX6_isPart__23 rfl rfl rfl ?_
        refine k_iald (j := v1.toNatClampNeg) C ⟨rfl, rfl⟩ g3 rfl dX6_isPart__24 rfl ?_
        refine k_iload_n C 3 dX6_isPart__25 rfl rfl rfl ?_
        refine k_isub C dX6_isPart__26 rfl ?_
        refine k_icmp_gt C 34 dX6_isPart__27 rfl rfl (fun b5 => ?_) (fun b5 => ?_)
        · replace hf := kf_t hf b5
          refine k_iconst C (0 : Int32) dX6_isPart__34 (by decide) rfl ?_
          exact k_zret C K hf rfl dX6_isPart__35
        · replace hf := kf_f hf b5
          refine k_iconst C (1 : Int32) dX6_isPart__30 (by decide) rfl ?_
          refine k_goto C 35 dX6_isPart__31 rfl ?_
          exact k_zret C K hf rfl dX6_isPart__35
theorem mX6_isPart_ {G : kG} {v1 : Int32} {v2 : Int32} {v3 : Int32}  {st : kM} {res : Int32 × kM} (hf : fX6_isPart_ v1 v2 v3 st = some res) : kCt G yX6_isPart_ cX6_isPart_ 4 (some .boolean) rmX6_isPart_ [.ref (G.2.1 59), .int v1, .int v2, .int v3] st (some (.int res.1)) res.2 := kMet (by decide) (Nat.le_of_ble_eq_true rfl) ⟨rfl, rfl⟩ (fun X A Q C K => tX6_isPart_ C  hf K)
theorem qX6_isPart_ : yX6_isPart_.cls = RX6 ∧ yX6_isPart_.cls ≠ "java/lang/invoke/MethodHandle" ∧ yX6_isPart_.cls ≠ "java/lang/invoke/VarHandle" ∧ (parseMethodDescriptor yX6_isPart_.desc).map (fun d => d.parameters.length) = some 3 := ⟨rfl, by decide, by decide, by decide +kernel⟩
-- TalkKnotsModel.copy(IIIII)I
def rmX6_copy : Room := { frames := 2, cells := 0, slots := 0, locals := 42 }
def fX6_copy_139 : Nat → Int32 → Int32 → Int32 → Int32 → kM → Option (Int32 × kM)
  | 0, _, _, _, _, _ => none
  | n + 1, x3, x4, x5, x6, st =>
    if x5 ≤ x6 then (some (x5, st)) else (if x6 < 0 ∨ 40 ≤ x6.toNatClampNeg then none else (if ((((40 : Int32) * x3) + x4) + x6) < 0 ∨ 160 ≤ ((((40 : Int32) * x3) + x4) + x6).toNatClampNeg then none else ((some (kwl st 67 (((((40 : Int32) * x3) + x4) + x6).toNatClampNeg) (st.2 68 x6.toNatClampNeg))).bind fun s4 => (fX6_copy_139 n x3 x4 x5 (x6 + (1 : Int32)) s4))))
def fX6_copy_102 : Nat → Int32 → Int32 → Int32 → Int32 → Int32 → Int32 → kM → Option (Int32 × kM)
  | 0, _, _, _, _, _, _, _ => none
  | n + 1, x1, x2, x3, x4, x5, x6, st =>
    if x5 ≤ x6 then (fX6_copy_139 kfu x3 x4 x5 (0 : Int32) st) else (if ((((40 : Int32) * x1) + x2) + x6) < 0 ∨ 160 ≤ ((((40 : Int32) * x1) + x2) + x6).toNatClampNeg then none else (if x6 < 0 ∨ 40 ≤ x6.toNatClampNeg then none else ((some (kwl st 68 x6.toNatClampNeg (st.2 67 (((((40 : Int32) * x1) + x2) + x6).toNatClampNeg)))).bind fun s4 => (fX6_copy_102 n x1 x2 x3 x4 x5 (x6 + (1 : Int32)) s4))))
def fX6_copy (v1 : Int32) (v2 : Int32) (v3 : Int32) (v4 : Int32) (v5 : Int32) (st : kM) : Option (Int32 × kM) :=
  (fX6_isSheet v1 st).bind fun q1 => (if q1.1 = 0 then ((fX6_finds (-1000000001 : Int32) q1.2).bind fun q4 => (some (q4.1, q4.2))) else ((fX6_isSheet v3 q1.2).bind fun q6 => (if q6.1 = 0 then ((fX6_finds (-1000000001 : Int32) q6.2).bind fun q30 => (some (q30.1, q30.2))) else (if v1 < 0 ∨ 4 ≤ v1.toNatClampNeg then none else (if (q6.2.1 65 v1.toNatClampNeg) = 0 then ((fX6_finds (-1000000006 : Int32) q6.2).bind fun q11 => (some (q11.1, q11.2))) else (if v3 < 0 ∨ 4 ≤ v3.toNatClampNeg then none else (if (q6.2.1 65 v3.toNatClampNeg) = 0 then ((fX6_finds (-1000000006 : Int32) q6.2).bind fun q28 => (some (q28.1, q28.2))) else (if (q6.2.1 65 v1.toNatClampNeg) = (q6.2.1 65 v3.toNatClampNeg) then ((fX6_isPart_ v1 v2 v5 q6.2).bind fun q16 => (if q16.1 = 0 then ((fX6_finds (-1000000001 : Int32) q16.2).bind fun q19 => (some (q19.1, q19.2))) else ((fX6_isPart_ v3 v4 v5 q16.2).bind fun q21 => (if q21.1 = 0 then ((fX6_finds (-1000000001 : Int32) q21.2).bind fun q24 => (some (q24.1, q24.2))) else (fX6_copy_102 kfu v1 v2 v3 v4 v5 (0 : Int32) q21.2))))) else ((fX6_finds (-1000000003 : Int32) q6.2).bind fun q26 => (some (q26.1, q26.2)))))))))))
set_option maxRecDepth 100000 in
theorem tX6_copy_139 {Z : kZ} (C : kC Z cX6_copy RX6 7 rmX6_copy) {res : Int32 × kM} (K : kEnd Z (some .int) (some (.int res.1)) res.2) : ∀ (n : Nat) (x3 : Int32) (x4 : Int32) (x5 : Int32) (x6 : Int32) (st : kM), fX6_copy_139 n x3 x4 x5 x6 st = some res → kV Z 7 139 [(0, kr Z 59), (3, .int x3), (4, .int x4), (5, .int x5), (6, .int x6)] [] st := by
  intro n
  induction n with
  | zero => intro x3 x4 x5 x6 st hf; cases hf
  | succ n ih =>
    intro x3 x4 x5 x6 st hf
    unfold fX6_copy_139 at hf
    refine k_iload C 4 dX6_copy_139 rfl rfl ?_
    refine k_iload C 3 dX6_copy_141 rfl rfl ?_
    refine k_icmp_ge C 174 dX6_copy_143 rfl rfl (fun b1 => ?_) (fun b1 => ?_)
    · replace hf := kf_t hf b1
      refine k_iload C 3 dX6_copy_174 rfl rfl ?_
      exact k_iret C K hf dX6_copy_176
    · replace hf := kf_f hf b1
      refine k_aload_n C 0 dX6_copy_146 rfl rfl rfl ?_
      refine g_X6_sheets C rfl kw_4_12 dX6_copy_147 rfl ?_
      refine k_bipush C (40 : Int32) dX6_copy_150 (by decide) rfl ?_
      refine k_iload_n C 1 dX6_copy_152 rfl rfl rfl ?_
      refine k_imul C dX6_copy_153 rfl ?_
      refine k_iload C 2 dX6_copy_154 rfl rfl ?_
      refine k_iadd C dX6_copy_156 rfl ?_
      refine k_iload C 4 dX6_copy_157 rfl rfl ?_
      refine k_iadd C dX6_copy_159 rfl ?_
      refine k_aload_n C 0 dX6_copy_160 rfl rfl rfl ?_
      refine g_X6_lent C rfl kw_4_13 dX6_copy_161 rfl ?_
      refine k_iload C 4 dX6_copy_164 rfl rfl ?_
      obtain ⟨g2, hf⟩ := kf_g hf
      refine k_lald (j := x6.toNatClampNeg) C ⟨rfl, rfl⟩ g2 rfl dX6_copy_166 rfl ?_
      obtain ⟨g3, hf⟩ := kf_g hf
      refine k_last (j := ((((40 : Int32) * x3) + x4) + x6).toNatClampNeg) C ⟨rfl, rfl⟩ g3 rfl dX6_copy_167 rfl ?_
      obtain ⟨s4, e5, hf⟩ := kf_b hf
      refine k_st e5 ?_
      refine k_iinc (lv' := [(6, .int (x6 + (1 : Int32))), (0, kr Z 59), (3, .int x3), (4, .int x4), (5, .int x5)]) C (x6 + (1 : Int32)) 4 dX6_copy_168 rfl rfl (by decide) rfl rfl ?_
      refine k_goto C 139 dX6_copy_171 rfl ?_
      refine k_lv (lv' := [(0, kr Z 59), (3, .int x3), (4, .int x4), (5, .int x5), (6, .int (x6 + (1 : Int32)))]) [1, 2, 3, 4, 0] rfl ?_
      exact ih x3 x4 x5 (x6 + (1 : Int32)) s4  hf
set_option maxRecDepth 100000 in
theorem tX6_copy_102 {Z : kZ} (C : kC Z cX6_copy RX6 7 rmX6_copy) {res : Int32 × kM} (K : kEnd Z (some .int) (some (.int res.1)) res.2) : ∀ (n : Nat) (x1 : Int32) (x2 : Int32) (x3 : Int32) (x4 : Int32) (x5 : Int32) (x6 : Int32) (st : kM), fX6_copy_102 n x1 x2 x3 x4 x5 x6 st = some res → kV Z 7 102 [(0, kr Z 59), (1, .int x1), (2, .int x2), (3, .int x3), (4, .int x4), (5, .int x5), (6, .int x6)] [] st := by
  intro n
  induction n with
  | zero => intro x1 x2 x3 x4 x5 x6 st hf; cases hf
  | succ n ih =>
    intro x1 x2 x3 x4 x5 x6 st hf
    unfold fX6_copy_102 at hf
    refine k_iload C 6 dX6_copy_102 rfl rfl ?_
    refine k_iload C 5 dX6_copy_104 rfl rfl ?_
    refine k_icmp_ge C 136 dX6_copy_106 rfl rfl (fun b1 => ?_) (fun b1 => ?_)
    · replace hf := kf_t hf b1
      refine k_iconst C (0 : Int32) dX6_copy_136 (by decide) rfl ?_
      refine k_istore (lv' := [(6, .int (0 : Int32)), (0, kr Z 59), (1, .int x1), (2, .int x2), (3, .int x3), (4, .int x4), (5, .int x5)]) C dX6_copy_137 (by decide) rfl rfl ?_
      refine k_lv (lv' := [(0, kr Z 59), (3, .int x3), (4, .int x4), (5, .int x5), (6, .int (0 : Int32))]) [1, 4, 5, 6, 0] rfl ?_
      exact tX6_copy_139 C K _ x3 x4 x5 (0 : Int32) st hf
    · replace hf := kf_f hf b1
      refine k_aload_n C 0 dX6_copy_109 rfl rfl rfl ?_
      refine g_X6_lent C rfl kw_4_13 dX6_copy_110 rfl ?_
      refine k_iload C 6 dX6_copy_113 rfl rfl ?_
      refine k_aload_n C 0 dX6_copy_115 rfl rfl rfl ?_
      refine g_X6_sheets C rfl kw_4_12 dX6_copy_116 rfl ?_
      refine k_bipush C (40 : Int32) dX6_copy_119 (by decide) rfl ?_
      refine k_iload_n C 1 dX6_copy_121 rfl rfl rfl ?_
      refine k_imul C dX6_copy_122 rfl ?_
      refine k_iload_n C 2 dX6_copy_123 rfl rfl rfl ?_
      refine k_iadd C dX6_copy_124 rfl ?_
      refine k_iload C 6 dX6_copy_125 rfl rfl ?_
      refine k_iadd C dX6_copy_127 rfl ?_
      obtain ⟨g2, hf⟩ := kf_g hf
      refine k_lald (j := ((((40 : Int32) * x1) + x2) + x6).toNatClampNeg) C ⟨rfl, rfl⟩ g2 rfl dX6_copy_128 rfl ?_
      obtain ⟨g3, hf⟩ := kf_g hf
      refine k_last (j := x6.toNatClampNeg) C ⟨rfl, rfl⟩ g3 rfl dX6_copy_129 rfl ?_
      obtain ⟨s4, e5, hf⟩ := kf_b hf
      refine k_st e5 ?_
      refine k_iinc (lv' := [(6, .int (x6 + (1 : Int32))), (0, kr Z 59), (1, .int x1), (2, .int x2), (3, .int x3), (4, .int x4), (5, .int x5)]) C (x6 + (1 : Int32)) 6 dX6_copy_130 rfl rfl (by decide) rfl rfl ?_
      refine k_goto C 102 dX6_copy_133 rfl ?_
      refine k_lv (lv' := [(0, kr Z 59), (1, .int x1), (2, .int x2), (3, .int x3), (4, .int x4), (5, .int x5), (6, .int (x6 + (1 : Int32)))]) [1, 2, 3, 4, 5, 6, 0] rfl ?_
      exact ih x1 x2 x3 x4 x5 (x6 + (1 : Int32)) s4  hf
set_option maxRecDepth 100000 in
theorem tX6_copy {Z : kZ} (C : kC Z cX6_copy RX6 7 rmX6_copy) {v1 : Int32} {v2 : Int32} {v3 : Int32} {v4 : Int32} {v5 : Int32}  {st : kM} {res : Int32 × kM} (hf : fX6_copy v1 v2 v3 v4 v5 st = some res) (K : kEnd Z (some .int) (some (.int res.1)) res.2) : kV Z 7 0 [(0, kr Z 59), (1, .int v1), (2, .int v2), (3, .int v3), (4, .int v4), (5, .int v5)] [] st := by
  unfold fX6_copy at hf
  refine k_iload_n C 1 dX6_copy_0 rfl rfl rfl ?_
  obtain ⟨q1, e2, hf⟩ := kf_b hf
  refine k_callS C [.int v1] (mX6_isSheet e2) kw_5_121 kw_5_122 kw_1_7 kw_5_123 qX6_isSheet rfl ⟨by decide, by decide⟩ ⟨rfl, rfl⟩ (Nat.le_of_ble_eq_true rfl) dX6_copy_1 rfl ?_ rfl
  refine (show kV Z 7 4 [(0, kr Z 59), (1, .int v1), (2, .int v2), (3, .int v3), (4, .int v4), (5, .int v5)] [.int q1.1] q1.2 from ?_)
  refine k_if_eq C 14 dX6_copy_4 rfl rfl (fun b3 => ?_) (fun b3 => ?_)
  · replace hf := kf_t hf b3
    refine k_aload_n C 0 dX6_copy_14 rfl rfl rfl ?_
    refine k_ldc C (-1000000001 : Int32) kw_4_67 dX6_copy_15 rfl ?_
    obtain ⟨q4, e5, hf⟩ := kf_b hf
    refine k_callV C [.int (-1000000001 : Int32)] (mX6_finds e5) rfl (by decide) rfl kw_4_68 kw_4_70 kw_0_24 kw_1_7 kw_4_71 qX6_finds rfl ⟨by decide, by decide⟩ ⟨rfl, rfl⟩ (Nat.le_of_ble_eq_true rfl) dX6_copy_17 rfl ?_ rfl
    refine (show kV Z 7 20 [(0, kr Z 59), (1, .int v1), (2, .int v2), (3, .int v3), (4, .int v4), (5, .int v5)] [.int q4.1] q4.2 from ?_)
    exact k_iret C K hf dX6_copy_20
  · replace hf := kf_f hf b3
    refine k_iload_n C 3 dX6_copy_7 rfl rfl rfl ?_
    obtain ⟨q6, e7, hf⟩ := kf_b hf
    refine k_callS C [.int v3] (mX6_isSheet e7) kw_5_121 kw_5_122 kw_1_7 kw_5_123 qX6_isSheet rfl ⟨by decide, by decide⟩ ⟨rfl, rfl⟩ (Nat.le_of_ble_eq_true rfl) dX6_copy_8 rfl ?_ rfl
    refine (show kV Z 7 11 [(0, kr Z 59), (1, .int v1), (2, .int v2), (3, .int v3), (4, .int v4), (5, .int v5)] [.int q6.1] q6.2 from ?_)
    refine k_if_ne C 21 dX6_copy_11 rfl rfl (fun b8 => ?_) (fun b8 => ?_)
    · replace hf := kf_f hf b8
      refine k_aload_n C 0 dX6_copy_21 rfl rfl rfl ?_
      refine g_X6_bitsOf C rfl kw_4_10 dX6_copy_22 rfl ?_
      refine k_iload_n C 1 dX6_copy_25 rfl rfl rfl ?_
      obtain ⟨g9, hf⟩ := kf_g hf
      refine k_iald (j := v1.toNatClampNeg) C ⟨rfl, rfl⟩ g9 rfl dX6_copy_26 rfl ?_
      refine k_if_eq C 39 dX6_copy_27 rfl rfl (fun b10 => ?_) (fun b10 => ?_)
      · replace hf := kf_t hf b10
        refine k_aload_n C 0 dX6_copy_39 rfl rfl rfl ?_
        refine k_ldcw C (-1000000006 : Int32) kw_5_129 dX6_copy_40 rfl ?_
        obtain ⟨q11, e12, hf⟩ := kf_b hf
        refine k_callV C [.int (-1000000006 : Int32)] (mX6_finds e12) rfl (by decide) rfl kw_4_68 kw_4_70 kw_0_24 kw_1_7 kw_4_71 qX6_finds rfl ⟨by decide, by decide⟩ ⟨rfl, rfl⟩ (Nat.le_of_ble_eq_true rfl) dX6_copy_43 rfl ?_ rfl
        refine (show kV Z 7 46 [(0, kr Z 59), (1, .int v1), (2, .int v2), (3, .int v3), (4, .int v4), (5, .int v5)] [.int q11.1] q11.2 from ?_)
        exact k_iret C K hf dX6_copy_46
      · replace hf := kf_f hf b10
        refine k_aload_n C 0 dX6_copy_30 rfl rfl rfl ?_
        refine g_X6_bitsOf C rfl kw_4_10 dX6_copy_31 rfl ?_
        refine k_iload_n C 3 dX6_copy_34 rfl rfl rfl ?_
        obtain ⟨g13, hf⟩ := kf_g hf
        refine k_iald (j := v3.toNatClampNeg) C ⟨rfl, rfl⟩ g13 rfl dX6_copy_35 rfl ?_
        refine k_if_ne C 47 dX6_copy_36 rfl rfl (fun b14 => ?_) (fun b14 => ?_)
        · replace hf := kf_f hf b14
          refine k_aload_n C 0 dX6_copy_47 rfl rfl rfl ?_
          refine g_X6_bitsOf C rfl kw_4_10 dX6_copy_48 rfl ?_
          refine k_iload_n C 1 dX6_copy_51 rfl rfl rfl ?_
          refine k_iald (j := v1.toNatClampNeg) C ⟨rfl, rfl⟩ g9 rfl dX6_copy_52 rfl ?_
          refine k_aload_n C 0 dX6_copy_53 rfl rfl rfl ?_
          refine g_X6_bitsOf C rfl kw_4_10 dX6_copy_54 rfl ?_
          refine k_iload_n C 3 dX6_copy_57 rfl rfl rfl ?_
          refine k_iald (j := v3.toNatClampNeg) C ⟨rfl, rfl⟩ g13 rfl dX6_copy_58 rfl ?_
          refine k_icmp_eq C 69 dX6_copy_59 rfl rfl (fun b15 => ?_) (fun b15 => ?_)
          · replace hf := kf_t hf b15
            refine k_aload_n C 0 dX6_copy_69 rfl rfl rfl ?_
            refine k_iload_n C 1 dX6_copy_70 rfl rfl rfl ?_
            refine k_iload_n C 2 dX6_copy_71 rfl rfl rfl ?_
            refine k_iload C 5 dX6_copy_72 rfl rfl ?_
            obtain ⟨q16, e17, hf⟩ := kf_b hf
            refine k_callV C [.int v1, .int v2, .int v5] (mX6_isPart_ e17) rfl (by decide) rfl kw_5_137 kw_5_139 kw_0_59 kw_1_7 kw_5_140 qX6_isPart_ rfl ⟨by decide, by decide⟩ ⟨rfl, rfl⟩ (Nat.le_of_ble_eq_true rfl) dX6_copy_74 rfl ?_ rfl
            refine (show kV Z 7 77 [(0, kr Z 59), (1, .int v1), (2, .int v2), (3, .int v3), (4, .int v4), (5, .int v5)] [.int q16.1] q16.2 from ?_)
            refine k_if_eq C 92 dX6_copy_77 rfl rfl (fun b18 => ?_) (fun b18 => ?_)
            · replace hf := kf_t hf b18
              refine k_aload_n C 0 dX6_copy_92 rfl rfl rfl ?_
              refine k_ldc C (-1000000001 : Int32) kw_4_67 dX6_copy_93 rfl ?_
              obtain ⟨q19, e20, hf⟩ := kf_b hf
              refine k_callV C [.int (-1000000001 : Int32)] (mX6_finds e20) rfl (by decide) rfl kw_4_68 kw_4_70 kw_0_24 kw_1_7 kw_4_71 qX6_finds rfl ⟨by decide, by decide⟩ ⟨rfl, rfl⟩ (Nat.le_of_ble_eq_true rfl) dX6_copy_95 rfl ?_ rfl
              refine (show kV Z 7 98 [(0, kr Z 59), (1, .int v1), (2, .int v2), (3, .int v3), (4, .int v4), (5, .int v5)] [.int q19.1] q19.2 from ?_)
              exact k_iret C K hf dX6_copy_98
            · replace hf := kf_f hf b18
              refine k_aload_n C 0 dX6_copy_80 rfl rfl rfl ?_
              refine k_iload_n C 3 dX6_copy_81 rfl rfl rfl ?_
              refine k_iload C 4 dX6_copy_82 rfl rfl ?_
              refine k_iload C 5 dX6_copy_84 rfl rfl ?_
              obtain ⟨q21, e22, hf⟩ := kf_b hf
              refine k_callV C [.int v3, .int v4, .int v5] (mX6_isPart_ e22) rfl (by decide) rfl kw_5_137 kw_5_139 kw_0_59 kw_1_7 kw_5_140 qX6_isPart_ rfl ⟨by decide, by decide⟩ ⟨rfl, rfl⟩ (Nat.le_of_ble_eq_true rfl) dX6_copy_86 rfl ?_ rfl
              refine (show kV Z 7 89 [(0, kr Z 59), (1, .int v1), (2, .int v2), (3, .int v3), (4, .int v4), (5, .int v5)] [.int q21.1] q21.2 from ?_)
              refine k_if_ne C 99 dX6_copy_89 rfl rfl (fun b23 => ?_) (fun b23 => ?_)
              · replace hf := kf_f hf b23
                refine k_iconst C (0 : Int32) dX6_copy_99 (by decide) rfl ?_
                refine k_istore (lv' := [(6, .int (0 : Int32)), (0, kr Z 59), (1, .int v1), (2, .int v2), (3, .int v3), (4, .int v4), (5, .int v5)]) C dX6_copy_100 (by decide) rfl rfl ?_
                refine k_lv (lv' := [(0, kr Z 59), (1, .int v1), (2, .int v2), (3, .int v3), (4, .int v4), (5, .int v5), (6, .int (0 : Int32))]) [1, 2, 3, 4, 5, 6, 0] rfl ?_
                exact tX6_copy_102 C K _ v1 v2 v3 v4 v5 (0 : Int32) q21.2 hf
              · replace hf := kf_t hf b23
                refine k_aload_n C 0 dX6_copy_92 rfl rfl rfl ?_
                refine k_ldc C (-1000000001 : Int32) kw_4_67 dX6_copy_93 rfl ?_
                obtain ⟨q24, e25, hf⟩ := kf_b hf
                refine k_callV C [.int (-1000000001 : Int32)] (mX6_finds e25) rfl (by decide) rfl kw_4_68 kw_4_70 kw_0_24 kw_1_7 kw_4_71 qX6_finds rfl ⟨by decide, by decide⟩ ⟨rfl, rfl⟩ (Nat.le_of_ble_eq_true rfl) dX6_copy_95 rfl ?_ rfl
                refine (show kV Z 7 98 [(0, kr Z 59), (1, .int v1), (2, .int v2), (3, .int v3), (4, .int v4), (5, .int v5)] [.int q24.1] q24.2 from ?_)
                exact k_iret C K hf dX6_copy_98
          · replace hf := kf_f hf b15
            refine k_aload_n C 0 dX6_copy_62 rfl rfl rfl ?_
            refine k_ldc C (-1000000003 : Int32) kw_4_188 dX6_copy_63 rfl ?_
            obtain ⟨q26, e27, hf⟩ := kf_b hf
            refine k_callV C [.int (-1000000003 : Int32)] (mX6_finds e27) rfl (by decide) rfl kw_4_68 kw_4_70 kw_0_24 kw_1_7 kw_4_71 qX6_finds rfl ⟨by decide, by decide⟩ ⟨rfl, rfl⟩ (Nat.le_of_ble_eq_true rfl) dX6_copy_65 rfl ?_ rfl
            refine (show kV Z 7 68 [(0, kr Z 59), (1, .int v1), (2, .int v2), (3, .int v3), (4, .int v4), (5, .int v5)] [.int q26.1] q26.2 from ?_)
            exact k_iret C K hf dX6_copy_68
        · replace hf := kf_t hf b14
          refine k_aload_n C 0 dX6_copy_39 rfl rfl rfl ?_
          refine k_ldcw C (-1000000006 : Int32) kw_5_129 dX6_copy_40 rfl ?_
          obtain ⟨q28, e29, hf⟩ := kf_b hf
          refine k_callV C [.int (-1000000006 : Int32)] (mX6_finds e29) rfl (by decide) rfl kw_4_68 kw_4_70 kw_0_24 kw_1_7 kw_4_71 qX6_finds rfl ⟨by decide, by decide⟩ ⟨rfl, rfl⟩ (Nat.le_of_ble_eq_true rfl) dX6_copy_43 rfl ?_ rfl
          refine (show kV Z 7 46 [(0, kr Z 59), (1, .int v1), (2, .int v2), (3, .int v3), (4, .int v4), (5, .int v5)] [.int q28.1] q28.2 from ?_)
          exact k_iret C K hf dX6_copy_46
    · replace hf := kf_t hf b8
      refine k_aload_n C 0 dX6_copy_14 rfl rfl rfl ?_
      refine k_ldc C (-1000000001 : Int32) kw_4_67 dX6_copy_15 rfl ?_
      obtain ⟨q30, e31, hf⟩ := kf_b hf
      refine k_callV C [.int (-1000000001 : Int32)] (mX6_finds e31) rfl (by decide) rfl kw_4_68 kw_4_70 kw_0_24 kw_1_7 kw_4_71 qX6_finds rfl ⟨by decide, by decide⟩ ⟨rfl, rfl⟩ (Nat.le_of_ble_eq_true rfl) dX6_copy_17 rfl ?_ rfl
      refine (show kV Z 7 20 [(0, kr Z 59), (1, .int v1), (2, .int v2), (3, .int v3), (4, .int v4), (5, .int v5)] [.int q30.1] q30.2 from ?_)
      exact k_iret C K hf dX6_copy_20
theorem mX6_copy {G : kG} {v1 : Int32} {v2 : Int32} {v3 : Int32} {v4 : Int32} {v5 : Int32}  {st : kM} {res : Int32 × kM} (hf : fX6_copy v1 v2 v3 v4 v5 st = some res) : kCt G yX6_copy cX6_copy 7 (some .int) rmX6_copy [.ref (G.2.1 59), .int v1, .int v2, .int v3, .int v4, .int v5] st (some (.int res.1)) res.2 := kMet (by decide) (Nat.le_of_ble_eq_true rfl) ⟨rfl, rfl⟩ (fun X A Q C K => tX6_copy C  hf K)
theorem qX6_copy : yX6_copy.cls = RX6 ∧ yX6_copy.cls ≠ "java/lang/invoke/MethodHandle" ∧ yX6_copy.cls ≠ "java/lang/invoke/VarHandle" ∧ (parseMethodDescriptor yX6_copy.desc).map (fun d => d.parameters.length) = some 5 := ⟨rfl, by decide, by decide, by decide +kernel⟩
-- TalkKnotsModel.badSheet(I)I
def rmX6_badSheet : Room := { frames := 2, cells := 0, slots := 0, locals := 42 }
def fX6_badSheet (v1 : Int32) (st : kM) : Option (Int32 × kM) :=
  (fX6_isSheet v1 st).bind fun q1 => (if q1.1 = 0 then (some ((-1000000001 : Int32), q1.2)) else (if v1 < 0 ∨ 4 ≤ v1.toNatClampNeg then none else (if (q1.2.1 65 v1.toNatClampNeg) = 0 then (some ((-1000000006 : Int32), q1.2)) else (some ((0 : Int32), q1.2)))))
set_option maxRecDepth 100000 in
theorem tX6_badSheet {Z : kZ} (C : kC Z cX6_badSheet RX6 2 rmX6_badSheet) {v1 : Int32}  {st : kM} {res : Int32 × kM} (hf : fX6_badSheet v1 st = some res) (K : kEnd Z (some .int) (some (.int res.1)) res.2) : kV Z 2 0 [(0, kr Z 59), (1, .int v1)] [] st := by
  unfold fX6_badSheet at hf
  refine k_iload_n C 1 dX6_badSheet_0 rfl rfl rfl ?_
  obtain ⟨q1, e2, hf⟩ := kf_b hf
  refine k_callS C [.int v1] (mX6_isSheet e2) kw_5_121 kw_5_122 kw_1_7 kw_5_123 qX6_isSheet rfl ⟨by decide, by decide⟩ ⟨rfl, rfl⟩ (Nat.le_of_ble_eq_true rfl) dX6_badSheet_1 rfl ?_ rfl
  refine (show kV Z 2 4 [(0, kr Z 59), (1, .int v1)] [.int q1.1] q1.2 from ?_)
  refine k_if_ne C 12 dX6_badSheet_4 rfl rfl (fun b3 => ?_) (fun b3 => ?_)
  · replace hf := kf_f hf b3
    refine k_aload_n C 0 dX6_badSheet_12 rfl rfl rfl ?_
    refine g_X6_bitsOf C rfl kw_4_10 dX6_badSheet_13 rfl ?_
    refine k_iload_n C 1 dX6_badSheet_16 rfl rfl rfl ?_
    obtain ⟨g4, hf⟩ := kf_g hf
    refine k_iald (j := v1.toNatClampNeg) C ⟨rfl, rfl⟩ g4 rfl dX6_badSheet_17 rfl ?_
    refine k_if_ne C 27 dX6_badSheet_18 rfl rfl (fun b5 => ?_) (fun b5 => ?_)
    · replace hf := kf_f hf b5
      refine k_iconst C (0 : Int32) dX6_badSheet_27 (by decide) rfl ?_
      exact k_iret C K hf dX6_badSheet_28
    · replace hf := kf_t hf b5
      refine k_ldcw C (-1000000006 : Int32) kw_5_129 dX6_badSheet_21 rfl ?_
      refine k_goto C 28 dX6_badSheet_24 rfl ?_
      exact k_iret C K hf dX6_badSheet_28
  · replace hf := kf_t hf b3
    refine k_ldc C (-1000000001 : Int32) kw_4_67 dX6_badSheet_7 rfl ?_
    refine k_goto C 28 dX6_badSheet_9 rfl ?_
    exact k_iret C K hf dX6_badSheet_28
theorem mX6_badSheet {G : kG} {v1 : Int32}  {st : kM} {res : Int32 × kM} (hf : fX6_badSheet v1 st = some res) : kCt G yX6_badSheet cX6_badSheet 2 (some .int) rmX6_badSheet [.ref (G.2.1 59), .int v1] st (some (.int res.1)) res.2 := kMet (by decide) (Nat.le_of_ble_eq_true rfl) ⟨rfl, rfl⟩ (fun X A Q C K => tX6_badSheet C  hf K)
theorem qX6_badSheet : yX6_badSheet.cls = RX6 ∧ yX6_badSheet.cls ≠ "java/lang/invoke/MethodHandle" ∧ yX6_badSheet.cls ≠ "java/lang/invoke/VarHandle" ∧ (parseMethodDescriptor yX6_badSheet.desc).map (fun d => d.parameters.length) = some 1 := ⟨rfl, by decide, by decide, by decide +kernel⟩
