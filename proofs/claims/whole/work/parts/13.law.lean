/-! the script's rows -/
section
variable {Z : kZ} {cc : ByteArray} {own : String} {nL pc pc' : Nat} {rm : Room} {lv : List (Nat × Value)} {stk : List Value} {st : kM}
def kScr (Z : kZ) (b L : Nat) (xs : Nat → Int32) : Prop := va_X b L xs (kzS Z) (kzS Z).heap ∧ b < (kzS Z).heap.size ∧ ¬ kzA Z b
theorem k_sld (C : kC Z cc own nL rm) {b L j : Nat} {xs : Nat → Int32} (hX : kScr Z b L xs) {i : Int32} (hin : vp_in i L) (hj : i.toNatClampNeg = j) (hdg : decode cc pc = .ok (.iaload, 1)) (hp : pc + 1 = pc') (k : kV Z nL pc' lv (.int (xs j) :: stk) st) : kV Z nL pc lv (.int i :: .ref b :: stk) st := fun H locs ls hP hS hl => va_sld C.exec C.bytes hX.1 hX.2.1 hX.2.2 hS hin hdg (hp ▸ hj ▸ k H locs ls hP hS hl)
theorem k_slen2 (C : kC Z cc own nL rm) {b L : Nat} {xs : Nat → Int32} (hX : kScr Z b L xs) (hdg : decode cc pc = .ok (.arraylength, 1)) (hp : pc + 1 = pc') (k : kV Z nL pc' lv (.int (nI L) :: stk) st) : kV Z nL pc lv (.ref b :: stk) st := fun H locs ls hP hS hl => va_slen C.exec C.bytes hX.1 hX.2.1 hX.2.2 hS hdg (hp ▸ k H locs ls hP hS hl)
end
theorem nI_off (i k : Nat) : nI i + nI k = nI (i + k) := nI_add i k
theorem lg_cmp_self (x : Int64) : lg_cmp x x = 0 := by simp [lg_cmp]
/-- the head, when the script ends there -/
theorem law_out {Z : kZ} (C : kC Z cL_law RL 4 room_1) {b L : Nat} {xs : Nat → Int32} (hX : kScr Z b L xs) (hL : L ≤ 3072) (hend : ∀ (lv : List (Nat × Value)) (st : kM), kV Z 4 1349 lv [.int 1] st) {i : Nat} {st : kM} (hi : L < i + 6) (h2 : i ≤ L + 6) : kV Z 4 18 [(0, .ref b), (1, kr Z 0), (2, kr Z 59), (3, .int (nI i))] [] st := by
  refine k_iload_n C 3 dL_law_18 rfl rfl rfl ?_
  refine k_aload_n C 0 dL_law_19 rfl rfl rfl ?_
  refine k_slen2 C hX dL_law_20 rfl ?_
  refine k_bipush C (nI 6) dL_law_21 (by decide) rfl ?_
  refine k_isub C dL_law_23 rfl ?_
  refine k_icmp_gt C 1348 dL_law_24 rfl rfl (fun _ => ?_) (fun h => absurd ?_ h)
  · refine k_iconst C (1 : Int32) dL_law_1348 (by decide) rfl ?_
    exact hend _ _
  · show nI L - nI 6 < nI i
    rw [Int32.lt_iff_toInt_lt, pk_sub_toInt (by omega) (by omega), nI_toInt (by omega)]
    omega
theorem law_in {Z : kZ} (C : kC Z cL_law RL 4 room_1) {b L : Nat} {xs : Nat → Int32} (hX : kScr Z b L xs) (hL : L ≤ 3072) {i : Nat} {st : kM} (hi : i + 6 ≤ L) (k : kV Z 4 33 [(0, .ref b), (1, kr Z 0), (2, kr Z 59), (3, .int (nI i))] [.int (xs i &&& 63)] st) : kV Z 4 18 [(0, .ref b), (1, kr Z 0), (2, kr Z 59), (3, .int (nI i))] [] st := by
  refine k_iload_n C 3 dL_law_18 rfl rfl rfl ?_
  refine k_aload_n C 0 dL_law_19 rfl rfl rfl ?_
  refine k_slen2 C hX dL_law_20 rfl ?_
  refine k_bipush C (nI 6) dL_law_21 (by decide) rfl ?_
  refine k_isub C dL_law_23 rfl ?_
  refine k_icmp_gt C 1348 dL_law_24 rfl rfl (fun h => absurd h ?_) (fun _ => ?_)
  · show ¬ nI L - nI 6 < nI i
    rw [Int32.lt_iff_toInt_lt, pk_sub_toInt (by omega) (by omega), nI_toInt (by omega)]
    omega
  · refine k_aload_n C 0 dL_law_27 rfl rfl rfl ?_
    refine k_iload_n C 3 dL_law_28 rfl rfl rfl ?_
    refine k_sld (j := i) C hX (vp_in_nI (by omega) (by omega)) (nI_clamp (by omega)) dL_law_29 rfl ?_
    refine k_bipush C (63 : Int32) dL_law_30 (by decide) rfl ?_
    refine k_iand C dL_law_32 rfl ?_
    exact k
set_option maxRecDepth 100000 in
set_option maxHeartbeats 4000000 in
theorem law_sw {Z : kZ} (C : kC Z cL_law RL 4 room_1) {t : Nat} {lv : List (Nat × Value)} {st : kM} (ht : t < 2 ^ 6) (h39 : t < 39) (k0 : t = 0 → kV Z 4 204 lv [] st) (k1 : t = 1 → kV Z 4 237 lv [] st) (k2 : t = 2 → kV Z 4 270 lv [] st) (k3 : t = 3 → kV Z 4 293 lv [] st) (k4 : t = 4 → kV Z 4 326 lv [] st) (k5 : t = 5 → kV Z 4 349 lv [] st) (k6 : t = 6 → kV Z 4 382 lv [] st) (k7 : t = 7 → kV Z 4 415 lv [] st) (k8 : t = 8 → kV Z 4 458 lv [] st) (k9 : t = 9 → kV Z 4 491 lv [] st) (k10 : t = 10 → kV Z 4 524 lv [] st) (k11 : t = 11 → kV Z 4 547 lv [] st) (k12 : t = 12 → kV Z 4 570 lv [] st) (k13 : t = 13 → kV Z 4 593 lv [] st) (k14 : t = 14 → kV Z 4 616 lv [] st) (k15 : t = 15 → kV Z 4 659 lv [] st) (k16 : t = 16 → kV Z 4 692 lv [] st) (k17 : t = 17 → kV Z 4 715 lv [] st) (k18 : t = 18 → kV Z 4 738 lv [] st) (k19 : t = 19 → kV Z 4 761 lv [] st) (k20 : t = 20 → kV Z 4 784 lv [] st) (k21 : t = 21 → kV Z 4 817 lv [] st) (k22 : t = 22 → kV Z 4 850 lv [] st) (k23 : t = 23 → kV Z 4 883 lv [] st) (k24 : t = 24 → kV Z 4 906 lv [] st) (k25 : t = 25 → kV Z 4 929 lv [] st) (k26 : t = 26 → kV Z 4 962 lv [] st) (k27 : t = 27 → kV Z 4 975 lv [] st) (k28 : t = 28 → kV Z 4 988 lv [] st) (k29 : t = 29 → kV Z 4 1031 lv [] st) (k30 : t = 30 → kV Z 4 1105 lv [] st) (k31 : t = 31 → kV Z 4 1168 lv [] st) (k32 : t = 32 → kV Z 4 1191 lv [] st) (k33 : t = 33 → kV Z 4 1224 lv [] st) (k34 : t = 34 → kV Z 4 1257 lv [] st) (k35 : t = 35 → kV Z 4 1270 lv [] st) (k36 : t = 36 → kV Z 4 1283 lv [] st) (k37 : t = 37 → kV Z 4 1296 lv [] st) (k38 : t = 38 → kV Z 4 1319 lv [] st) : kV Z 4 33 lv [.int (nI t)] st := by
  match t, h39 with
  | 0, _ => exact k_tabIn C 204 dL_law_33 (by decide) (by decide) (by rfl) rfl (k0 rfl)
  | 1, _ => exact k_tabIn C 237 dL_law_33 (by decide) (by decide) (by rfl) rfl (k1 rfl)
  | 2, _ => exact k_tabIn C 270 dL_law_33 (by decide) (by decide) (by rfl) rfl (k2 rfl)
  | 3, _ => exact k_tabIn C 293 dL_law_33 (by decide) (by decide) (by rfl) rfl (k3 rfl)
  | 4, _ => exact k_tabIn C 326 dL_law_33 (by decide) (by decide) (by rfl) rfl (k4 rfl)
  | 5, _ => exact k_tabIn C 349 dL_law_33 (by decide) (by decide) (by rfl) rfl (k5 rfl)
  | 6, _ => exact k_tabIn C 382 dL_law_33 (by decide) (by decide) (by rfl) rfl (k6 rfl)
  | 7, _ => exact k_tabIn C 415 dL_law_33 (by decide) (by decide) (by rfl) rfl (k7 rfl)
  | 8, _ => exact k_tabIn C 458 dL_law_33 (by decide) (by decide) (by rfl) rfl (k8 rfl)
  | 9, _ => exact k_tabIn C 491 dL_law_33 (by decide) (by decide) (by rfl) rfl (k9 rfl)
  | 10, _ => exact k_tabIn C 524 dL_law_33 (by decide) (by decide) (by rfl) rfl (k10 rfl)
  | 11, _ => exact k_tabIn C 547 dL_law_33 (by decide) (by decide) (by rfl) rfl (k11 rfl)
  | 12, _ => exact k_tabIn C 570 dL_law_33 (by decide) (by decide) (by rfl) rfl (k12 rfl)
  | 13, _ => exact k_tabIn C 593 dL_law_33 (by decide) (by decide) (by rfl) rfl (k13 rfl)
  | 14, _ => exact k_tabIn C 616 dL_law_33 (by decide) (by decide) (by rfl) rfl (k14 rfl)
  | 15, _ => exact k_tabIn C 659 dL_law_33 (by decide) (by decide) (by rfl) rfl (k15 rfl)
  | 16, _ => exact k_tabIn C 692 dL_law_33 (by decide) (by decide) (by rfl) rfl (k16 rfl)
  | 17, _ => exact k_tabIn C 715 dL_law_33 (by decide) (by decide) (by rfl) rfl (k17 rfl)
  | 18, _ => exact k_tabIn C 738 dL_law_33 (by decide) (by decide) (by rfl) rfl (k18 rfl)
  | 19, _ => exact k_tabIn C 761 dL_law_33 (by decide) (by decide) (by rfl) rfl (k19 rfl)
  | 20, _ => exact k_tabIn C 784 dL_law_33 (by decide) (by decide) (by rfl) rfl (k20 rfl)
  | 21, _ => exact k_tabIn C 817 dL_law_33 (by decide) (by decide) (by rfl) rfl (k21 rfl)
  | 22, _ => exact k_tabIn C 850 dL_law_33 (by decide) (by decide) (by rfl) rfl (k22 rfl)
  | 23, _ => exact k_tabIn C 883 dL_law_33 (by decide) (by decide) (by rfl) rfl (k23 rfl)
  | 24, _ => exact k_tabIn C 906 dL_law_33 (by decide) (by decide) (by rfl) rfl (k24 rfl)
  | 25, _ => exact k_tabIn C 929 dL_law_33 (by decide) (by decide) (by rfl) rfl (k25 rfl)
  | 26, _ => exact k_tabIn C 962 dL_law_33 (by decide) (by decide) (by rfl) rfl (k26 rfl)
  | 27, _ => exact k_tabIn C 975 dL_law_33 (by decide) (by decide) (by rfl) rfl (k27 rfl)
  | 28, _ => exact k_tabIn C 988 dL_law_33 (by decide) (by decide) (by rfl) rfl (k28 rfl)
  | 29, _ => exact k_tabIn C 1031 dL_law_33 (by decide) (by decide) (by rfl) rfl (k29 rfl)
  | 30, _ => exact k_tabIn C 1105 dL_law_33 (by decide) (by decide) (by rfl) rfl (k30 rfl)
  | 31, _ => exact k_tabIn C 1168 dL_law_33 (by decide) (by decide) (by rfl) rfl (k31 rfl)
  | 32, _ => exact k_tabIn C 1191 dL_law_33 (by decide) (by decide) (by rfl) rfl (k32 rfl)
  | 33, _ => exact k_tabIn C 1224 dL_law_33 (by decide) (by decide) (by rfl) rfl (k33 rfl)
  | 34, _ => exact k_tabIn C 1257 dL_law_33 (by decide) (by decide) (by rfl) rfl (k34 rfl)
  | 35, _ => exact k_tabIn C 1270 dL_law_33 (by decide) (by decide) (by rfl) rfl (k35 rfl)
  | 36, _ => exact k_tabIn C 1283 dL_law_33 (by decide) (by decide) (by rfl) rfl (k36 rfl)
  | 37, _ => exact k_tabIn C 1296 dL_law_33 (by decide) (by decide) (by rfl) rfl (k37 rfl)
  | 38, _ => exact k_tabIn C 1319 dL_law_33 (by decide) (by decide) (by rfl) rfl (k38 rfl)
  | t + 39, h => exact absurd h (by omega)
theorem law_df {Z : kZ} (C : kC Z cL_law RL 4 room_1) {t : Nat} {lv : List (Nat × Value)} {st : kM} (ht : t < 2 ^ 6) (h39 : ¬ t < 39) (k : kV Z 4 1342 lv [] st) : kV Z 4 33 lv [.int (nI t)] st := by
  refine k_tabOut C 1342 dL_law_33 (Or.inr ?_) rfl k
  rw [nI_toInt (by omega)]
  omega
def sp_wind (Iv : kM → Prop) : Prop := ∀ st : kM, Iv st → ∀ (v1 : Int32), ∀ (v2 : Int32), ∃ (q1 q2 : Int32 × kM), fX5_wind v1 v2 st = some q1 ∧ fX6_wind v1 v2 q1.2 = some q2 ∧ q1.1 = q2.1 ∧ Iv q2.2
set_option maxRecDepth 100000 in
theorem lc_wind {Z : kZ} (C : kC Z cL_law RL 4 room_1) {b L : Nat} {xs : Nat → Int32} (hX : kScr Z b L xs) (hL : L ≤ 3072) {Iv : kM → Prop} (hs : sp_wind Iv) {i : Nat} (hi : i + 6 ≤ L) (hk : ∀ st : kM, Iv st → kV Z 4 1342 [(0, .ref b), (1, kr Z 0), (2, kr Z 59), (3, .int (nI i))] [] st) (st : kM) (hI : Iv st) : kV Z 4 204 [(0, .ref b), (1, kr Z 0), (2, kr Z 59), (3, .int (nI i))] [] st := by
  obtain ⟨q1, q2, h1, h2, he, hI⟩ := hs st hI (xs (i + 1)) (xs (i + 2))
  refine k_aload_n C 1 dL_law_204 rfl rfl rfl ?_
  refine k_aload_n C 0 dL_law_205 rfl rfl rfl ?_
  refine k_iload_n C 3 dL_law_206 rfl rfl rfl ?_
  refine k_iconst C (nI 1) dL_law_207 (by decide) rfl ?_
  refine k_iadd C dL_law_208 rfl ?_
  rw [nI_off]
  refine k_sld (j := i + 1) C hX (vp_in_nI (by omega) (by omega)) (nI_clamp (by omega)) dL_law_209 rfl ?_
  refine k_aload_n C 0 dL_law_210 rfl rfl rfl ?_
  refine k_iload_n C 3 dL_law_211 rfl rfl rfl ?_
  refine k_iconst C (nI 2) dL_law_212 (by decide) rfl ?_
  refine k_iadd C dL_law_213 rfl ?_
  rw [nI_off]
  refine k_sld (j := i + 2) C hX (vp_in_nI (by omega) (by omega)) (nI_clamp (by omega)) dL_law_214 rfl ?_
  refine k_callV C [.int (xs (i + 1)), .int (xs (i + 2))] (mX5_wind h1) rfl (by decide) rfl kw_1_185 kw_1_186 kw_1_187 kw_1_1 kw_1_188 qX5_wind rfl ⟨by decide, by decide⟩ ⟨rfl, rfl⟩ (Nat.le_of_ble_eq_true rfl) dL_law_215 rfl ?_ rfl
  refine (show kV Z 4 218 [(0, .ref b), (1, kr Z 0), (2, kr Z 59), (3, .int (nI i))] [.int q1.1] q1.2 from ?_)
  refine k_aload_n C 2 dL_law_218 rfl rfl rfl ?_
  refine k_aload_n C 0 dL_law_219 rfl rfl rfl ?_
  refine k_iload_n C 3 dL_law_220 rfl rfl rfl ?_
  refine k_iconst C (nI 1) dL_law_221 (by decide) rfl ?_
  refine k_iadd C dL_law_222 rfl ?_
  rw [nI_off]
  refine k_sld (j := i + 1) C hX (vp_in_nI (by omega) (by omega)) (nI_clamp (by omega)) dL_law_223 rfl ?_
  refine k_aload_n C 0 dL_law_224 rfl rfl rfl ?_
  refine k_iload_n C 3 dL_law_225 rfl rfl rfl ?_
  refine k_iconst C (nI 2) dL_law_226 (by decide) rfl ?_
  refine k_iadd C dL_law_227 rfl ?_
  rw [nI_off]
  refine k_sld (j := i + 2) C hX (vp_in_nI (by omega) (by omega)) (nI_clamp (by omega)) dL_law_228 rfl ?_
  refine k_callV C [.int (xs (i + 1)), .int (xs (i + 2))] (mX6_wind h2) rfl (by decide) rfl kw_4_56 kw_4_57 kw_4_58 kw_1_7 kw_4_59 qX6_wind rfl ⟨by decide, by decide⟩ ⟨rfl, rfl⟩ (Nat.le_of_ble_eq_true rfl) dL_law_229 rfl ?_ rfl
  refine (show kV Z 4 232 [(0, .ref b), (1, kr Z 0), (2, kr Z 59), (3, .int (nI i))] [.int q2.1, .int q1.1] q2.2 from ?_)
  refine k_icmp_eq C 1342 dL_law_232 rfl rfl (fun _ => hk q2.2 hI) (fun h => absurd he h)
def sp_weight (Iv : kM → Prop) : Prop := ∀ st : kM, Iv st → ∀ (v1 : Int32), ∀ (v2 : Int32), ∃ (q1 q2 : Int32 × kM), fX5_weight v1 v2 st = some q1 ∧ fX6_weight v1 v2 q1.2 = some q2 ∧ q1.1 = q2.1 ∧ Iv q2.2
set_option maxRecDepth 100000 in
theorem lc_weight {Z : kZ} (C : kC Z cL_law RL 4 room_1) {b L : Nat} {xs : Nat → Int32} (hX : kScr Z b L xs) (hL : L ≤ 3072) {Iv : kM → Prop} (hs : sp_weight Iv) {i : Nat} (hi : i + 6 ≤ L) (hk : ∀ st : kM, Iv st → kV Z 4 1342 [(0, .ref b), (1, kr Z 0), (2, kr Z 59), (3, .int (nI i))] [] st) (st : kM) (hI : Iv st) : kV Z 4 237 [(0, .ref b), (1, kr Z 0), (2, kr Z 59), (3, .int (nI i))] [] st := by
  obtain ⟨q1, q2, h1, h2, he, hI⟩ := hs st hI (xs (i + 1)) (xs (i + 2))
  refine k_aload_n C 1 dL_law_237 rfl rfl rfl ?_
  refine k_aload_n C 0 dL_law_238 rfl rfl rfl ?_
  refine k_iload_n C 3 dL_law_239 rfl rfl rfl ?_
  refine k_iconst C (nI 1) dL_law_240 (by decide) rfl ?_
  refine k_iadd C dL_law_241 rfl ?_
  rw [nI_off]
  refine k_sld (j := i + 1) C hX (vp_in_nI (by omega) (by omega)) (nI_clamp (by omega)) dL_law_242 rfl ?_
  refine k_aload_n C 0 dL_law_243 rfl rfl rfl ?_
  refine k_iload_n C 3 dL_law_244 rfl rfl rfl ?_
  refine k_iconst C (nI 2) dL_law_245 (by decide) rfl ?_
  refine k_iadd C dL_law_246 rfl ?_
  rw [nI_off]
  refine k_sld (j := i + 2) C hX (vp_in_nI (by omega) (by omega)) (nI_clamp (by omega)) dL_law_247 rfl ?_
  refine k_callV C [.int (xs (i + 1)), .int (xs (i + 2))] (mX5_weight h1) rfl (by decide) rfl kw_1_197 kw_1_198 kw_1_199 kw_1_1 kw_1_200 qX5_weight rfl ⟨by decide, by decide⟩ ⟨rfl, rfl⟩ (Nat.le_of_ble_eq_true rfl) dL_law_248 rfl ?_ rfl
  refine (show kV Z 4 251 [(0, .ref b), (1, kr Z 0), (2, kr Z 59), (3, .int (nI i))] [.int q1.1] q1.2 from ?_)
  refine k_aload_n C 2 dL_law_251 rfl rfl rfl ?_
  refine k_aload_n C 0 dL_law_252 rfl rfl rfl ?_
  refine k_iload_n C 3 dL_law_253 rfl rfl rfl ?_
  refine k_iconst C (nI 1) dL_law_254 (by decide) rfl ?_
  refine k_iadd C dL_law_255 rfl ?_
  rw [nI_off]
  refine k_sld (j := i + 1) C hX (vp_in_nI (by omega) (by omega)) (nI_clamp (by omega)) dL_law_256 rfl ?_
  refine k_aload_n C 0 dL_law_257 rfl rfl rfl ?_
  refine k_iload_n C 3 dL_law_258 rfl rfl rfl ?_
  refine k_iconst C (nI 2) dL_law_259 (by decide) rfl ?_
  refine k_iadd C dL_law_260 rfl ?_
  rw [nI_off]
  refine k_sld (j := i + 2) C hX (vp_in_nI (by omega) (by omega)) (nI_clamp (by omega)) dL_law_261 rfl ?_
  refine k_callV C [.int (xs (i + 1)), .int (xs (i + 2))] (mX6_weight h2) rfl (by decide) rfl kw_4_72 kw_4_73 kw_4_74 kw_1_7 kw_4_75 qX6_weight rfl ⟨by decide, by decide⟩ ⟨rfl, rfl⟩ (Nat.le_of_ble_eq_true rfl) dL_law_262 rfl ?_ rfl
  refine (show kV Z 4 265 [(0, .ref b), (1, kr Z 0), (2, kr Z 59), (3, .int (nI i))] [.int q2.1, .int q1.1] q2.2 from ?_)
  refine k_icmp_eq C 1342 dL_law_265 rfl rfl (fun _ => hk q2.2 hI) (fun h => absurd he h)
def sp_raise (Iv : kM → Prop) : Prop := ∀ st : kM, Iv st → ∀ (v1 : Int32), ∃ (q1 q2 : Int32 × kM), fX5_raise v1 st = some q1 ∧ fX6_raise v1 q1.2 = some q2 ∧ q1.1 = q2.1 ∧ Iv q2.2
set_option maxRecDepth 100000 in
theorem lc_raise {Z : kZ} (C : kC Z cL_law RL 4 room_1) {b L : Nat} {xs : Nat → Int32} (hX : kScr Z b L xs) (hL : L ≤ 3072) {Iv : kM → Prop} (hs : sp_raise Iv) {i : Nat} (hi : i + 6 ≤ L) (hk : ∀ st : kM, Iv st → kV Z 4 1342 [(0, .ref b), (1, kr Z 0), (2, kr Z 59), (3, .int (nI i))] [] st) (st : kM) (hI : Iv st) : kV Z 4 270 [(0, .ref b), (1, kr Z 0), (2, kr Z 59), (3, .int (nI i))] [] st := by
  obtain ⟨q1, q2, h1, h2, he, hI⟩ := hs st hI (xs (i + 1))
  refine k_aload_n C 1 dL_law_270 rfl rfl rfl ?_
  refine k_aload_n C 0 dL_law_271 rfl rfl rfl ?_
  refine k_iload_n C 3 dL_law_272 rfl rfl rfl ?_
  refine k_iconst C (nI 1) dL_law_273 (by decide) rfl ?_
  refine k_iadd C dL_law_274 rfl ?_
  rw [nI_off]
  refine k_sld (j := i + 1) C hX (vp_in_nI (by omega) (by omega)) (nI_clamp (by omega)) dL_law_275 rfl ?_
  refine k_callV C [.int (xs (i + 1))] (mX5_raise h1) rfl (by decide) rfl kw_1_204 kw_1_205 kw_1_206 kw_1_1 kw_1_207 qX5_raise rfl ⟨by decide, by decide⟩ ⟨rfl, rfl⟩ (Nat.le_of_ble_eq_true rfl) dL_law_276 rfl ?_ rfl
  refine (show kV Z 4 279 [(0, .ref b), (1, kr Z 0), (2, kr Z 59), (3, .int (nI i))] [.int q1.1] q1.2 from ?_)
  refine k_aload_n C 2 dL_law_279 rfl rfl rfl ?_
  refine k_aload_n C 0 dL_law_280 rfl rfl rfl ?_
  refine k_iload_n C 3 dL_law_281 rfl rfl rfl ?_
  refine k_iconst C (nI 1) dL_law_282 (by decide) rfl ?_
  refine k_iadd C dL_law_283 rfl ?_
  rw [nI_off]
  refine k_sld (j := i + 1) C hX (vp_in_nI (by omega) (by omega)) (nI_clamp (by omega)) dL_law_284 rfl ?_
  refine k_callV C [.int (xs (i + 1))] (mX6_raise h2) rfl (by decide) rfl kw_4_79 kw_4_80 kw_4_81 kw_1_7 kw_4_82 qX6_raise rfl ⟨by decide, by decide⟩ ⟨rfl, rfl⟩ (Nat.le_of_ble_eq_true rfl) dL_law_285 rfl ?_ rfl
  refine (show kV Z 4 288 [(0, .ref b), (1, kr Z 0), (2, kr Z 59), (3, .int (nI i))] [.int q2.1, .int q1.1] q2.2 from ?_)
  refine k_icmp_eq C 1342 dL_law_288 rfl rfl (fun _ => hk q2.2 hI) (fun h => absurd he h)
def sp_mastOf (Iv : kM → Prop) : Prop := ∀ st : kM, Iv st → ∀ (v1 : Int32), ∀ (v2 : Int32), ∃ (q1 q2 : Int32 × kM), fX5_mastOf v1 v2 st = some q1 ∧ fX6_mastOf v1 v2 q1.2 = some q2 ∧ q1.1 = q2.1 ∧ Iv q2.2
set_option maxRecDepth 100000 in
theorem lc_mastOf {Z : kZ} (C : kC Z cL_law RL 4 room_1) {b L : Nat} {xs : Nat → Int32} (hX : kScr Z b L xs) (hL : L ≤ 3072) {Iv : kM → Prop} (hs : sp_mastOf Iv) {i : Nat} (hi : i + 6 ≤ L) (hk : ∀ st : kM, Iv st → kV Z 4 1342 [(0, .ref b), (1, kr Z 0), (2, kr Z 59), (3, .int (nI i))] [] st) (st : kM) (hI : Iv st) : kV Z 4 293 [(0, .ref b), (1, kr Z 0), (2, kr Z 59), (3, .int (nI i))] [] st := by
  obtain ⟨q1, q2, h1, h2, he, hI⟩ := hs st hI (xs (i + 1)) (xs (i + 2))
  refine k_aload_n C 1 dL_law_293 rfl rfl rfl ?_
  refine k_aload_n C 0 dL_law_294 rfl rfl rfl ?_
  refine k_iload_n C 3 dL_law_295 rfl rfl rfl ?_
  refine k_iconst C (nI 1) dL_law_296 (by decide) rfl ?_
  refine k_iadd C dL_law_297 rfl ?_
  rw [nI_off]
  refine k_sld (j := i + 1) C hX (vp_in_nI (by omega) (by omega)) (nI_clamp (by omega)) dL_law_298 rfl ?_
  refine k_aload_n C 0 dL_law_299 rfl rfl rfl ?_
  refine k_iload_n C 3 dL_law_300 rfl rfl rfl ?_
  refine k_iconst C (nI 2) dL_law_301 (by decide) rfl ?_
  refine k_iadd C dL_law_302 rfl ?_
  rw [nI_off]
  refine k_sld (j := i + 2) C hX (vp_in_nI (by omega) (by omega)) (nI_clamp (by omega)) dL_law_303 rfl ?_
  refine k_callV C [.int (xs (i + 1)), .int (xs (i + 2))] (mX5_mastOf h1) rfl (by decide) rfl kw_1_216 kw_1_217 kw_1_218 kw_1_1 kw_1_219 qX5_mastOf rfl ⟨by decide, by decide⟩ ⟨rfl, rfl⟩ (Nat.le_of_ble_eq_true rfl) dL_law_304 rfl ?_ rfl
  refine (show kV Z 4 307 [(0, .ref b), (1, kr Z 0), (2, kr Z 59), (3, .int (nI i))] [.int q1.1] q1.2 from ?_)
  refine k_aload_n C 2 dL_law_307 rfl rfl rfl ?_
  refine k_aload_n C 0 dL_law_308 rfl rfl rfl ?_
  refine k_iload_n C 3 dL_law_309 rfl rfl rfl ?_
  refine k_iconst C (nI 1) dL_law_310 (by decide) rfl ?_
  refine k_iadd C dL_law_311 rfl ?_
  rw [nI_off]
  refine k_sld (j := i + 1) C hX (vp_in_nI (by omega) (by omega)) (nI_clamp (by omega)) dL_law_312 rfl ?_
  refine k_aload_n C 0 dL_law_313 rfl rfl rfl ?_
  refine k_iload_n C 3 dL_law_314 rfl rfl rfl ?_
  refine k_iconst C (nI 2) dL_law_315 (by decide) rfl ?_
  refine k_iadd C dL_law_316 rfl ?_
  rw [nI_off]
  refine k_sld (j := i + 2) C hX (vp_in_nI (by omega) (by omega)) (nI_clamp (by omega)) dL_law_317 rfl ?_
  refine k_callV C [.int (xs (i + 1)), .int (xs (i + 2))] (mX6_mastOf h2) rfl (by decide) rfl kw_4_83 kw_4_84 kw_4_85 kw_1_7 kw_4_86 qX6_mastOf rfl ⟨by decide, by decide⟩ ⟨rfl, rfl⟩ (Nat.le_of_ble_eq_true rfl) dL_law_318 rfl ?_ rfl
  refine (show kV Z 4 321 [(0, .ref b), (1, kr Z 0), (2, kr Z 59), (3, .int (nI i))] [.int q2.1, .int q1.1] q2.2 from ?_)
  refine k_icmp_eq C 1342 dL_law_321 rfl rfl (fun _ => hk q2.2 hI) (fun h => absurd he h)
def sp_now (Iv : kM → Prop) : Prop := ∀ st : kM, Iv st → ∀ (v1 : Int32), ∃ (q1 q2 : Int32 × kM), fX5_now v1 st = some q1 ∧ fX6_now v1 q1.2 = some q2 ∧ q1.1 = q2.1 ∧ Iv q2.2
set_option maxRecDepth 100000 in
theorem lc_now {Z : kZ} (C : kC Z cL_law RL 4 room_1) {b L : Nat} {xs : Nat → Int32} (hX : kScr Z b L xs) (hL : L ≤ 3072) {Iv : kM → Prop} (hs : sp_now Iv) {i : Nat} (hi : i + 6 ≤ L) (hk : ∀ st : kM, Iv st → kV Z 4 1342 [(0, .ref b), (1, kr Z 0), (2, kr Z 59), (3, .int (nI i))] [] st) (st : kM) (hI : Iv st) : kV Z 4 326 [(0, .ref b), (1, kr Z 0), (2, kr Z 59), (3, .int (nI i))] [] st := by
  obtain ⟨q1, q2, h1, h2, he, hI⟩ := hs st hI (xs (i + 1))
  refine k_aload_n C 1 dL_law_326 rfl rfl rfl ?_
  refine k_aload_n C 0 dL_law_327 rfl rfl rfl ?_
  refine k_iload_n C 3 dL_law_328 rfl rfl rfl ?_
  refine k_iconst C (nI 1) dL_law_329 (by decide) rfl ?_
  refine k_iadd C dL_law_330 rfl ?_
  rw [nI_off]
  refine k_sld (j := i + 1) C hX (vp_in_nI (by omega) (by omega)) (nI_clamp (by omega)) dL_law_331 rfl ?_
  refine k_callV C [.int (xs (i + 1))] (mX5_now h1) rfl (by decide) rfl kw_2_31 kw_2_32 kw_2_33 kw_1_1 kw_2_34 qX5_now rfl ⟨by decide, by decide⟩ ⟨rfl, rfl⟩ (Nat.le_of_ble_eq_true rfl) dL_law_332 rfl ?_ rfl
  refine (show kV Z 4 335 [(0, .ref b), (1, kr Z 0), (2, kr Z 59), (3, .int (nI i))] [.int q1.1] q1.2 from ?_)
  refine k_aload_n C 2 dL_law_335 rfl rfl rfl ?_
  refine k_aload_n C 0 dL_law_336 rfl rfl rfl ?_
  refine k_iload_n C 3 dL_law_337 rfl rfl rfl ?_
  refine k_iconst C (nI 1) dL_law_338 (by decide) rfl ?_
  refine k_iadd C dL_law_339 rfl ?_
  rw [nI_off]
  refine k_sld (j := i + 1) C hX (vp_in_nI (by omega) (by omega)) (nI_clamp (by omega)) dL_law_340 rfl ?_
  refine k_callV C [.int (xs (i + 1))] (mX6_now h2) rfl (by decide) rfl kw_4_121 kw_4_122 kw_4_123 kw_1_7 kw_4_124 qX6_now rfl ⟨by decide, by decide⟩ ⟨rfl, rfl⟩ (Nat.le_of_ble_eq_true rfl) dL_law_341 rfl ?_ rfl
  refine (show kV Z 4 344 [(0, .ref b), (1, kr Z 0), (2, kr Z 59), (3, .int (nI i))] [.int q2.1, .int q1.1] q2.2 from ?_)
  refine k_icmp_eq C 1342 dL_law_344 rfl rfl (fun _ => hk q2.2 hI) (fun h => absurd he h)
def sp_knot (Iv : kM → Prop) : Prop := ∀ st : kM, Iv st → ∀ (v1 : Int32), ∀ (v2 : Int32), ∃ (q1 q2 : Int32 × kM), fX5_knot v1 v2 st = some q1 ∧ fX6_knot v1 v2 q1.2 = some q2 ∧ q1.1 = q2.1 ∧ Iv q2.2
set_option maxRecDepth 100000 in
theorem lc_knot {Z : kZ} (C : kC Z cL_law RL 4 room_1) {b L : Nat} {xs : Nat → Int32} (hX : kScr Z b L xs) (hL : L ≤ 3072) {Iv : kM → Prop} (hs : sp_knot Iv) {i : Nat} (hi : i + 6 ≤ L) (hk : ∀ st : kM, Iv st → kV Z 4 1342 [(0, .ref b), (1, kr Z 0), (2, kr Z 59), (3, .int (nI i))] [] st) (st : kM) (hI : Iv st) : kV Z 4 349 [(0, .ref b), (1, kr Z 0), (2, kr Z 59), (3, .int (nI i))] [] st := by
  obtain ⟨q1, q2, h1, h2, he, hI⟩ := hs st hI (xs (i + 1)) (xs (i + 2))
  refine k_aload_n C 1 dL_law_349 rfl rfl rfl ?_
  refine k_aload_n C 0 dL_law_350 rfl rfl rfl ?_
  refine k_iload_n C 3 dL_law_351 rfl rfl rfl ?_
  refine k_iconst C (nI 1) dL_law_352 (by decide) rfl ?_
  refine k_iadd C dL_law_353 rfl ?_
  rw [nI_off]
  refine k_sld (j := i + 1) C hX (vp_in_nI (by omega) (by omega)) (nI_clamp (by omega)) dL_law_354 rfl ?_
  refine k_aload_n C 0 dL_law_355 rfl rfl rfl ?_
  refine k_iload_n C 3 dL_law_356 rfl rfl rfl ?_
  refine k_iconst C (nI 2) dL_law_357 (by decide) rfl ?_
  refine k_iadd C dL_law_358 rfl ?_
  rw [nI_off]
  refine k_sld (j := i + 2) C hX (vp_in_nI (by omega) (by omega)) (nI_clamp (by omega)) dL_law_359 rfl ?_
  refine k_callV C [.int (xs (i + 1)), .int (xs (i + 2))] (mX5_knot h1) rfl (by decide) rfl kw_2_41 kw_2_42 kw_2_43 kw_1_1 kw_2_44 qX5_knot rfl ⟨by decide, by decide⟩ ⟨rfl, rfl⟩ (Nat.le_of_ble_eq_true rfl) dL_law_360 rfl ?_ rfl
  refine (show kV Z 4 363 [(0, .ref b), (1, kr Z 0), (2, kr Z 59), (3, .int (nI i))] [.int q1.1] q1.2 from ?_)
  refine k_aload_n C 2 dL_law_363 rfl rfl rfl ?_
  refine k_aload_n C 0 dL_law_364 rfl rfl rfl ?_
  refine k_iload_n C 3 dL_law_365 rfl rfl rfl ?_
  refine k_iconst C (nI 1) dL_law_366 (by decide) rfl ?_
  refine k_iadd C dL_law_367 rfl ?_
  rw [nI_off]
  refine k_sld (j := i + 1) C hX (vp_in_nI (by omega) (by omega)) (nI_clamp (by omega)) dL_law_368 rfl ?_
  refine k_aload_n C 0 dL_law_369 rfl rfl rfl ?_
  refine k_iload_n C 3 dL_law_370 rfl rfl rfl ?_
  refine k_iconst C (nI 2) dL_law_371 (by decide) rfl ?_
  refine k_iadd C dL_law_372 rfl ?_
  rw [nI_off]
  refine k_sld (j := i + 2) C hX (vp_in_nI (by omega) (by omega)) (nI_clamp (by omega)) dL_law_373 rfl ?_
  refine k_callV C [.int (xs (i + 1)), .int (xs (i + 2))] (mX6_knot h2) rfl (by decide) rfl kw_4_137 kw_4_138 kw_4_139 kw_1_7 kw_4_140 qX6_knot rfl ⟨by decide, by decide⟩ ⟨rfl, rfl⟩ (Nat.le_of_ble_eq_true rfl) dL_law_374 rfl ?_ rfl
  refine (show kV Z 4 377 [(0, .ref b), (1, kr Z 0), (2, kr Z 59), (3, .int (nI i))] [.int q2.1, .int q1.1] q2.2 from ?_)
  refine k_icmp_eq C 1342 dL_law_377 rfl rfl (fun _ => hk q2.2 hI) (fun h => absurd he h)
def sp_of (Iv : kM → Prop) : Prop := ∀ st : kM, Iv st → ∀ (v1 : Int32), ∀ (v2 : Int32), ∃ (q1 q2 : Int32 × kM), fX5_of v1 v2 st = some q1 ∧ fX6_of v1 v2 q1.2 = some q2 ∧ q1.1 = q2.1 ∧ Iv q2.2
set_option maxRecDepth 100000 in
theorem lc_of {Z : kZ} (C : kC Z cL_law RL 4 room_1) {b L : Nat} {xs : Nat → Int32} (hX : kScr Z b L xs) (hL : L ≤ 3072) {Iv : kM → Prop} (hs : sp_of Iv) {i : Nat} (hi : i + 6 ≤ L) (hk : ∀ st : kM, Iv st → kV Z 4 1342 [(0, .ref b), (1, kr Z 0), (2, kr Z 59), (3, .int (nI i))] [] st) (st : kM) (hI : Iv st) : kV Z 4 382 [(0, .ref b), (1, kr Z 0), (2, kr Z 59), (3, .int (nI i))] [] st := by
  obtain ⟨q1, q2, h1, h2, he, hI⟩ := hs st hI (xs (i + 1)) (xs (i + 2))
  refine k_aload_n C 1 dL_law_382 rfl rfl rfl ?_
  refine k_aload_n C 0 dL_law_383 rfl rfl rfl ?_
  refine k_iload_n C 3 dL_law_384 rfl rfl rfl ?_
  refine k_iconst C (nI 1) dL_law_385 (by decide) rfl ?_
  refine k_iadd C dL_law_386 rfl ?_
  rw [nI_off]
  refine k_sld (j := i + 1) C hX (vp_in_nI (by omega) (by omega)) (nI_clamp (by omega)) dL_law_387 rfl ?_
  refine k_aload_n C 0 dL_law_388 rfl rfl rfl ?_
  refine k_iload_n C 3 dL_law_389 rfl rfl rfl ?_
  refine k_iconst C (nI 2) dL_law_390 (by decide) rfl ?_
  refine k_iadd C dL_law_391 rfl ?_
  rw [nI_off]
  refine k_sld (j := i + 2) C hX (vp_in_nI (by omega) (by omega)) (nI_clamp (by omega)) dL_law_392 rfl ?_
  refine k_callV C [.int (xs (i + 1)), .int (xs (i + 2))] (mX5_of h1) rfl (by decide) rfl kw_2_61 kw_2_62 kw_2_63 kw_1_1 kw_2_64 qX5_of rfl ⟨by decide, by decide⟩ ⟨rfl, rfl⟩ (Nat.le_of_ble_eq_true rfl) dL_law_393 rfl ?_ rfl
  refine (show kV Z 4 396 [(0, .ref b), (1, kr Z 0), (2, kr Z 59), (3, .int (nI i))] [.int q1.1] q1.2 from ?_)
  refine k_aload_n C 2 dL_law_396 rfl rfl rfl ?_
  refine k_aload_n C 0 dL_law_397 rfl rfl rfl ?_
  refine k_iload_n C 3 dL_law_398 rfl rfl rfl ?_
  refine k_iconst C (nI 1) dL_law_399 (by decide) rfl ?_
  refine k_iadd C dL_law_400 rfl ?_
  rw [nI_off]
  refine k_sld (j := i + 1) C hX (vp_in_nI (by omega) (by omega)) (nI_clamp (by omega)) dL_law_401 rfl ?_
  refine k_aload_n C 0 dL_law_402 rfl rfl rfl ?_
  refine k_iload_n C 3 dL_law_403 rfl rfl rfl ?_
  refine k_iconst C (nI 2) dL_law_404 (by decide) rfl ?_
  refine k_iadd C dL_law_405 rfl ?_
  rw [nI_off]
  refine k_sld (j := i + 2) C hX (vp_in_nI (by omega) (by omega)) (nI_clamp (by omega)) dL_law_406 rfl ?_
  refine k_callV C [.int (xs (i + 1)), .int (xs (i + 2))] (mX6_of h2) rfl (by decide) rfl kw_4_153 kw_4_154 kw_4_155 kw_1_7 kw_4_156 qX6_of rfl ⟨by decide, by decide⟩ ⟨rfl, rfl⟩ (Nat.le_of_ble_eq_true rfl) dL_law_407 rfl ?_ rfl
  refine (show kV Z 4 410 [(0, .ref b), (1, kr Z 0), (2, kr Z 59), (3, .int (nI i))] [.int q2.1, .int q1.1] q2.2 from ?_)
  refine k_icmp_eq C 1342 dL_law_410 rfl rfl (fun _ => hk q2.2 hI) (fun h => absurd he h)
def sp_set (Iv : kM → Prop) : Prop := ∀ st : kM, Iv st → ∀ (v1 : Int32), ∀ (v2 : Int32), ∀ (v3 : Int32), ∃ (q1 q2 : Int32 × kM), fX5_set v1 v2 v3 st = some q1 ∧ fX6_set v1 v2 v3 q1.2 = some q2 ∧ q1.1 = q2.1 ∧ Iv q2.2
set_option maxRecDepth 100000 in
theorem lc_set {Z : kZ} (C : kC Z cL_law RL 4 room_1) {b L : Nat} {xs : Nat → Int32} (hX : kScr Z b L xs) (hL : L ≤ 3072) {Iv : kM → Prop} (hs : sp_set Iv) {i : Nat} (hi : i + 6 ≤ L) (hk : ∀ st : kM, Iv st → kV Z 4 1342 [(0, .ref b), (1, kr Z 0), (2, kr Z 59), (3, .int (nI i))] [] st) (st : kM) (hI : Iv st) : kV Z 4 415 [(0, .ref b), (1, kr Z 0), (2, kr Z 59), (3, .int (nI i))] [] st := by
  obtain ⟨q1, q2, h1, h2, he, hI⟩ := hs st hI (xs (i + 1)) (xs (i + 2)) (xs (i + 3))
  refine k_aload_n C 1 dL_law_415 rfl rfl rfl ?_
  refine k_aload_n C 0 dL_law_416 rfl rfl rfl ?_
  refine k_iload_n C 3 dL_law_417 rfl rfl rfl ?_
  refine k_iconst C (nI 1) dL_law_418 (by decide) rfl ?_
  refine k_iadd C dL_law_419 rfl ?_
  rw [nI_off]
  refine k_sld (j := i + 1) C hX (vp_in_nI (by omega) (by omega)) (nI_clamp (by omega)) dL_law_420 rfl ?_
  refine k_aload_n C 0 dL_law_421 rfl rfl rfl ?_
  refine k_iload_n C 3 dL_law_422 rfl rfl rfl ?_
  refine k_iconst C (nI 2) dL_law_423 (by decide) rfl ?_
  refine k_iadd C dL_law_424 rfl ?_
  rw [nI_off]
  refine k_sld (j := i + 2) C hX (vp_in_nI (by omega) (by omega)) (nI_clamp (by omega)) dL_law_425 rfl ?_
  refine k_aload_n C 0 dL_law_426 rfl rfl rfl ?_
  refine k_iload_n C 3 dL_law_427 rfl rfl rfl ?_
  refine k_iconst C (nI 3) dL_law_428 (by decide) rfl ?_
  refine k_iadd C dL_law_429 rfl ?_
  rw [nI_off]
  refine k_sld (j := i + 3) C hX (vp_in_nI (by omega) (by omega)) (nI_clamp (by omega)) dL_law_430 rfl ?_
  refine k_callV C [.int (xs (i + 1)), .int (xs (i + 2)), .int (xs (i + 3))] (mX5_set h1) rfl (by decide) rfl kw_2_86 kw_2_87 kw_2_88 kw_1_1 kw_2_89 qX5_set rfl ⟨by decide, by decide⟩ ⟨rfl, rfl⟩ (Nat.le_of_ble_eq_true rfl) dL_law_431 rfl ?_ rfl
  refine (show kV Z 4 434 [(0, .ref b), (1, kr Z 0), (2, kr Z 59), (3, .int (nI i))] [.int q1.1] q1.2 from ?_)
  refine k_aload_n C 2 dL_law_434 rfl rfl rfl ?_
  refine k_aload_n C 0 dL_law_435 rfl rfl rfl ?_
  refine k_iload_n C 3 dL_law_436 rfl rfl rfl ?_
  refine k_iconst C (nI 1) dL_law_437 (by decide) rfl ?_
  refine k_iadd C dL_law_438 rfl ?_
  rw [nI_off]
  refine k_sld (j := i + 1) C hX (vp_in_nI (by omega) (by omega)) (nI_clamp (by omega)) dL_law_439 rfl ?_
  refine k_aload_n C 0 dL_law_440 rfl rfl rfl ?_
  refine k_iload_n C 3 dL_law_441 rfl rfl rfl ?_
  refine k_iconst C (nI 2) dL_law_442 (by decide) rfl ?_
  refine k_iadd C dL_law_443 rfl ?_
  rw [nI_off]
  refine k_sld (j := i + 2) C hX (vp_in_nI (by omega) (by omega)) (nI_clamp (by omega)) dL_law_444 rfl ?_
  refine k_aload_n C 0 dL_law_445 rfl rfl rfl ?_
  refine k_iload_n C 3 dL_law_446 rfl rfl rfl ?_
  refine k_iconst C (nI 3) dL_law_447 (by decide) rfl ?_
  refine k_iadd C dL_law_448 rfl ?_
  rw [nI_off]
  refine k_sld (j := i + 3) C hX (vp_in_nI (by omega) (by omega)) (nI_clamp (by omega)) dL_law_449 rfl ?_
  refine k_callV C [.int (xs (i + 1)), .int (xs (i + 2)), .int (xs (i + 3))] (mX6_set h2) rfl (by decide) rfl kw_4_173 kw_4_174 kw_4_175 kw_1_7 kw_4_176 qX6_set rfl ⟨by decide, by decide⟩ ⟨rfl, rfl⟩ (Nat.le_of_ble_eq_true rfl) dL_law_450 rfl ?_ rfl
  refine (show kV Z 4 453 [(0, .ref b), (1, kr Z 0), (2, kr Z 59), (3, .int (nI i))] [.int q2.1, .int q1.1] q2.2 from ?_)
  refine k_icmp_eq C 1342 dL_law_453 rfl rfl (fun _ => hk q2.2 hI) (fun h => absurd he h)
def sp_turn (Iv : kM → Prop) : Prop := ∀ st : kM, Iv st → ∀ (v1 : Int32), ∀ (v2 : Int32), ∃ (q1 q2 : Int32 × kM), fX5_turn v1 v2 st = some q1 ∧ fX6_turn v1 v2 q1.2 = some q2 ∧ q1.1 = q2.1 ∧ Iv q2.2
set_option maxRecDepth 100000 in
theorem lc_turn {Z : kZ} (C : kC Z cL_law RL 4 room_1) {b L : Nat} {xs : Nat → Int32} (hX : kScr Z b L xs) (hL : L ≤ 3072) {Iv : kM → Prop} (hs : sp_turn Iv) {i : Nat} (hi : i + 6 ≤ L) (hk : ∀ st : kM, Iv st → kV Z 4 1342 [(0, .ref b), (1, kr Z 0), (2, kr Z 59), (3, .int (nI i))] [] st) (st : kM) (hI : Iv st) : kV Z 4 458 [(0, .ref b), (1, kr Z 0), (2, kr Z 59), (3, .int (nI i))] [] st := by
  obtain ⟨q1, q2, h1, h2, he, hI⟩ := hs st hI (xs (i + 1)) (xs (i + 2))
  refine k_aload_n C 1 dL_law_458 rfl rfl rfl ?_
  refine k_aload_n C 0 dL_law_459 rfl rfl rfl ?_
  refine k_iload_n C 3 dL_law_460 rfl rfl rfl ?_
  refine k_iconst C (nI 1) dL_law_461 (by decide) rfl ?_
  refine k_iadd C dL_law_462 rfl ?_
  rw [nI_off]
  refine k_sld (j := i + 1) C hX (vp_in_nI (by omega) (by omega)) (nI_clamp (by omega)) dL_law_463 rfl ?_
  refine k_aload_n C 0 dL_law_464 rfl rfl rfl ?_
  refine k_iload_n C 3 dL_law_465 rfl rfl rfl ?_
  refine k_iconst C (nI 2) dL_law_466 (by decide) rfl ?_
  refine k_iadd C dL_law_467 rfl ?_
  rw [nI_off]
  refine k_sld (j := i + 2) C hX (vp_in_nI (by omega) (by omega)) (nI_clamp (by omega)) dL_law_468 rfl ?_
  refine k_callV C [.int (xs (i + 1)), .int (xs (i + 2))] (mX5_turn h1) rfl (by decide) rfl kw_2_90 kw_2_91 kw_2_92 kw_1_1 kw_2_93 qX5_turn rfl ⟨by decide, by decide⟩ ⟨rfl, rfl⟩ (Nat.le_of_ble_eq_true rfl) dL_law_469 rfl ?_ rfl
  refine (show kV Z 4 472 [(0, .ref b), (1, kr Z 0), (2, kr Z 59), (3, .int (nI i))] [.int q1.1] q1.2 from ?_)
  refine k_aload_n C 2 dL_law_472 rfl rfl rfl ?_
  refine k_aload_n C 0 dL_law_473 rfl rfl rfl ?_
  refine k_iload_n C 3 dL_law_474 rfl rfl rfl ?_
  refine k_iconst C (nI 1) dL_law_475 (by decide) rfl ?_
  refine k_iadd C dL_law_476 rfl ?_
  rw [nI_off]
  refine k_sld (j := i + 1) C hX (vp_in_nI (by omega) (by omega)) (nI_clamp (by omega)) dL_law_477 rfl ?_
  refine k_aload_n C 0 dL_law_478 rfl rfl rfl ?_
  refine k_iload_n C 3 dL_law_479 rfl rfl rfl ?_
  refine k_iconst C (nI 2) dL_law_480 (by decide) rfl ?_
  refine k_iadd C dL_law_481 rfl ?_
  rw [nI_off]
  refine k_sld (j := i + 2) C hX (vp_in_nI (by omega) (by omega)) (nI_clamp (by omega)) dL_law_482 rfl ?_
  refine k_callV C [.int (xs (i + 1)), .int (xs (i + 2))] (mX6_turn h2) rfl (by decide) rfl kw_4_180 kw_4_181 kw_4_182 kw_1_7 kw_4_183 qX6_turn rfl ⟨by decide, by decide⟩ ⟨rfl, rfl⟩ (Nat.le_of_ble_eq_true rfl) dL_law_483 rfl ?_ rfl
  refine (show kV Z 4 486 [(0, .ref b), (1, kr Z 0), (2, kr Z 59), (3, .int (nI i))] [.int q2.1, .int q1.1] q2.2 from ?_)
  refine k_icmp_eq C 1342 dL_law_486 rfl rfl (fun _ => hk q2.2 hI) (fun h => absurd he h)
def sp_as (Iv : kM → Prop) : Prop := ∀ st : kM, Iv st → ∀ (v1 : Int32), ∀ (v2 : Int32), ∃ (q1 q2 : Int32 × kM), fX5_as v1 v2 st = some q1 ∧ fX6_as v1 v2 q1.2 = some q2 ∧ q1.1 = q2.1 ∧ Iv q2.2
set_option maxRecDepth 100000 in
theorem lc_as {Z : kZ} (C : kC Z cL_law RL 4 room_1) {b L : Nat} {xs : Nat → Int32} (hX : kScr Z b L xs) (hL : L ≤ 3072) {Iv : kM → Prop} (hs : sp_as Iv) {i : Nat} (hi : i + 6 ≤ L) (hk : ∀ st : kM, Iv st → kV Z 4 1342 [(0, .ref b), (1, kr Z 0), (2, kr Z 59), (3, .int (nI i))] [] st) (st : kM) (hI : Iv st) : kV Z 4 491 [(0, .ref b), (1, kr Z 0), (2, kr Z 59), (3, .int (nI i))] [] st := by
  obtain ⟨q1, q2, h1, h2, he, hI⟩ := hs st hI (xs (i + 1)) (xs (i + 2))
  refine k_aload_n C 1 dL_law_491 rfl rfl rfl ?_
  refine k_aload_n C 0 dL_law_492 rfl rfl rfl ?_
  refine k_iload_n C 3 dL_law_493 rfl rfl rfl ?_
  refine k_iconst C (nI 1) dL_law_494 (by decide) rfl ?_
  refine k_iadd C dL_law_495 rfl ?_
  rw [nI_off]
  refine k_sld (j := i + 1) C hX (vp_in_nI (by omega) (by omega)) (nI_clamp (by omega)) dL_law_496 rfl ?_
  refine k_aload_n C 0 dL_law_497 rfl rfl rfl ?_
  refine k_iload_n C 3 dL_law_498 rfl rfl rfl ?_
  refine k_iconst C (nI 2) dL_law_499 (by decide) rfl ?_
  refine k_iadd C dL_law_500 rfl ?_
  rw [nI_off]
  refine k_sld (j := i + 2) C hX (vp_in_nI (by omega) (by omega)) (nI_clamp (by omega)) dL_law_501 rfl ?_
  refine k_callV C [.int (xs (i + 1)), .int (xs (i + 2))] (mX5_as h1) rfl (by decide) rfl kw_2_94 kw_2_95 kw_2_96 kw_1_1 kw_2_97 qX5_as rfl ⟨by decide, by decide⟩ ⟨rfl, rfl⟩ (Nat.le_of_ble_eq_true rfl) dL_law_502 rfl ?_ rfl
  refine (show kV Z 4 505 [(0, .ref b), (1, kr Z 0), (2, kr Z 59), (3, .int (nI i))] [.int q1.1] q1.2 from ?_)
  refine k_aload_n C 2 dL_law_505 rfl rfl rfl ?_
  refine k_aload_n C 0 dL_law_506 rfl rfl rfl ?_
  refine k_iload_n C 3 dL_law_507 rfl rfl rfl ?_
  refine k_iconst C (nI 1) dL_law_508 (by decide) rfl ?_
  refine k_iadd C dL_law_509 rfl ?_
  rw [nI_off]
  refine k_sld (j := i + 1) C hX (vp_in_nI (by omega) (by omega)) (nI_clamp (by omega)) dL_law_510 rfl ?_
  refine k_aload_n C 0 dL_law_511 rfl rfl rfl ?_
  refine k_iload_n C 3 dL_law_512 rfl rfl rfl ?_
  refine k_iconst C (nI 2) dL_law_513 (by decide) rfl ?_
  refine k_iadd C dL_law_514 rfl ?_
  rw [nI_off]
  refine k_sld (j := i + 2) C hX (vp_in_nI (by omega) (by omega)) (nI_clamp (by omega)) dL_law_515 rfl ?_
  refine k_callV C [.int (xs (i + 1)), .int (xs (i + 2))] (mX6_as h2) rfl (by decide) rfl kw_4_184 kw_4_185 kw_4_186 kw_1_7 kw_4_187 qX6_as rfl ⟨by decide, by decide⟩ ⟨rfl, rfl⟩ (Nat.le_of_ble_eq_true rfl) dL_law_516 rfl ?_ rfl
  refine (show kV Z 4 519 [(0, .ref b), (1, kr Z 0), (2, kr Z 59), (3, .int (nI i))] [.int q2.1, .int q1.1] q2.2 from ?_)
  refine k_icmp_eq C 1342 dL_law_519 rfl rfl (fun _ => hk q2.2 hI) (fun h => absurd he h)
def sp_tease (Iv : kM → Prop) : Prop := ∀ st : kM, Iv st → ∀ (v1 : Int32), ∃ (q1 q2 : Int32 × kM), fX5_tease v1 st = some q1 ∧ fX6_tease v1 q1.2 = some q2 ∧ q1.1 = q2.1 ∧ Iv q2.2
set_option maxRecDepth 100000 in
theorem lc_tease {Z : kZ} (C : kC Z cL_law RL 4 room_1) {b L : Nat} {xs : Nat → Int32} (hX : kScr Z b L xs) (hL : L ≤ 3072) {Iv : kM → Prop} (hs : sp_tease Iv) {i : Nat} (hi : i + 6 ≤ L) (hk : ∀ st : kM, Iv st → kV Z 4 1342 [(0, .ref b), (1, kr Z 0), (2, kr Z 59), (3, .int (nI i))] [] st) (st : kM) (hI : Iv st) : kV Z 4 524 [(0, .ref b), (1, kr Z 0), (2, kr Z 59), (3, .int (nI i))] [] st := by
  obtain ⟨q1, q2, h1, h2, he, hI⟩ := hs st hI (xs (i + 1))
  refine k_aload_n C 1 dL_law_524 rfl rfl rfl ?_
  refine k_aload_n C 0 dL_law_525 rfl rfl rfl ?_
  refine k_iload_n C 3 dL_law_526 rfl rfl rfl ?_
  refine k_iconst C (nI 1) dL_law_527 (by decide) rfl ?_
  refine k_iadd C dL_law_528 rfl ?_
  rw [nI_off]
  refine k_sld (j := i + 1) C hX (vp_in_nI (by omega) (by omega)) (nI_clamp (by omega)) dL_law_529 rfl ?_
  refine k_callV C [.int (xs (i + 1))] (mX5_tease h1) rfl (by decide) rfl kw_2_103 kw_2_104 kw_2_105 kw_1_1 kw_2_106 qX5_tease rfl ⟨by decide, by decide⟩ ⟨rfl, rfl⟩ (Nat.le_of_ble_eq_true rfl) dL_law_530 rfl ?_ rfl
  refine (show kV Z 4 533 [(0, .ref b), (1, kr Z 0), (2, kr Z 59), (3, .int (nI i))] [.int q1.1] q1.2 from ?_)
  refine k_aload_n C 2 dL_law_533 rfl rfl rfl ?_
  refine k_aload_n C 0 dL_law_534 rfl rfl rfl ?_
  refine k_iload_n C 3 dL_law_535 rfl rfl rfl ?_
  refine k_iconst C (nI 1) dL_law_536 (by decide) rfl ?_
  refine k_iadd C dL_law_537 rfl ?_
  rw [nI_off]
  refine k_sld (j := i + 1) C hX (vp_in_nI (by omega) (by omega)) (nI_clamp (by omega)) dL_law_538 rfl ?_
  refine k_callV C [.int (xs (i + 1))] (mX6_tease h2) rfl (by decide) rfl kw_4_189 kw_4_190 kw_4_191 kw_1_7 kw_4_192 qX6_tease rfl ⟨by decide, by decide⟩ ⟨rfl, rfl⟩ (Nat.le_of_ble_eq_true rfl) dL_law_539 rfl ?_ rfl
  refine (show kV Z 4 542 [(0, .ref b), (1, kr Z 0), (2, kr Z 59), (3, .int (nI i))] [.int q2.1, .int q1.1] q2.2 from ?_)
  refine k_icmp_eq C 1342 dL_law_542 rfl rfl (fun _ => hk q2.2 hI) (fun h => absurd he h)
def sp_tie (Iv : kM → Prop) : Prop := ∀ st : kM, Iv st → ∀ (v1 : Int32), ∃ (q1 q2 : Int32 × kM), fX5_tie v1 st = some q1 ∧ fX6_tie v1 q1.2 = some q2 ∧ q1.1 = q2.1 ∧ Iv q2.2
set_option maxRecDepth 100000 in
theorem lc_tie {Z : kZ} (C : kC Z cL_law RL 4 room_1) {b L : Nat} {xs : Nat → Int32} (hX : kScr Z b L xs) (hL : L ≤ 3072) {Iv : kM → Prop} (hs : sp_tie Iv) {i : Nat} (hi : i + 6 ≤ L) (hk : ∀ st : kM, Iv st → kV Z 4 1342 [(0, .ref b), (1, kr Z 0), (2, kr Z 59), (3, .int (nI i))] [] st) (st : kM) (hI : Iv st) : kV Z 4 547 [(0, .ref b), (1, kr Z 0), (2, kr Z 59), (3, .int (nI i))] [] st := by
  obtain ⟨q1, q2, h1, h2, he, hI⟩ := hs st hI (xs (i + 1))
  refine k_aload_n C 1 dL_law_547 rfl rfl rfl ?_
  refine k_aload_n C 0 dL_law_548 rfl rfl rfl ?_
  refine k_iload_n C 3 dL_law_549 rfl rfl rfl ?_
  refine k_iconst C (nI 1) dL_law_550 (by decide) rfl ?_
  refine k_iadd C dL_law_551 rfl ?_
  rw [nI_off]
  refine k_sld (j := i + 1) C hX (vp_in_nI (by omega) (by omega)) (nI_clamp (by omega)) dL_law_552 rfl ?_
  refine k_callV C [.int (xs (i + 1))] (mX5_tie h1) rfl (by decide) rfl kw_2_119 kw_2_120 kw_2_121 kw_1_1 kw_2_122 qX5_tie rfl ⟨by decide, by decide⟩ ⟨rfl, rfl⟩ (Nat.le_of_ble_eq_true rfl) dL_law_553 rfl ?_ rfl
  refine (show kV Z 4 556 [(0, .ref b), (1, kr Z 0), (2, kr Z 59), (3, .int (nI i))] [.int q1.1] q1.2 from ?_)
  refine k_aload_n C 2 dL_law_556 rfl rfl rfl ?_
  refine k_aload_n C 0 dL_law_557 rfl rfl rfl ?_
  refine k_iload_n C 3 dL_law_558 rfl rfl rfl ?_
  refine k_iconst C (nI 1) dL_law_559 (by decide) rfl ?_
  refine k_iadd C dL_law_560 rfl ?_
  rw [nI_off]
  refine k_sld (j := i + 1) C hX (vp_in_nI (by omega) (by omega)) (nI_clamp (by omega)) dL_law_561 rfl ?_
  refine k_callV C [.int (xs (i + 1))] (mX6_tie h2) rfl (by decide) rfl kw_4_197 kw_4_198 kw_4_199 kw_1_7 kw_4_200 qX6_tie rfl ⟨by decide, by decide⟩ ⟨rfl, rfl⟩ (Nat.le_of_ble_eq_true rfl) dL_law_562 rfl ?_ rfl
  refine (show kV Z 4 565 [(0, .ref b), (1, kr Z 0), (2, kr Z 59), (3, .int (nI i))] [.int q2.1, .int q1.1] q2.2 from ?_)
  refine k_icmp_eq C 1342 dL_law_565 rfl rfl (fun _ => hk q2.2 hI) (fun h => absurd he h)
def sp_cast (Iv : kM → Prop) : Prop := ∀ st : kM, Iv st → ∀ (v1 : Int32), ∃ (q1 q2 : Int32 × kM), fX5_cast v1 st = some q1 ∧ fX6_cast v1 q1.2 = some q2 ∧ q1.1 = q2.1 ∧ Iv q2.2
set_option maxRecDepth 100000 in
theorem lc_cast {Z : kZ} (C : kC Z cL_law RL 4 room_1) {b L : Nat} {xs : Nat → Int32} (hX : kScr Z b L xs) (hL : L ≤ 3072) {Iv : kM → Prop} (hs : sp_cast Iv) {i : Nat} (hi : i + 6 ≤ L) (hk : ∀ st : kM, Iv st → kV Z 4 1342 [(0, .ref b), (1, kr Z 0), (2, kr Z 59), (3, .int (nI i))] [] st) (st : kM) (hI : Iv st) : kV Z 4 570 [(0, .ref b), (1, kr Z 0), (2, kr Z 59), (3, .int (nI i))] [] st := by
  obtain ⟨q1, q2, h1, h2, he, hI⟩ := hs st hI (xs (i + 1))
  refine k_aload_n C 1 dL_law_570 rfl rfl rfl ?_
  refine k_aload_n C 0 dL_law_571 rfl rfl rfl ?_
  refine k_iload_n C 3 dL_law_572 rfl rfl rfl ?_
  refine k_iconst C (nI 1) dL_law_573 (by decide) rfl ?_
  refine k_iadd C dL_law_574 rfl ?_
  rw [nI_off]
  refine k_sld (j := i + 1) C hX (vp_in_nI (by omega) (by omega)) (nI_clamp (by omega)) dL_law_575 rfl ?_
  refine k_callV C [.int (xs (i + 1))] (mX5_cast h1) rfl (by decide) rfl kw_2_124 kw_2_125 kw_2_126 kw_1_1 kw_2_127 qX5_cast rfl ⟨by decide, by decide⟩ ⟨rfl, rfl⟩ (Nat.le_of_ble_eq_true rfl) dL_law_576 rfl ?_ rfl
  refine (show kV Z 4 579 [(0, .ref b), (1, kr Z 0), (2, kr Z 59), (3, .int (nI i))] [.int q1.1] q1.2 from ?_)
  refine k_aload_n C 2 dL_law_579 rfl rfl rfl ?_
  refine k_aload_n C 0 dL_law_580 rfl rfl rfl ?_
  refine k_iload_n C 3 dL_law_581 rfl rfl rfl ?_
  refine k_iconst C (nI 1) dL_law_582 (by decide) rfl ?_
  refine k_iadd C dL_law_583 rfl ?_
  rw [nI_off]
  refine k_sld (j := i + 1) C hX (vp_in_nI (by omega) (by omega)) (nI_clamp (by omega)) dL_law_584 rfl ?_
  refine k_callV C [.int (xs (i + 1))] (mX6_cast h2) rfl (by decide) rfl kw_4_202 kw_4_203 kw_4_204 kw_1_7 kw_4_205 qX6_cast rfl ⟨by decide, by decide⟩ ⟨rfl, rfl⟩ (Nat.le_of_ble_eq_true rfl) dL_law_585 rfl ?_ rfl
  refine (show kV Z 4 588 [(0, .ref b), (1, kr Z 0), (2, kr Z 59), (3, .int (nI i))] [.int q2.1, .int q1.1] q2.2 from ?_)
  refine k_icmp_eq C 1342 dL_law_588 rfl rfl (fun _ => hk q2.2 hI) (fun h => absurd he h)
def sp_hours (Iv : kM → Prop) : Prop := ∀ st : kM, Iv st → ∀ (v1 : Int32), ∃ (q1 q2 : Int32 × kM), fX5_hours v1 st = some q1 ∧ fX6_hours v1 q1.2 = some q2 ∧ q1.1 = q2.1 ∧ Iv q2.2
set_option maxRecDepth 100000 in
theorem lc_hours {Z : kZ} (C : kC Z cL_law RL 4 room_1) {b L : Nat} {xs : Nat → Int32} (hX : kScr Z b L xs) (hL : L ≤ 3072) {Iv : kM → Prop} (hs : sp_hours Iv) {i : Nat} (hi : i + 6 ≤ L) (hk : ∀ st : kM, Iv st → kV Z 4 1342 [(0, .ref b), (1, kr Z 0), (2, kr Z 59), (3, .int (nI i))] [] st) (st : kM) (hI : Iv st) : kV Z 4 593 [(0, .ref b), (1, kr Z 0), (2, kr Z 59), (3, .int (nI i))] [] st := by
  obtain ⟨q1, q2, h1, h2, he, hI⟩ := hs st hI (xs (i + 1))
  refine k_aload_n C 1 dL_law_593 rfl rfl rfl ?_
  refine k_aload_n C 0 dL_law_594 rfl rfl rfl ?_
  refine k_iload_n C 3 dL_law_595 rfl rfl rfl ?_
  refine k_iconst C (nI 1) dL_law_596 (by decide) rfl ?_
  refine k_iadd C dL_law_597 rfl ?_
  rw [nI_off]
  refine k_sld (j := i + 1) C hX (vp_in_nI (by omega) (by omega)) (nI_clamp (by omega)) dL_law_598 rfl ?_
  refine k_callV C [.int (xs (i + 1))] (mX5_hours h1) rfl (by decide) rfl kw_2_128 kw_2_129 kw_2_130 kw_1_1 kw_2_131 qX5_hours rfl ⟨by decide, by decide⟩ ⟨rfl, rfl⟩ (Nat.le_of_ble_eq_true rfl) dL_law_599 rfl ?_ rfl
  refine (show kV Z 4 602 [(0, .ref b), (1, kr Z 0), (2, kr Z 59), (3, .int (nI i))] [.int q1.1] q1.2 from ?_)
  refine k_aload_n C 2 dL_law_602 rfl rfl rfl ?_
  refine k_aload_n C 0 dL_law_603 rfl rfl rfl ?_
  refine k_iload_n C 3 dL_law_604 rfl rfl rfl ?_
  refine k_iconst C (nI 1) dL_law_605 (by decide) rfl ?_
  refine k_iadd C dL_law_606 rfl ?_
  rw [nI_off]
  refine k_sld (j := i + 1) C hX (vp_in_nI (by omega) (by omega)) (nI_clamp (by omega)) dL_law_607 rfl ?_
  refine k_callV C [.int (xs (i + 1))] (mX6_hours h2) rfl (by decide) rfl kw_4_206 kw_4_207 kw_4_208 kw_1_7 kw_4_209 qX6_hours rfl ⟨by decide, by decide⟩ ⟨rfl, rfl⟩ (Nat.le_of_ble_eq_true rfl) dL_law_608 rfl ?_ rfl
  refine (show kV Z 4 611 [(0, .ref b), (1, kr Z 0), (2, kr Z 59), (3, .int (nI i))] [.int q2.1, .int q1.1] q2.2 from ?_)
  refine k_icmp_eq C 1342 dL_law_611 rfl rfl (fun _ => hk q2.2 hI) (fun h => absurd he h)
def sp_on (Iv : kM → Prop) : Prop := ∀ st : kM, Iv st → ∀ (v1 : Int32), ∀ (v2 : Int32), ∀ (v3 : Int32), ∃ (q1 q2 : Int32 × kM), fX5_on v1 v2 v3 st = some q1 ∧ fX6_on v1 v2 v3 q1.2 = some q2 ∧ q1.1 = q2.1 ∧ Iv q2.2
set_option maxRecDepth 100000 in
theorem lc_on {Z : kZ} (C : kC Z cL_law RL 4 room_1) {b L : Nat} {xs : Nat → Int32} (hX : kScr Z b L xs) (hL : L ≤ 3072) {Iv : kM → Prop} (hs : sp_on Iv) {i : Nat} (hi : i + 6 ≤ L) (hk : ∀ st : kM, Iv st → kV Z 4 1342 [(0, .ref b), (1, kr Z 0), (2, kr Z 59), (3, .int (nI i))] [] st) (st : kM) (hI : Iv st) : kV Z 4 616 [(0, .ref b), (1, kr Z 0), (2, kr Z 59), (3, .int (nI i))] [] st := by
  obtain ⟨q1, q2, h1, h2, he, hI⟩ := hs st hI (xs (i + 1)) (xs (i + 2)) (xs (i + 3))
  refine k_aload_n C 1 dL_law_616 rfl rfl rfl ?_
  refine k_aload_n C 0 dL_law_617 rfl rfl rfl ?_
  refine k_iload_n C 3 dL_law_618 rfl rfl rfl ?_
  refine k_iconst C (nI 1) dL_law_619 (by decide) rfl ?_
  refine k_iadd C dL_law_620 rfl ?_
  rw [nI_off]
  refine k_sld (j := i + 1) C hX (vp_in_nI (by omega) (by omega)) (nI_clamp (by omega)) dL_law_621 rfl ?_
  refine k_aload_n C 0 dL_law_622 rfl rfl rfl ?_
  refine k_iload_n C 3 dL_law_623 rfl rfl rfl ?_
  refine k_iconst C (nI 2) dL_law_624 (by decide) rfl ?_
  refine k_iadd C dL_law_625 rfl ?_
  rw [nI_off]
  refine k_sld (j := i + 2) C hX (vp_in_nI (by omega) (by omega)) (nI_clamp (by omega)) dL_law_626 rfl ?_
  refine k_aload_n C 0 dL_law_627 rfl rfl rfl ?_
  refine k_iload_n C 3 dL_law_628 rfl rfl rfl ?_
  refine k_iconst C (nI 3) dL_law_629 (by decide) rfl ?_
  refine k_iadd C dL_law_630 rfl ?_
  rw [nI_off]
  refine k_sld (j := i + 3) C hX (vp_in_nI (by omega) (by omega)) (nI_clamp (by omega)) dL_law_631 rfl ?_
  refine k_callV C [.int (xs (i + 1)), .int (xs (i + 2)), .int (xs (i + 3))] (mX5_on h1) rfl (by decide) rfl kw_2_160 kw_2_161 kw_2_162 kw_1_1 kw_2_163 qX5_on rfl ⟨by decide, by decide⟩ ⟨rfl, rfl⟩ (Nat.le_of_ble_eq_true rfl) dL_law_632 rfl ?_ rfl
  refine (show kV Z 4 635 [(0, .ref b), (1, kr Z 0), (2, kr Z 59), (3, .int (nI i))] [.int q1.1] q1.2 from ?_)
  refine k_aload_n C 2 dL_law_635 rfl rfl rfl ?_
  refine k_aload_n C 0 dL_law_636 rfl rfl rfl ?_
  refine k_iload_n C 3 dL_law_637 rfl rfl rfl ?_
  refine k_iconst C (nI 1) dL_law_638 (by decide) rfl ?_
  refine k_iadd C dL_law_639 rfl ?_
  rw [nI_off]
  refine k_sld (j := i + 1) C hX (vp_in_nI (by omega) (by omega)) (nI_clamp (by omega)) dL_law_640 rfl ?_
  refine k_aload_n C 0 dL_law_641 rfl rfl rfl ?_
  refine k_iload_n C 3 dL_law_642 rfl rfl rfl ?_
  refine k_iconst C (nI 2) dL_law_643 (by decide) rfl ?_
  refine k_iadd C dL_law_644 rfl ?_
  rw [nI_off]
  refine k_sld (j := i + 2) C hX (vp_in_nI (by omega) (by omega)) (nI_clamp (by omega)) dL_law_645 rfl ?_
  refine k_aload_n C 0 dL_law_646 rfl rfl rfl ?_
  refine k_iload_n C 3 dL_law_647 rfl rfl rfl ?_
  refine k_iconst C (nI 3) dL_law_648 (by decide) rfl ?_
  refine k_iadd C dL_law_649 rfl ?_
  rw [nI_off]
  refine k_sld (j := i + 3) C hX (vp_in_nI (by omega) (by omega)) (nI_clamp (by omega)) dL_law_650 rfl ?_
  refine k_callV C [.int (xs (i + 1)), .int (xs (i + 2)), .int (xs (i + 3))] (mX6_on h2) rfl (by decide) rfl kw_4_223 kw_4_224 kw_4_225 kw_1_7 kw_4_226 qX6_on rfl ⟨by decide, by decide⟩ ⟨rfl, rfl⟩ (Nat.le_of_ble_eq_true rfl) dL_law_651 rfl ?_ rfl
  refine (show kV Z 4 654 [(0, .ref b), (1, kr Z 0), (2, kr Z 59), (3, .int (nI i))] [.int q2.1, .int q1.1] q2.2 from ?_)
  refine k_icmp_eq C 1342 dL_law_654 rfl rfl (fun _ => hk q2.2 hI) (fun h => absurd he h)
def sp_then (Iv : kM → Prop) : Prop := ∀ st : kM, Iv st → ∀ (v1 : Int32), ∀ (v2 : Int32), ∃ (q1 q2 : Int32 × kM), fX5_then v1 v2 st = some q1 ∧ fX6_then v1 v2 q1.2 = some q2 ∧ q1.1 = q2.1 ∧ Iv q2.2
set_option maxRecDepth 100000 in
theorem lc_then {Z : kZ} (C : kC Z cL_law RL 4 room_1) {b L : Nat} {xs : Nat → Int32} (hX : kScr Z b L xs) (hL : L ≤ 3072) {Iv : kM → Prop} (hs : sp_then Iv) {i : Nat} (hi : i + 6 ≤ L) (hk : ∀ st : kM, Iv st → kV Z 4 1342 [(0, .ref b), (1, kr Z 0), (2, kr Z 59), (3, .int (nI i))] [] st) (st : kM) (hI : Iv st) : kV Z 4 659 [(0, .ref b), (1, kr Z 0), (2, kr Z 59), (3, .int (nI i))] [] st := by
  obtain ⟨q1, q2, h1, h2, he, hI⟩ := hs st hI (xs (i + 1)) (xs (i + 2))
  refine k_aload_n C 1 dL_law_659 rfl rfl rfl ?_
  refine k_aload_n C 0 dL_law_660 rfl rfl rfl ?_
  refine k_iload_n C 3 dL_law_661 rfl rfl rfl ?_
  refine k_iconst C (nI 1) dL_law_662 (by decide) rfl ?_
  refine k_iadd C dL_law_663 rfl ?_
  rw [nI_off]
  refine k_sld (j := i + 1) C hX (vp_in_nI (by omega) (by omega)) (nI_clamp (by omega)) dL_law_664 rfl ?_
  refine k_aload_n C 0 dL_law_665 rfl rfl rfl ?_
  refine k_iload_n C 3 dL_law_666 rfl rfl rfl ?_
  refine k_iconst C (nI 2) dL_law_667 (by decide) rfl ?_
  refine k_iadd C dL_law_668 rfl ?_
  rw [nI_off]
  refine k_sld (j := i + 2) C hX (vp_in_nI (by omega) (by omega)) (nI_clamp (by omega)) dL_law_669 rfl ?_
  refine k_callV C [.int (xs (i + 1)), .int (xs (i + 2))] (mX5_then h1) rfl (by decide) rfl kw_2_175 kw_2_176 kw_2_177 kw_1_1 kw_2_178 qX5_then rfl ⟨by decide, by decide⟩ ⟨rfl, rfl⟩ (Nat.le_of_ble_eq_true rfl) dL_law_670 rfl ?_ rfl
  refine (show kV Z 4 673 [(0, .ref b), (1, kr Z 0), (2, kr Z 59), (3, .int (nI i))] [.int q1.1] q1.2 from ?_)
  refine k_aload_n C 2 dL_law_673 rfl rfl rfl ?_
  refine k_aload_n C 0 dL_law_674 rfl rfl rfl ?_
  refine k_iload_n C 3 dL_law_675 rfl rfl rfl ?_
  refine k_iconst C (nI 1) dL_law_676 (by decide) rfl ?_
  refine k_iadd C dL_law_677 rfl ?_
  rw [nI_off]
  refine k_sld (j := i + 1) C hX (vp_in_nI (by omega) (by omega)) (nI_clamp (by omega)) dL_law_678 rfl ?_
  refine k_aload_n C 0 dL_law_679 rfl rfl rfl ?_
  refine k_iload_n C 3 dL_law_680 rfl rfl rfl ?_
  refine k_iconst C (nI 2) dL_law_681 (by decide) rfl ?_
  refine k_iadd C dL_law_682 rfl ?_
  rw [nI_off]
  refine k_sld (j := i + 2) C hX (vp_in_nI (by omega) (by omega)) (nI_clamp (by omega)) dL_law_683 rfl ?_
  refine k_callV C [.int (xs (i + 1)), .int (xs (i + 2))] (mX6_then h2) rfl (by decide) rfl kw_4_231 kw_4_232 kw_4_233 kw_1_7 kw_4_234 qX6_then rfl ⟨by decide, by decide⟩ ⟨rfl, rfl⟩ (Nat.le_of_ble_eq_true rfl) dL_law_684 rfl ?_ rfl
  refine (show kV Z 4 687 [(0, .ref b), (1, kr Z 0), (2, kr Z 59), (3, .int (nI i))] [.int q2.1, .int q1.1] q2.2 from ?_)
  refine k_icmp_eq C 1342 dL_law_687 rfl rfl (fun _ => hk q2.2 hI) (fun h => absurd he h)
def sp_falls (Iv : kM → Prop) : Prop := ∀ st : kM, Iv st → ∀ (v1 : Int32), ∃ (q1 q2 : Int32 × kM), fX5_falls v1 st = some q1 ∧ fX6_falls v1 q1.2 = some q2 ∧ q1.1 = q2.1 ∧ Iv q2.2
set_option maxRecDepth 100000 in
theorem lc_falls {Z : kZ} (C : kC Z cL_law RL 4 room_1) {b L : Nat} {xs : Nat → Int32} (hX : kScr Z b L xs) (hL : L ≤ 3072) {Iv : kM → Prop} (hs : sp_falls Iv) {i : Nat} (hi : i + 6 ≤ L) (hk : ∀ st : kM, Iv st → kV Z 4 1342 [(0, .ref b), (1, kr Z 0), (2, kr Z 59), (3, .int (nI i))] [] st) (st : kM) (hI : Iv st) : kV Z 4 692 [(0, .ref b), (1, kr Z 0), (2, kr Z 59), (3, .int (nI i))] [] st := by
  obtain ⟨q1, q2, h1, h2, he, hI⟩ := hs st hI (xs (i + 1))
  refine k_aload_n C 1 dL_law_692 rfl rfl rfl ?_
  refine k_aload_n C 0 dL_law_693 rfl rfl rfl ?_
  refine k_iload_n C 3 dL_law_694 rfl rfl rfl ?_
  refine k_iconst C (nI 1) dL_law_695 (by decide) rfl ?_
  refine k_iadd C dL_law_696 rfl ?_
  rw [nI_off]
  refine k_sld (j := i + 1) C hX (vp_in_nI (by omega) (by omega)) (nI_clamp (by omega)) dL_law_697 rfl ?_
  refine k_callV C [.int (xs (i + 1))] (mX5_falls h1) rfl (by decide) rfl kw_2_179 kw_2_180 kw_2_181 kw_1_1 kw_2_182 qX5_falls rfl ⟨by decide, by decide⟩ ⟨rfl, rfl⟩ (Nat.le_of_ble_eq_true rfl) dL_law_698 rfl ?_ rfl
  refine (show kV Z 4 701 [(0, .ref b), (1, kr Z 0), (2, kr Z 59), (3, .int (nI i))] [.int q1.1] q1.2 from ?_)
  refine k_aload_n C 2 dL_law_701 rfl rfl rfl ?_
  refine k_aload_n C 0 dL_law_702 rfl rfl rfl ?_
  refine k_iload_n C 3 dL_law_703 rfl rfl rfl ?_
  refine k_iconst C (nI 1) dL_law_704 (by decide) rfl ?_
  refine k_iadd C dL_law_705 rfl ?_
  rw [nI_off]
  refine k_sld (j := i + 1) C hX (vp_in_nI (by omega) (by omega)) (nI_clamp (by omega)) dL_law_706 rfl ?_
  refine k_callV C [.int (xs (i + 1))] (mX6_falls h2) rfl (by decide) rfl kw_4_235 kw_4_236 kw_4_237 kw_1_7 kw_4_238 qX6_falls rfl ⟨by decide, by decide⟩ ⟨rfl, rfl⟩ (Nat.le_of_ble_eq_true rfl) dL_law_707 rfl ?_ rfl
  refine (show kV Z 4 710 [(0, .ref b), (1, kr Z 0), (2, kr Z 59), (3, .int (nI i))] [.int q2.1, .int q1.1] q2.2 from ?_)
  refine k_icmp_eq C 1342 dL_law_710 rfl rfl (fun _ => hk q2.2 hI) (fun h => absurd he h)
def sp_gives (Iv : kM → Prop) : Prop := ∀ st : kM, Iv st → ∀ (v1 : Int32), ∃ (q1 q2 : Int32 × kM), fX5_gives v1 st = some q1 ∧ fX6_gives v1 q1.2 = some q2 ∧ q1.1 = q2.1 ∧ Iv q2.2
set_option maxRecDepth 100000 in
theorem lc_gives {Z : kZ} (C : kC Z cL_law RL 4 room_1) {b L : Nat} {xs : Nat → Int32} (hX : kScr Z b L xs) (hL : L ≤ 3072) {Iv : kM → Prop} (hs : sp_gives Iv) {i : Nat} (hi : i + 6 ≤ L) (hk : ∀ st : kM, Iv st → kV Z 4 1342 [(0, .ref b), (1, kr Z 0), (2, kr Z 59), (3, .int (nI i))] [] st) (st : kM) (hI : Iv st) : kV Z 4 715 [(0, .ref b), (1, kr Z 0), (2, kr Z 59), (3, .int (nI i))] [] st := by
  obtain ⟨q1, q2, h1, h2, he, hI⟩ := hs st hI (xs (i + 1))
  refine k_aload_n C 1 dL_law_715 rfl rfl rfl ?_
  refine k_aload_n C 0 dL_law_716 rfl rfl rfl ?_
  refine k_iload_n C 3 dL_law_717 rfl rfl rfl ?_
  refine k_iconst C (nI 1) dL_law_718 (by decide) rfl ?_
  refine k_iadd C dL_law_719 rfl ?_
  rw [nI_off]
  refine k_sld (j := i + 1) C hX (vp_in_nI (by omega) (by omega)) (nI_clamp (by omega)) dL_law_720 rfl ?_
  refine k_callV C [.int (xs (i + 1))] (mX5_gives h1) rfl (by decide) rfl kw_2_188 kw_2_189 kw_2_190 kw_1_1 kw_2_191 qX5_gives rfl ⟨by decide, by decide⟩ ⟨rfl, rfl⟩ (Nat.le_of_ble_eq_true rfl) dL_law_721 rfl ?_ rfl
  refine (show kV Z 4 724 [(0, .ref b), (1, kr Z 0), (2, kr Z 59), (3, .int (nI i))] [.int q1.1] q1.2 from ?_)
  refine k_aload_n C 2 dL_law_724 rfl rfl rfl ?_
  refine k_aload_n C 0 dL_law_725 rfl rfl rfl ?_
  refine k_iload_n C 3 dL_law_726 rfl rfl rfl ?_
  refine k_iconst C (nI 1) dL_law_727 (by decide) rfl ?_
  refine k_iadd C dL_law_728 rfl ?_
  rw [nI_off]
  refine k_sld (j := i + 1) C hX (vp_in_nI (by omega) (by omega)) (nI_clamp (by omega)) dL_law_729 rfl ?_
  refine k_callV C [.int (xs (i + 1))] (mX6_gives h2) rfl (by decide) rfl kw_5_4 kw_5_5 kw_5_6 kw_1_7 kw_5_7 qX6_gives rfl ⟨by decide, by decide⟩ ⟨rfl, rfl⟩ (Nat.le_of_ble_eq_true rfl) dL_law_730 rfl ?_ rfl
  refine (show kV Z 4 733 [(0, .ref b), (1, kr Z 0), (2, kr Z 59), (3, .int (nI i))] [.int q2.1, .int q1.1] q2.2 from ?_)
  refine k_icmp_eq C 1342 dL_law_733 rfl rfl (fun _ => hk q2.2 hI) (fun h => absurd he h)
def sp_best (Iv : kM → Prop) : Prop := ∀ st : kM, Iv st → ∀ (v1 : Int32), ∃ (q1 q2 : Int32 × kM), fX5_best v1 st = some q1 ∧ fX6_best v1 q1.2 = some q2 ∧ q1.1 = q2.1 ∧ Iv q2.2
set_option maxRecDepth 100000 in
theorem lc_best {Z : kZ} (C : kC Z cL_law RL 4 room_1) {b L : Nat} {xs : Nat → Int32} (hX : kScr Z b L xs) (hL : L ≤ 3072) {Iv : kM → Prop} (hs : sp_best Iv) {i : Nat} (hi : i + 6 ≤ L) (hk : ∀ st : kM, Iv st → kV Z 4 1342 [(0, .ref b), (1, kr Z 0), (2, kr Z 59), (3, .int (nI i))] [] st) (st : kM) (hI : Iv st) : kV Z 4 738 [(0, .ref b), (1, kr Z 0), (2, kr Z 59), (3, .int (nI i))] [] st := by
  obtain ⟨q1, q2, h1, h2, he, hI⟩ := hs st hI (xs (i + 1))
  refine k_aload_n C 1 dL_law_738 rfl rfl rfl ?_
  refine k_aload_n C 0 dL_law_739 rfl rfl rfl ?_
  refine k_iload_n C 3 dL_law_740 rfl rfl rfl ?_
  refine k_iconst C (nI 1) dL_law_741 (by decide) rfl ?_
  refine k_iadd C dL_law_742 rfl ?_
  rw [nI_off]
  refine k_sld (j := i + 1) C hX (vp_in_nI (by omega) (by omega)) (nI_clamp (by omega)) dL_law_743 rfl ?_
  refine k_callV C [.int (xs (i + 1))] (mX5_best h1) rfl (by decide) rfl kw_2_196 kw_2_197 kw_2_198 kw_1_1 kw_2_199 qX5_best rfl ⟨by decide, by decide⟩ ⟨rfl, rfl⟩ (Nat.le_of_ble_eq_true rfl) dL_law_744 rfl ?_ rfl
  refine (show kV Z 4 747 [(0, .ref b), (1, kr Z 0), (2, kr Z 59), (3, .int (nI i))] [.int q1.1] q1.2 from ?_)
  refine k_aload_n C 2 dL_law_747 rfl rfl rfl ?_
  refine k_aload_n C 0 dL_law_748 rfl rfl rfl ?_
  refine k_iload_n C 3 dL_law_749 rfl rfl rfl ?_
  refine k_iconst C (nI 1) dL_law_750 (by decide) rfl ?_
  refine k_iadd C dL_law_751 rfl ?_
  rw [nI_off]
  refine k_sld (j := i + 1) C hX (vp_in_nI (by omega) (by omega)) (nI_clamp (by omega)) dL_law_752 rfl ?_
  refine k_callV C [.int (xs (i + 1))] (mX6_best h2) rfl (by decide) rfl kw_5_8 kw_5_9 kw_5_10 kw_1_7 kw_5_11 qX6_best rfl ⟨by decide, by decide⟩ ⟨rfl, rfl⟩ (Nat.le_of_ble_eq_true rfl) dL_law_753 rfl ?_ rfl
  refine (show kV Z 4 756 [(0, .ref b), (1, kr Z 0), (2, kr Z 59), (3, .int (nI i))] [.int q2.1, .int q1.1] q2.2 from ?_)
  refine k_icmp_eq C 1342 dL_law_756 rfl rfl (fun _ => hk q2.2 hI) (fun h => absurd he h)
def sp_kind (Iv : kM → Prop) : Prop := ∀ st : kM, Iv st → ∀ (v1 : Int32), ∃ (q1 q2 : Int32 × kM), fX5_kind v1 st = some q1 ∧ fX6_kind v1 q1.2 = some q2 ∧ q1.1 = q2.1 ∧ Iv q2.2
set_option maxRecDepth 100000 in
theorem lc_kind {Z : kZ} (C : kC Z cL_law RL 4 room_1) {b L : Nat} {xs : Nat → Int32} (hX : kScr Z b L xs) (hL : L ≤ 3072) {Iv : kM → Prop} (hs : sp_kind Iv) {i : Nat} (hi : i + 6 ≤ L) (hk : ∀ st : kM, Iv st → kV Z 4 1342 [(0, .ref b), (1, kr Z 0), (2, kr Z 59), (3, .int (nI i))] [] st) (st : kM) (hI : Iv st) : kV Z 4 761 [(0, .ref b), (1, kr Z 0), (2, kr Z 59), (3, .int (nI i))] [] st := by
  obtain ⟨q1, q2, h1, h2, he, hI⟩ := hs st hI (xs (i + 1))
  refine k_aload_n C 1 dL_law_761 rfl rfl rfl ?_
  refine k_aload_n C 0 dL_law_762 rfl rfl rfl ?_
  refine k_iload_n C 3 dL_law_763 rfl rfl rfl ?_
  refine k_iconst C (nI 1) dL_law_764 (by decide) rfl ?_
  refine k_iadd C dL_law_765 rfl ?_
  rw [nI_off]
  refine k_sld (j := i + 1) C hX (vp_in_nI (by omega) (by omega)) (nI_clamp (by omega)) dL_law_766 rfl ?_
  refine k_callV C [.int (xs (i + 1))] (mX5_kind h1) rfl (by decide) rfl kw_2_200 kw_2_201 kw_2_202 kw_1_1 kw_2_203 qX5_kind rfl ⟨by decide, by decide⟩ ⟨rfl, rfl⟩ (Nat.le_of_ble_eq_true rfl) dL_law_767 rfl ?_ rfl
  refine (show kV Z 4 770 [(0, .ref b), (1, kr Z 0), (2, kr Z 59), (3, .int (nI i))] [.int q1.1] q1.2 from ?_)
  refine k_aload_n C 2 dL_law_770 rfl rfl rfl ?_
  refine k_aload_n C 0 dL_law_771 rfl rfl rfl ?_
  refine k_iload_n C 3 dL_law_772 rfl rfl rfl ?_
  refine k_iconst C (nI 1) dL_law_773 (by decide) rfl ?_
  refine k_iadd C dL_law_774 rfl ?_
  rw [nI_off]
  refine k_sld (j := i + 1) C hX (vp_in_nI (by omega) (by omega)) (nI_clamp (by omega)) dL_law_775 rfl ?_
  refine k_callV C [.int (xs (i + 1))] (mX6_kind h2) rfl (by decide) rfl kw_5_12 kw_5_13 kw_5_14 kw_1_7 kw_5_15 qX6_kind rfl ⟨by decide, by decide⟩ ⟨rfl, rfl⟩ (Nat.le_of_ble_eq_true rfl) dL_law_776 rfl ?_ rfl
  refine (show kV Z 4 779 [(0, .ref b), (1, kr Z 0), (2, kr Z 59), (3, .int (nI i))] [.int q2.1, .int q1.1] q2.2 from ?_)
  refine k_icmp_eq C 1342 dL_law_779 rfl rfl (fun _ => hk q2.2 hI) (fun h => absurd he h)
def sp_open (Iv : kM → Prop) : Prop := ∀ st : kM, Iv st → ∀ (v1 : Int32), ∀ (v2 : Int32), ∃ (q1 q2 : Int32 × kM), fX5_open v1 v2 st = some q1 ∧ fX6_open v1 v2 q1.2 = some q2 ∧ q1.1 = q2.1 ∧ Iv q2.2
set_option maxRecDepth 100000 in
theorem lc_open {Z : kZ} (C : kC Z cL_law RL 4 room_1) {b L : Nat} {xs : Nat → Int32} (hX : kScr Z b L xs) (hL : L ≤ 3072) {Iv : kM → Prop} (hs : sp_open Iv) {i : Nat} (hi : i + 6 ≤ L) (hk : ∀ st : kM, Iv st → kV Z 4 1342 [(0, .ref b), (1, kr Z 0), (2, kr Z 59), (3, .int (nI i))] [] st) (st : kM) (hI : Iv st) : kV Z 4 784 [(0, .ref b), (1, kr Z 0), (2, kr Z 59), (3, .int (nI i))] [] st := by
  obtain ⟨q1, q2, h1, h2, he, hI⟩ := hs st hI (xs (i + 1)) (xs (i + 2))
  refine k_aload_n C 1 dL_law_784 rfl rfl rfl ?_
  refine k_aload_n C 0 dL_law_785 rfl rfl rfl ?_
  refine k_iload_n C 3 dL_law_786 rfl rfl rfl ?_
  refine k_iconst C (nI 1) dL_law_787 (by decide) rfl ?_
  refine k_iadd C dL_law_788 rfl ?_
  rw [nI_off]
  refine k_sld (j := i + 1) C hX (vp_in_nI (by omega) (by omega)) (nI_clamp (by omega)) dL_law_789 rfl ?_
  refine k_aload_n C 0 dL_law_790 rfl rfl rfl ?_
  refine k_iload_n C 3 dL_law_791 rfl rfl rfl ?_
  refine k_iconst C (nI 2) dL_law_792 (by decide) rfl ?_
  refine k_iadd C dL_law_793 rfl ?_
  rw [nI_off]
  refine k_sld (j := i + 2) C hX (vp_in_nI (by omega) (by omega)) (nI_clamp (by omega)) dL_law_794 rfl ?_
  refine k_callV C [.int (xs (i + 1)), .int (xs (i + 2))] (mX5_open h1) rfl (by decide) rfl kw_2_204 kw_2_205 kw_2_206 kw_1_1 kw_2_207 qX5_open rfl ⟨by decide, by decide⟩ ⟨rfl, rfl⟩ (Nat.le_of_ble_eq_true rfl) dL_law_795 rfl ?_ rfl
  refine (show kV Z 4 798 [(0, .ref b), (1, kr Z 0), (2, kr Z 59), (3, .int (nI i))] [.int q1.1] q1.2 from ?_)
  refine k_aload_n C 2 dL_law_798 rfl rfl rfl ?_
  refine k_aload_n C 0 dL_law_799 rfl rfl rfl ?_
  refine k_iload_n C 3 dL_law_800 rfl rfl rfl ?_
  refine k_iconst C (nI 1) dL_law_801 (by decide) rfl ?_
  refine k_iadd C dL_law_802 rfl ?_
  rw [nI_off]
  refine k_sld (j := i + 1) C hX (vp_in_nI (by omega) (by omega)) (nI_clamp (by omega)) dL_law_803 rfl ?_
  refine k_aload_n C 0 dL_law_804 rfl rfl rfl ?_
  refine k_iload_n C 3 dL_law_805 rfl rfl rfl ?_
  refine k_iconst C (nI 2) dL_law_806 (by decide) rfl ?_
  refine k_iadd C dL_law_807 rfl ?_
  rw [nI_off]
  refine k_sld (j := i + 2) C hX (vp_in_nI (by omega) (by omega)) (nI_clamp (by omega)) dL_law_808 rfl ?_
  refine k_callV C [.int (xs (i + 1)), .int (xs (i + 2))] (mX6_open h2) rfl (by decide) rfl kw_5_16 kw_5_17 kw_5_18 kw_1_7 kw_5_19 qX6_open rfl ⟨by decide, by decide⟩ ⟨rfl, rfl⟩ (Nat.le_of_ble_eq_true rfl) dL_law_809 rfl ?_ rfl
  refine (show kV Z 4 812 [(0, .ref b), (1, kr Z 0), (2, kr Z 59), (3, .int (nI i))] [.int q2.1, .int q1.1] q2.2 from ?_)
  refine k_icmp_eq C 1342 dL_law_812 rfl rfl (fun _ => hk q2.2 hI) (fun h => absurd he h)
def sp_bears (Iv : kM → Prop) : Prop := ∀ st : kM, Iv st → ∀ (v1 : Int32), ∀ (v2 : Int32), ∃ (q1 q2 : Int32 × kM), fX5_bears v1 v2 st = some q1 ∧ fX6_bears v1 v2 q1.2 = some q2 ∧ q1.1 = q2.1 ∧ Iv q2.2
set_option maxRecDepth 100000 in
theorem lc_bears {Z : kZ} (C : kC Z cL_law RL 4 room_1) {b L : Nat} {xs : Nat → Int32} (hX : kScr Z b L xs) (hL : L ≤ 3072) {Iv : kM → Prop} (hs : sp_bears Iv) {i : Nat} (hi : i + 6 ≤ L) (hk : ∀ st : kM, Iv st → kV Z 4 1342 [(0, .ref b), (1, kr Z 0), (2, kr Z 59), (3, .int (nI i))] [] st) (st : kM) (hI : Iv st) : kV Z 4 817 [(0, .ref b), (1, kr Z 0), (2, kr Z 59), (3, .int (nI i))] [] st := by
  obtain ⟨q1, q2, h1, h2, he, hI⟩ := hs st hI (xs (i + 1)) (xs (i + 2))
  refine k_aload_n C 1 dL_law_817 rfl rfl rfl ?_
  refine k_aload_n C 0 dL_law_818 rfl rfl rfl ?_
  refine k_iload_n C 3 dL_law_819 rfl rfl rfl ?_
  refine k_iconst C (nI 1) dL_law_820 (by decide) rfl ?_
  refine k_iadd C dL_law_821 rfl ?_
  rw [nI_off]
  refine k_sld (j := i + 1) C hX (vp_in_nI (by omega) (by omega)) (nI_clamp (by omega)) dL_law_822 rfl ?_
  refine k_aload_n C 0 dL_law_823 rfl rfl rfl ?_
  refine k_iload_n C 3 dL_law_824 rfl rfl rfl ?_
  refine k_iconst C (nI 2) dL_law_825 (by decide) rfl ?_
  refine k_iadd C dL_law_826 rfl ?_
  rw [nI_off]
  refine k_sld (j := i + 2) C hX (vp_in_nI (by omega) (by omega)) (nI_clamp (by omega)) dL_law_827 rfl ?_
  refine k_callV C [.int (xs (i + 1)), .int (xs (i + 2))] (mX5_bears h1) rfl (by decide) rfl kw_2_212 kw_2_213 kw_2_214 kw_1_1 kw_2_215 qX5_bears rfl ⟨by decide, by decide⟩ ⟨rfl, rfl⟩ (Nat.le_of_ble_eq_true rfl) dL_law_828 rfl ?_ rfl
  refine (show kV Z 4 831 [(0, .ref b), (1, kr Z 0), (2, kr Z 59), (3, .int (nI i))] [.int q1.1] q1.2 from ?_)
  refine k_aload_n C 2 dL_law_831 rfl rfl rfl ?_
  refine k_aload_n C 0 dL_law_832 rfl rfl rfl ?_
  refine k_iload_n C 3 dL_law_833 rfl rfl rfl ?_
  refine k_iconst C (nI 1) dL_law_834 (by decide) rfl ?_
  refine k_iadd C dL_law_835 rfl ?_
  rw [nI_off]
  refine k_sld (j := i + 1) C hX (vp_in_nI (by omega) (by omega)) (nI_clamp (by omega)) dL_law_836 rfl ?_
  refine k_aload_n C 0 dL_law_837 rfl rfl rfl ?_
  refine k_iload_n C 3 dL_law_838 rfl rfl rfl ?_
  refine k_iconst C (nI 2) dL_law_839 (by decide) rfl ?_
  refine k_iadd C dL_law_840 rfl ?_
  rw [nI_off]
  refine k_sld (j := i + 2) C hX (vp_in_nI (by omega) (by omega)) (nI_clamp (by omega)) dL_law_841 rfl ?_
  refine k_callV C [.int (xs (i + 1)), .int (xs (i + 2))] (mX6_bears h2) rfl (by decide) rfl kw_5_24 kw_5_25 kw_5_26 kw_1_7 kw_5_27 qX6_bears rfl ⟨by decide, by decide⟩ ⟨rfl, rfl⟩ (Nat.le_of_ble_eq_true rfl) dL_law_842 rfl ?_ rfl
  refine (show kV Z 4 845 [(0, .ref b), (1, kr Z 0), (2, kr Z 59), (3, .int (nI i))] [.int q2.1, .int q1.1] q2.2 from ?_)
  refine k_icmp_eq C 1342 dL_law_845 rfl rfl (fun _ => hk q2.2 hI) (fun h => absurd he h)
def sp_move (Iv : kM → Prop) : Prop := ∀ st : kM, Iv st → ∀ (v1 : Int32), ∀ (v2 : Int32), ∃ (q1 q2 : Int32 × kM), fX5_move v1 v2 st = some q1 ∧ fX6_move v1 v2 q1.2 = some q2 ∧ q1.1 = q2.1 ∧ Iv q2.2
set_option maxRecDepth 100000 in
theorem lc_move {Z : kZ} (C : kC Z cL_law RL 4 room_1) {b L : Nat} {xs : Nat → Int32} (hX : kScr Z b L xs) (hL : L ≤ 3072) {Iv : kM → Prop} (hs : sp_move Iv) {i : Nat} (hi : i + 6 ≤ L) (hk : ∀ st : kM, Iv st → kV Z 4 1342 [(0, .ref b), (1, kr Z 0), (2, kr Z 59), (3, .int (nI i))] [] st) (st : kM) (hI : Iv st) : kV Z 4 850 [(0, .ref b), (1, kr Z 0), (2, kr Z 59), (3, .int (nI i))] [] st := by
  obtain ⟨q1, q2, h1, h2, he, hI⟩ := hs st hI (xs (i + 1)) (xs (i + 2))
  refine k_aload_n C 1 dL_law_850 rfl rfl rfl ?_
  refine k_aload_n C 0 dL_law_851 rfl rfl rfl ?_
  refine k_iload_n C 3 dL_law_852 rfl rfl rfl ?_
  refine k_iconst C (nI 1) dL_law_853 (by decide) rfl ?_
  refine k_iadd C dL_law_854 rfl ?_
  rw [nI_off]
  refine k_sld (j := i + 1) C hX (vp_in_nI (by omega) (by omega)) (nI_clamp (by omega)) dL_law_855 rfl ?_
  refine k_aload_n C 0 dL_law_856 rfl rfl rfl ?_
  refine k_iload_n C 3 dL_law_857 rfl rfl rfl ?_
  refine k_iconst C (nI 2) dL_law_858 (by decide) rfl ?_
  refine k_iadd C dL_law_859 rfl ?_
  rw [nI_off]
  refine k_sld (j := i + 2) C hX (vp_in_nI (by omega) (by omega)) (nI_clamp (by omega)) dL_law_860 rfl ?_
  refine k_callV C [.int (xs (i + 1)), .int (xs (i + 2))] (mX5_move h1) rfl (by decide) rfl kw_2_220 kw_2_221 kw_2_222 kw_1_1 kw_2_223 qX5_move rfl ⟨by decide, by decide⟩ ⟨rfl, rfl⟩ (Nat.le_of_ble_eq_true rfl) dL_law_861 rfl ?_ rfl
  refine (show kV Z 4 864 [(0, .ref b), (1, kr Z 0), (2, kr Z 59), (3, .int (nI i))] [.int q1.1] q1.2 from ?_)
  refine k_aload_n C 2 dL_law_864 rfl rfl rfl ?_
  refine k_aload_n C 0 dL_law_865 rfl rfl rfl ?_
  refine k_iload_n C 3 dL_law_866 rfl rfl rfl ?_
  refine k_iconst C (nI 1) dL_law_867 (by decide) rfl ?_
  refine k_iadd C dL_law_868 rfl ?_
  rw [nI_off]
  refine k_sld (j := i + 1) C hX (vp_in_nI (by omega) (by omega)) (nI_clamp (by omega)) dL_law_869 rfl ?_
  refine k_aload_n C 0 dL_law_870 rfl rfl rfl ?_
  refine k_iload_n C 3 dL_law_871 rfl rfl rfl ?_
  refine k_iconst C (nI 2) dL_law_872 (by decide) rfl ?_
  refine k_iadd C dL_law_873 rfl ?_
  rw [nI_off]
  refine k_sld (j := i + 2) C hX (vp_in_nI (by omega) (by omega)) (nI_clamp (by omega)) dL_law_874 rfl ?_
  refine k_callV C [.int (xs (i + 1)), .int (xs (i + 2))] (mX6_move h2) rfl (by decide) rfl kw_5_28 kw_5_29 kw_5_30 kw_1_7 kw_5_31 qX6_move rfl ⟨by decide, by decide⟩ ⟨rfl, rfl⟩ (Nat.le_of_ble_eq_true rfl) dL_law_875 rfl ?_ rfl
  refine (show kV Z 4 878 [(0, .ref b), (1, kr Z 0), (2, kr Z 59), (3, .int (nI i))] [.int q2.1, .int q1.1] q2.2 from ?_)
  refine k_icmp_eq C 1342 dL_law_878 rfl rfl (fun _ => hk q2.2 hI) (fun h => absurd he h)
def sp_calm (Iv : kM → Prop) : Prop := ∀ st : kM, Iv st → ∀ (v1 : Int32), ∃ (q1 q2 : Int32 × kM), fX5_calm v1 st = some q1 ∧ fX6_calm v1 q1.2 = some q2 ∧ q1.1 = q2.1 ∧ Iv q2.2
set_option maxRecDepth 100000 in
theorem lc_calm {Z : kZ} (C : kC Z cL_law RL 4 room_1) {b L : Nat} {xs : Nat → Int32} (hX : kScr Z b L xs) (hL : L ≤ 3072) {Iv : kM → Prop} (hs : sp_calm Iv) {i : Nat} (hi : i + 6 ≤ L) (hk : ∀ st : kM, Iv st → kV Z 4 1342 [(0, .ref b), (1, kr Z 0), (2, kr Z 59), (3, .int (nI i))] [] st) (st : kM) (hI : Iv st) : kV Z 4 883 [(0, .ref b), (1, kr Z 0), (2, kr Z 59), (3, .int (nI i))] [] st := by
  obtain ⟨q1, q2, h1, h2, he, hI⟩ := hs st hI (xs (i + 1))
  refine k_aload_n C 1 dL_law_883 rfl rfl rfl ?_
  refine k_aload_n C 0 dL_law_884 rfl rfl rfl ?_
  refine k_iload_n C 3 dL_law_885 rfl rfl rfl ?_
  refine k_iconst C (nI 1) dL_law_886 (by decide) rfl ?_
  refine k_iadd C dL_law_887 rfl ?_
  rw [nI_off]
  refine k_sld (j := i + 1) C hX (vp_in_nI (by omega) (by omega)) (nI_clamp (by omega)) dL_law_888 rfl ?_
  refine k_callV C [.int (xs (i + 1))] (mX5_calm h1) rfl (by decide) rfl kw_2_230 kw_2_231 kw_2_232 kw_1_1 kw_2_233 qX5_calm rfl ⟨by decide, by decide⟩ ⟨rfl, rfl⟩ (Nat.le_of_ble_eq_true rfl) dL_law_889 rfl ?_ rfl
  refine (show kV Z 4 892 [(0, .ref b), (1, kr Z 0), (2, kr Z 59), (3, .int (nI i))] [.int q1.1] q1.2 from ?_)
  refine k_aload_n C 2 dL_law_892 rfl rfl rfl ?_
  refine k_aload_n C 0 dL_law_893 rfl rfl rfl ?_
  refine k_iload_n C 3 dL_law_894 rfl rfl rfl ?_
  refine k_iconst C (nI 1) dL_law_895 (by decide) rfl ?_
  refine k_iadd C dL_law_896 rfl ?_
  rw [nI_off]
  refine k_sld (j := i + 1) C hX (vp_in_nI (by omega) (by omega)) (nI_clamp (by omega)) dL_law_897 rfl ?_
  refine k_callV C [.int (xs (i + 1))] (mX6_calm h2) rfl (by decide) rfl kw_5_32 kw_5_33 kw_5_34 kw_1_7 kw_5_35 qX6_calm rfl ⟨by decide, by decide⟩ ⟨rfl, rfl⟩ (Nat.le_of_ble_eq_true rfl) dL_law_898 rfl ?_ rfl
  refine (show kV Z 4 901 [(0, .ref b), (1, kr Z 0), (2, kr Z 59), (3, .int (nI i))] [.int q2.1, .int q1.1] q2.2 from ?_)
  refine k_icmp_eq C 1342 dL_law_901 rfl rfl (fun _ => hk q2.2 hI) (fun h => absurd he h)
def sp_firmest (Iv : kM → Prop) : Prop := ∀ st : kM, Iv st → ∀ (v1 : Int32), ∃ (q1 q2 : Int32 × kM), fX5_firmest v1 st = some q1 ∧ fX6_firmest v1 q1.2 = some q2 ∧ q1.1 = q2.1 ∧ Iv q2.2
set_option maxRecDepth 100000 in
theorem lc_firmest {Z : kZ} (C : kC Z cL_law RL 4 room_1) {b L : Nat} {xs : Nat → Int32} (hX : kScr Z b L xs) (hL : L ≤ 3072) {Iv : kM → Prop} (hs : sp_firmest Iv) {i : Nat} (hi : i + 6 ≤ L) (hk : ∀ st : kM, Iv st → kV Z 4 1342 [(0, .ref b), (1, kr Z 0), (2, kr Z 59), (3, .int (nI i))] [] st) (st : kM) (hI : Iv st) : kV Z 4 906 [(0, .ref b), (1, kr Z 0), (2, kr Z 59), (3, .int (nI i))] [] st := by
  obtain ⟨q1, q2, h1, h2, he, hI⟩ := hs st hI (xs (i + 1))
  refine k_aload_n C 1 dL_law_906 rfl rfl rfl ?_
  refine k_aload_n C 0 dL_law_907 rfl rfl rfl ?_
  refine k_iload_n C 3 dL_law_908 rfl rfl rfl ?_
  refine k_iconst C (nI 1) dL_law_909 (by decide) rfl ?_
  refine k_iadd C dL_law_910 rfl ?_
  rw [nI_off]
  refine k_sld (j := i + 1) C hX (vp_in_nI (by omega) (by omega)) (nI_clamp (by omega)) dL_law_911 rfl ?_
  refine k_callV C [.int (xs (i + 1))] (mX5_firmest h1) rfl (by decide) rfl kw_2_234 kw_2_235 kw_2_236 kw_1_1 kw_2_237 qX5_firmest rfl ⟨by decide, by decide⟩ ⟨rfl, rfl⟩ (Nat.le_of_ble_eq_true rfl) dL_law_912 rfl ?_ rfl
  refine (show kV Z 4 915 [(0, .ref b), (1, kr Z 0), (2, kr Z 59), (3, .int (nI i))] [.int q1.1] q1.2 from ?_)
  refine k_aload_n C 2 dL_law_915 rfl rfl rfl ?_
  refine k_aload_n C 0 dL_law_916 rfl rfl rfl ?_
  refine k_iload_n C 3 dL_law_917 rfl rfl rfl ?_
  refine k_iconst C (nI 1) dL_law_918 (by decide) rfl ?_
  refine k_iadd C dL_law_919 rfl ?_
  rw [nI_off]
  refine k_sld (j := i + 1) C hX (vp_in_nI (by omega) (by omega)) (nI_clamp (by omega)) dL_law_920 rfl ?_
  refine k_callV C [.int (xs (i + 1))] (mX6_firmest h2) rfl (by decide) rfl kw_5_36 kw_5_37 kw_5_38 kw_1_7 kw_5_39 qX6_firmest rfl ⟨by decide, by decide⟩ ⟨rfl, rfl⟩ (Nat.le_of_ble_eq_true rfl) dL_law_921 rfl ?_ rfl
  refine (show kV Z 4 924 [(0, .ref b), (1, kr Z 0), (2, kr Z 59), (3, .int (nI i))] [.int q2.1, .int q1.1] q2.2 from ?_)
  refine k_icmp_eq C 1342 dL_law_924 rfl rfl (fun _ => hk q2.2 hI) (fun h => absurd he h)
def sp_feed (Iv : kM → Prop) : Prop := ∀ st : kM, Iv st → ∀ (v1 : Int32), ∀ (v2 : Int32), ∃ (q1 q2 : Int32 × kM), fX5_feed v1 v2 st = some q1 ∧ fX6_feed v1 v2 q1.2 = some q2 ∧ q1.1 = q2.1 ∧ Iv q2.2
set_option maxRecDepth 100000 in
theorem lc_feed {Z : kZ} (C : kC Z cL_law RL 4 room_1) {b L : Nat} {xs : Nat → Int32} (hX : kScr Z b L xs) (hL : L ≤ 3072) {Iv : kM → Prop} (hs : sp_feed Iv) {i : Nat} (hi : i + 6 ≤ L) (hk : ∀ st : kM, Iv st → kV Z 4 1342 [(0, .ref b), (1, kr Z 0), (2, kr Z 59), (3, .int (nI i))] [] st) (st : kM) (hI : Iv st) : kV Z 4 929 [(0, .ref b), (1, kr Z 0), (2, kr Z 59), (3, .int (nI i))] [] st := by
  obtain ⟨q1, q2, h1, h2, he, hI⟩ := hs st hI (xs (i + 1)) (xs (i + 2))
  refine k_aload_n C 1 dL_law_929 rfl rfl rfl ?_
  refine k_aload_n C 0 dL_law_930 rfl rfl rfl ?_
  refine k_iload_n C 3 dL_law_931 rfl rfl rfl ?_
  refine k_iconst C (nI 1) dL_law_932 (by decide) rfl ?_
  refine k_iadd C dL_law_933 rfl ?_
  rw [nI_off]
  refine k_sld (j := i + 1) C hX (vp_in_nI (by omega) (by omega)) (nI_clamp (by omega)) dL_law_934 rfl ?_
  refine k_aload_n C 0 dL_law_935 rfl rfl rfl ?_
  refine k_iload_n C 3 dL_law_936 rfl rfl rfl ?_
  refine k_iconst C (nI 2) dL_law_937 (by decide) rfl ?_
  refine k_iadd C dL_law_938 rfl ?_
  rw [nI_off]
  refine k_sld (j := i + 2) C hX (vp_in_nI (by omega) (by omega)) (nI_clamp (by omega)) dL_law_939 rfl ?_
  refine k_callV C [.int (xs (i + 1)), .int (xs (i + 2))] (mX5_feed h1) rfl (by decide) rfl kw_2_238 kw_2_239 kw_3_0 kw_1_1 kw_3_1 qX5_feed rfl ⟨by decide, by decide⟩ ⟨rfl, rfl⟩ (Nat.le_of_ble_eq_true rfl) dL_law_940 rfl ?_ rfl
  refine (show kV Z 4 943 [(0, .ref b), (1, kr Z 0), (2, kr Z 59), (3, .int (nI i))] [.int q1.1] q1.2 from ?_)
  refine k_aload_n C 2 dL_law_943 rfl rfl rfl ?_
  refine k_aload_n C 0 dL_law_944 rfl rfl rfl ?_
  refine k_iload_n C 3 dL_law_945 rfl rfl rfl ?_
  refine k_iconst C (nI 1) dL_law_946 (by decide) rfl ?_
  refine k_iadd C dL_law_947 rfl ?_
  rw [nI_off]
  refine k_sld (j := i + 1) C hX (vp_in_nI (by omega) (by omega)) (nI_clamp (by omega)) dL_law_948 rfl ?_
  refine k_aload_n C 0 dL_law_949 rfl rfl rfl ?_
  refine k_iload_n C 3 dL_law_950 rfl rfl rfl ?_
  refine k_iconst C (nI 2) dL_law_951 (by decide) rfl ?_
  refine k_iadd C dL_law_952 rfl ?_
  rw [nI_off]
  refine k_sld (j := i + 2) C hX (vp_in_nI (by omega) (by omega)) (nI_clamp (by omega)) dL_law_953 rfl ?_
  refine k_callV C [.int (xs (i + 1)), .int (xs (i + 2))] (mX6_feed h2) rfl (by decide) rfl kw_5_40 kw_5_41 kw_5_42 kw_1_7 kw_5_43 qX6_feed rfl ⟨by decide, by decide⟩ ⟨rfl, rfl⟩ (Nat.le_of_ble_eq_true rfl) dL_law_954 rfl ?_ rfl
  refine (show kV Z 4 957 [(0, .ref b), (1, kr Z 0), (2, kr Z 59), (3, .int (nI i))] [.int q2.1, .int q1.1] q2.2 from ?_)
  refine k_icmp_eq C 1342 dL_law_957 rfl rfl (fun _ => hk q2.2 hI) (fun h => absurd he h)
def sp_wipe (Iv : kM → Prop) : Prop := ∀ st : kM, Iv st → ∃ (q1 q2 : Int32 × kM), fX5_wipe st = some q1 ∧ fX6_wipe q1.2 = some q2 ∧ q1.1 = q2.1 ∧ Iv q2.2
set_option maxRecDepth 100000 in
theorem lc_wipe {Z : kZ} (C : kC Z cL_law RL 4 room_1) {b L : Nat} {xs : Nat → Int32} (hX : kScr Z b L xs) (hL : L ≤ 3072) {Iv : kM → Prop} (hs : sp_wipe Iv) {i : Nat} (hi : i + 6 ≤ L) (hk : ∀ st : kM, Iv st → kV Z 4 1342 [(0, .ref b), (1, kr Z 0), (2, kr Z 59), (3, .int (nI i))] [] st) (st : kM) (hI : Iv st) : kV Z 4 962 [(0, .ref b), (1, kr Z 0), (2, kr Z 59), (3, .int (nI i))] [] st := by
  obtain ⟨q1, q2, h1, h2, he, hI⟩ := hs st hI 
  refine k_aload_n C 1 dL_law_962 rfl rfl rfl ?_
  refine k_callV C [] (mX5_wipe h1) rfl (by decide) rfl kw_3_6 kw_3_7 kw_3_8 kw_1_1 kw_3_9 qX5_wipe rfl ⟨by decide, by decide⟩ ⟨rfl, rfl⟩ (Nat.le_of_ble_eq_true rfl) dL_law_963 rfl ?_ rfl
  refine (show kV Z 4 966 [(0, .ref b), (1, kr Z 0), (2, kr Z 59), (3, .int (nI i))] [.int q1.1] q1.2 from ?_)
  refine k_aload_n C 2 dL_law_966 rfl rfl rfl ?_
  refine k_callV C [] (mX6_wipe h2) rfl (by decide) rfl kw_5_44 kw_5_45 kw_5_46 kw_1_7 kw_5_47 qX6_wipe rfl ⟨by decide, by decide⟩ ⟨rfl, rfl⟩ (Nat.le_of_ble_eq_true rfl) dL_law_967 rfl ?_ rfl
  refine (show kV Z 4 970 [(0, .ref b), (1, kr Z 0), (2, kr Z 59), (3, .int (nI i))] [.int q2.1, .int q1.1] q2.2 from ?_)
  refine k_icmp_eq C 1342 dL_law_970 rfl rfl (fun _ => hk q2.2 hI) (fun h => absurd he h)
def sp_yard (Iv : kM → Prop) : Prop := ∀ st : kM, Iv st → ∃ (q1 q2 : Int32 × kM), fX5_yard st = some q1 ∧ fX6_yard q1.2 = some q2 ∧ q1.1 = q2.1 ∧ Iv q2.2
set_option maxRecDepth 100000 in
theorem lc_yard {Z : kZ} (C : kC Z cL_law RL 4 room_1) {b L : Nat} {xs : Nat → Int32} (hX : kScr Z b L xs) (hL : L ≤ 3072) {Iv : kM → Prop} (hs : sp_yard Iv) {i : Nat} (hi : i + 6 ≤ L) (hk : ∀ st : kM, Iv st → kV Z 4 1342 [(0, .ref b), (1, kr Z 0), (2, kr Z 59), (3, .int (nI i))] [] st) (st : kM) (hI : Iv st) : kV Z 4 975 [(0, .ref b), (1, kr Z 0), (2, kr Z 59), (3, .int (nI i))] [] st := by
  obtain ⟨q1, q2, h1, h2, he, hI⟩ := hs st hI 
  refine k_aload_n C 1 dL_law_975 rfl rfl rfl ?_
  refine k_callV C [] (mX5_yard h1) rfl (by decide) rfl kw_3_10 kw_3_11 kw_3_12 kw_1_1 kw_3_13 qX5_yard rfl ⟨by decide, by decide⟩ ⟨rfl, rfl⟩ (Nat.le_of_ble_eq_true rfl) dL_law_976 rfl ?_ rfl
  refine (show kV Z 4 979 [(0, .ref b), (1, kr Z 0), (2, kr Z 59), (3, .int (nI i))] [.int q1.1] q1.2 from ?_)
  refine k_aload_n C 2 dL_law_979 rfl rfl rfl ?_
  refine k_callV C [] (mX6_yard h2) rfl (by decide) rfl kw_5_48 kw_5_49 kw_5_50 kw_1_7 kw_5_51 qX6_yard rfl ⟨by decide, by decide⟩ ⟨rfl, rfl⟩ (Nat.le_of_ble_eq_true rfl) dL_law_980 rfl ?_ rfl
  refine (show kV Z 4 983 [(0, .ref b), (1, kr Z 0), (2, kr Z 59), (3, .int (nI i))] [.int q2.1, .int q1.1] q2.2 from ?_)
  refine k_icmp_eq C 1342 dL_law_983 rfl rfl (fun _ => hk q2.2 hI) (fun h => absurd he h)
def sp_sheet (Iv : kM → Prop) : Prop := ∀ st : kM, Iv st → ∀ (v1 : Int32), ∀ (v2 : Int32), ∀ (v3 : Int32), ∃ (q1 q2 : Int32 × kM), fX5_sheet v1 v2 v3 st = some q1 ∧ fX6_sheet v1 v2 v3 q1.2 = some q2 ∧ q1.1 = q2.1 ∧ Iv q2.2
set_option maxRecDepth 100000 in
theorem lc_sheet {Z : kZ} (C : kC Z cL_law RL 4 room_1) {b L : Nat} {xs : Nat → Int32} (hX : kScr Z b L xs) (hL : L ≤ 3072) {Iv : kM → Prop} (hs : sp_sheet Iv) {i : Nat} (hi : i + 6 ≤ L) (hk : ∀ st : kM, Iv st → kV Z 4 1342 [(0, .ref b), (1, kr Z 0), (2, kr Z 59), (3, .int (nI i))] [] st) (st : kM) (hI : Iv st) : kV Z 4 988 [(0, .ref b), (1, kr Z 0), (2, kr Z 59), (3, .int (nI i))] [] st := by
  obtain ⟨q1, q2, h1, h2, he, hI⟩ := hs st hI (xs (i + 1)) (xs (i + 2)) (xs (i + 3))
  refine k_aload_n C 1 dL_law_988 rfl rfl rfl ?_
  refine k_aload_n C 0 dL_law_989 rfl rfl rfl ?_
  refine k_iload_n C 3 dL_law_990 rfl rfl rfl ?_
  refine k_iconst C (nI 1) dL_law_991 (by decide) rfl ?_
  refine k_iadd C dL_law_992 rfl ?_
  rw [nI_off]
  refine k_sld (j := i + 1) C hX (vp_in_nI (by omega) (by omega)) (nI_clamp (by omega)) dL_law_993 rfl ?_
  refine k_aload_n C 0 dL_law_994 rfl rfl rfl ?_
  refine k_iload_n C 3 dL_law_995 rfl rfl rfl ?_
  refine k_iconst C (nI 2) dL_law_996 (by decide) rfl ?_
  refine k_iadd C dL_law_997 rfl ?_
  rw [nI_off]
  refine k_sld (j := i + 2) C hX (vp_in_nI (by omega) (by omega)) (nI_clamp (by omega)) dL_law_998 rfl ?_
  refine k_aload_n C 0 dL_law_999 rfl rfl rfl ?_
  refine k_iload_n C 3 dL_law_1000 rfl rfl rfl ?_
  refine k_iconst C (nI 3) dL_law_1001 (by decide) rfl ?_
  refine k_iadd C dL_law_1002 rfl ?_
  rw [nI_off]
  refine k_sld (j := i + 3) C hX (vp_in_nI (by omega) (by omega)) (nI_clamp (by omega)) dL_law_1003 rfl ?_
  refine k_callV C [.int (xs (i + 1)), .int (xs (i + 2)), .int (xs (i + 3))] (mX5_sheet h1) rfl (by decide) rfl kw_3_137 kw_3_138 kw_3_139 kw_1_1 kw_3_140 qX5_sheet rfl ⟨by decide, by decide⟩ ⟨rfl, rfl⟩ (Nat.le_of_ble_eq_true rfl) dL_law_1004 rfl ?_ rfl
  refine (show kV Z 4 1007 [(0, .ref b), (1, kr Z 0), (2, kr Z 59), (3, .int (nI i))] [.int q1.1] q1.2 from ?_)
  refine k_aload_n C 2 dL_law_1007 rfl rfl rfl ?_
  refine k_aload_n C 0 dL_law_1008 rfl rfl rfl ?_
  refine k_iload_n C 3 dL_law_1009 rfl rfl rfl ?_
  refine k_iconst C (nI 1) dL_law_1010 (by decide) rfl ?_
  refine k_iadd C dL_law_1011 rfl ?_
  rw [nI_off]
  refine k_sld (j := i + 1) C hX (vp_in_nI (by omega) (by omega)) (nI_clamp (by omega)) dL_law_1012 rfl ?_
  refine k_aload_n C 0 dL_law_1013 rfl rfl rfl ?_
  refine k_iload_n C 3 dL_law_1014 rfl rfl rfl ?_
  refine k_iconst C (nI 2) dL_law_1015 (by decide) rfl ?_
  refine k_iadd C dL_law_1016 rfl ?_
  rw [nI_off]
  refine k_sld (j := i + 2) C hX (vp_in_nI (by omega) (by omega)) (nI_clamp (by omega)) dL_law_1017 rfl ?_
  refine k_aload_n C 0 dL_law_1018 rfl rfl rfl ?_
  refine k_iload_n C 3 dL_law_1019 rfl rfl rfl ?_
  refine k_iconst C (nI 3) dL_law_1020 (by decide) rfl ?_
  refine k_iadd C dL_law_1021 rfl ?_
  rw [nI_off]
  refine k_sld (j := i + 3) C hX (vp_in_nI (by omega) (by omega)) (nI_clamp (by omega)) dL_law_1022 rfl ?_
  refine k_callV C [.int (xs (i + 1)), .int (xs (i + 2)), .int (xs (i + 3))] (mX6_sheet h2) rfl (by decide) rfl kw_5_117 kw_5_118 kw_5_119 kw_1_7 kw_5_120 qX6_sheet rfl ⟨by decide, by decide⟩ ⟨rfl, rfl⟩ (Nat.le_of_ble_eq_true rfl) dL_law_1023 rfl ?_ rfl
  refine (show kV Z 4 1026 [(0, .ref b), (1, kr Z 0), (2, kr Z 59), (3, .int (nI i))] [.int q2.1, .int q1.1] q2.2 from ?_)
  refine k_icmp_eq C 1342 dL_law_1026 rfl rfl (fun _ => hk q2.2 hI) (fun h => absurd he h)
def sp_write (Iv : kM → Prop) : Prop := ∀ st : kM, Iv st → ∀ (v1 : Int32), ∀ (v2 : Int32), ∀ (v3 : Int64), ∃ (q1 q2 : Int64 × kM), fX5_write v1 v2 v3 st = some q1 ∧ fX6_write v1 v2 v3 q1.2 = some q2 ∧ q1.1 = q2.1 ∧ Iv q2.2
set_option maxRecDepth 100000 in
theorem lc_write {Z : kZ} (C : kC Z cL_law RL 4 room_1) {b L : Nat} {xs : Nat → Int32} (hX : kScr Z b L xs) (hL : L ≤ 3072) {Iv : kM → Prop} (hs : sp_write Iv) {i : Nat} (hi : i + 6 ≤ L) (hk : ∀ st : kM, Iv st → kV Z 4 1342 [(0, .ref b), (1, kr Z 0), (2, kr Z 59), (3, .int (nI i))] [] st) (st : kM) (hI : Iv st) : kV Z 4 1031 [(0, .ref b), (1, kr Z 0), (2, kr Z 59), (3, .int (nI i))] [] st := by
  obtain ⟨q1, q2, h1, h2, he, hI⟩ := hs st hI (xs (i + 1)) (xs (i + 2)) ((((xs (i + 3)).toInt64) <<< ((32 : Int32).toInt64 &&& 63)) ||| (((xs (i + 4)).toInt64) &&& (4294967295 : Int64)))
  refine k_aload_n C 1 dL_law_1031 rfl rfl rfl ?_
  refine k_aload_n C 0 dL_law_1032 rfl rfl rfl ?_
  refine k_iload_n C 3 dL_law_1033 rfl rfl rfl ?_
  refine k_iconst C (nI 1) dL_law_1034 (by decide) rfl ?_
  refine k_iadd C dL_law_1035 rfl ?_
  rw [nI_off]
  refine k_sld (j := i + 1) C hX (vp_in_nI (by omega) (by omega)) (nI_clamp (by omega)) dL_law_1036 rfl ?_
  refine k_aload_n C 0 dL_law_1037 rfl rfl rfl ?_
  refine k_iload_n C 3 dL_law_1038 rfl rfl rfl ?_
  refine k_iconst C (nI 2) dL_law_1039 (by decide) rfl ?_
  refine k_iadd C dL_law_1040 rfl ?_
  rw [nI_off]
  refine k_sld (j := i + 2) C hX (vp_in_nI (by omega) (by omega)) (nI_clamp (by omega)) dL_law_1041 rfl ?_
  refine k_aload_n C 0 dL_law_1042 rfl rfl rfl ?_
  refine k_iload_n C 3 dL_law_1043 rfl rfl rfl ?_
  refine k_iconst C (nI 3) dL_law_1044 (by decide) rfl ?_
  refine k_iadd C dL_law_1045 rfl ?_
  rw [nI_off]
  refine k_sld (j := i + 3) C hX (vp_in_nI (by omega) (by omega)) (nI_clamp (by omega)) dL_law_1046 rfl ?_
  refine k_i2l C dL_law_1047 rfl ?_
  refine k_bipush C (32 : Int32) dL_law_1048 (by decide) rfl ?_
  refine k_lshl C dL_law_1050 rfl ?_
  refine k_aload_n C 0 dL_law_1051 rfl rfl rfl ?_
  refine k_iload_n C 3 dL_law_1052 rfl rfl rfl ?_
  refine k_iconst C (nI 4) dL_law_1053 (by decide) rfl ?_
  refine k_iadd C dL_law_1054 rfl ?_
  rw [nI_off]
  refine k_sld (j := i + 4) C hX (vp_in_nI (by omega) (by omega)) (nI_clamp (by omega)) dL_law_1055 rfl ?_
  refine k_i2l C dL_law_1056 rfl ?_
  refine k_ldc2 C (4294967295 : Int64) kw_5_186 dL_law_1057 rfl ?_
  refine k_land C dL_law_1060 rfl ?_
  refine k_lor C dL_law_1061 rfl ?_
  refine k_callV C [.int (xs (i + 1)), .int (xs (i + 2)), .long ((((xs (i + 3)).toInt64) <<< ((32 : Int32).toInt64 &&& 63)) ||| (((xs (i + 4)).toInt64) &&& (4294967295 : Int64)))] (mX5_write h1) rfl (by decide) rfl kw_3_152 kw_3_153 kw_3_154 kw_1_1 kw_3_155 qX5_write rfl ⟨by decide, by decide⟩ ⟨rfl, rfl⟩ (Nat.le_of_ble_eq_true rfl) dL_law_1062 rfl ?_ rfl
  refine (show kV Z 4 1065 [(0, .ref b), (1, kr Z 0), (2, kr Z 59), (3, .int (nI i))] [.long q1.1] q1.2 from ?_)
  refine k_aload_n C 2 dL_law_1065 rfl rfl rfl ?_
  refine k_aload_n C 0 dL_law_1066 rfl rfl rfl ?_
  refine k_iload_n C 3 dL_law_1067 rfl rfl rfl ?_
  refine k_iconst C (nI 1) dL_law_1068 (by decide) rfl ?_
  refine k_iadd C dL_law_1069 rfl ?_
  rw [nI_off]
  refine k_sld (j := i + 1) C hX (vp_in_nI (by omega) (by omega)) (nI_clamp (by omega)) dL_law_1070 rfl ?_
  refine k_aload_n C 0 dL_law_1071 rfl rfl rfl ?_
  refine k_iload_n C 3 dL_law_1072 rfl rfl rfl ?_
  refine k_iconst C (nI 2) dL_law_1073 (by decide) rfl ?_
  refine k_iadd C dL_law_1074 rfl ?_
  rw [nI_off]
  refine k_sld (j := i + 2) C hX (vp_in_nI (by omega) (by omega)) (nI_clamp (by omega)) dL_law_1075 rfl ?_
  refine k_aload_n C 0 dL_law_1076 rfl rfl rfl ?_
  refine k_iload_n C 3 dL_law_1077 rfl rfl rfl ?_
  refine k_iconst C (nI 3) dL_law_1078 (by decide) rfl ?_
  refine k_iadd C dL_law_1079 rfl ?_
  rw [nI_off]
  refine k_sld (j := i + 3) C hX (vp_in_nI (by omega) (by omega)) (nI_clamp (by omega)) dL_law_1080 rfl ?_
  refine k_i2l C dL_law_1081 rfl ?_
  refine k_bipush C (32 : Int32) dL_law_1082 (by decide) rfl ?_
  refine k_lshl C dL_law_1084 rfl ?_
  refine k_aload_n C 0 dL_law_1085 rfl rfl rfl ?_
  refine k_iload_n C 3 dL_law_1086 rfl rfl rfl ?_
  refine k_iconst C (nI 4) dL_law_1087 (by decide) rfl ?_
  refine k_iadd C dL_law_1088 rfl ?_
  rw [nI_off]
  refine k_sld (j := i + 4) C hX (vp_in_nI (by omega) (by omega)) (nI_clamp (by omega)) dL_law_1089 rfl ?_
  refine k_i2l C dL_law_1090 rfl ?_
  refine k_ldc2 C (4294967295 : Int64) kw_5_186 dL_law_1091 rfl ?_
  refine k_land C dL_law_1094 rfl ?_
  refine k_lor C dL_law_1095 rfl ?_
  refine k_callV C [.int (xs (i + 1)), .int (xs (i + 2)), .long ((((xs (i + 3)).toInt64) <<< ((32 : Int32).toInt64 &&& 63)) ||| (((xs (i + 4)).toInt64) &&& (4294967295 : Int64)))] (mX6_write h2) rfl (by decide) rfl kw_5_125 kw_5_126 kw_5_127 kw_1_7 kw_5_128 qX6_write rfl ⟨by decide, by decide⟩ ⟨rfl, rfl⟩ (Nat.le_of_ble_eq_true rfl) dL_law_1096 rfl ?_ rfl
  refine (show kV Z 4 1099 [(0, .ref b), (1, kr Z 0), (2, kr Z 59), (3, .int (nI i))] [.long q2.1, .long q1.1] q2.2 from ?_)
  refine k_lcmp C dL_law_1099 rfl ?_
  refine k_if_eq C 1342 dL_law_1100 rfl rfl (fun _ => hk q2.2 hI) (fun h => absurd (by rw [he]; exact lg_cmp_self _) h)
def sp_copy (Iv : kM → Prop) : Prop := ∀ st : kM, Iv st → ∀ (v1 : Int32), ∀ (v2 : Int32), ∀ (v3 : Int32), ∀ (v4 : Int32), ∀ (v5 : Int32), ∃ (q1 q2 : Int32 × kM), fX5_copy v1 v2 v3 v4 v5 st = some q1 ∧ fX6_copy v1 v2 v3 v4 v5 q1.2 = some q2 ∧ q1.1 = q2.1 ∧ Iv q2.2
set_option maxRecDepth 100000 in
theorem lc_copy {Z : kZ} (C : kC Z cL_law RL 4 room_1) {b L : Nat} {xs : Nat → Int32} (hX : kScr Z b L xs) (hL : L ≤ 3072) {Iv : kM → Prop} (hs : sp_copy Iv) {i : Nat} (hi : i + 6 ≤ L) (hk : ∀ st : kM, Iv st → kV Z 4 1342 [(0, .ref b), (1, kr Z 0), (2, kr Z 59), (3, .int (nI i))] [] st) (st : kM) (hI : Iv st) : kV Z 4 1105 [(0, .ref b), (1, kr Z 0), (2, kr Z 59), (3, .int (nI i))] [] st := by
  obtain ⟨q1, q2, h1, h2, he, hI⟩ := hs st hI (xs (i + 1)) (xs (i + 2)) (xs (i + 3)) (xs (i + 4)) (xs (i + 5))
  refine k_aload_n C 1 dL_law_1105 rfl rfl rfl ?_
  refine k_aload_n C 0 dL_law_1106 rfl rfl rfl ?_
  refine k_iload_n C 3 dL_law_1107 rfl rfl rfl ?_
  refine k_iconst C (nI 1) dL_law_1108 (by decide) rfl ?_
  refine k_iadd C dL_law_1109 rfl ?_
  rw [nI_off]
  refine k_sld (j := i + 1) C hX (vp_in_nI (by omega) (by omega)) (nI_clamp (by omega)) dL_law_1110 rfl ?_
  refine k_aload_n C 0 dL_law_1111 rfl rfl rfl ?_
  refine k_iload_n C 3 dL_law_1112 rfl rfl rfl ?_
  refine k_iconst C (nI 2) dL_law_1113 (by decide) rfl ?_
  refine k_iadd C dL_law_1114 rfl ?_
  rw [nI_off]
  refine k_sld (j := i + 2) C hX (vp_in_nI (by omega) (by omega)) (nI_clamp (by omega)) dL_law_1115 rfl ?_
  refine k_aload_n C 0 dL_law_1116 rfl rfl rfl ?_
  refine k_iload_n C 3 dL_law_1117 rfl rfl rfl ?_
  refine k_iconst C (nI 3) dL_law_1118 (by decide) rfl ?_
  refine k_iadd C dL_law_1119 rfl ?_
  rw [nI_off]
  refine k_sld (j := i + 3) C hX (vp_in_nI (by omega) (by omega)) (nI_clamp (by omega)) dL_law_1120 rfl ?_
  refine k_aload_n C 0 dL_law_1121 rfl rfl rfl ?_
  refine k_iload_n C 3 dL_law_1122 rfl rfl rfl ?_
  refine k_iconst C (nI 4) dL_law_1123 (by decide) rfl ?_
  refine k_iadd C dL_law_1124 rfl ?_
  rw [nI_off]
  refine k_sld (j := i + 4) C hX (vp_in_nI (by omega) (by omega)) (nI_clamp (by omega)) dL_law_1125 rfl ?_
  refine k_aload_n C 0 dL_law_1126 rfl rfl rfl ?_
  refine k_iload_n C 3 dL_law_1127 rfl rfl rfl ?_
  refine k_iconst C (nI 5) dL_law_1128 (by decide) rfl ?_
  refine k_iadd C dL_law_1129 rfl ?_
  rw [nI_off]
  refine k_sld (j := i + 5) C hX (vp_in_nI (by omega) (by omega)) (nI_clamp (by omega)) dL_law_1130 rfl ?_
  refine k_callV C [.int (xs (i + 1)), .int (xs (i + 2)), .int (xs (i + 3)), .int (xs (i + 4)), .int (xs (i + 5))] (mX5_copy h1) rfl (by decide) rfl kw_3_165 kw_3_166 kw_3_167 kw_1_1 kw_3_168 qX5_copy rfl ⟨by decide, by decide⟩ ⟨rfl, rfl⟩ (Nat.le_of_ble_eq_true rfl) dL_law_1131 rfl ?_ rfl
  refine (show kV Z 4 1134 [(0, .ref b), (1, kr Z 0), (2, kr Z 59), (3, .int (nI i))] [.int q1.1] q1.2 from ?_)
  refine k_aload_n C 2 dL_law_1134 rfl rfl rfl ?_
  refine k_aload_n C 0 dL_law_1135 rfl rfl rfl ?_
  refine k_iload_n C 3 dL_law_1136 rfl rfl rfl ?_
  refine k_iconst C (nI 1) dL_law_1137 (by decide) rfl ?_
  refine k_iadd C dL_law_1138 rfl ?_
  rw [nI_off]
  refine k_sld (j := i + 1) C hX (vp_in_nI (by omega) (by omega)) (nI_clamp (by omega)) dL_law_1139 rfl ?_
  refine k_aload_n C 0 dL_law_1140 rfl rfl rfl ?_
  refine k_iload_n C 3 dL_law_1141 rfl rfl rfl ?_
  refine k_iconst C (nI 2) dL_law_1142 (by decide) rfl ?_
  refine k_iadd C dL_law_1143 rfl ?_
  rw [nI_off]
  refine k_sld (j := i + 2) C hX (vp_in_nI (by omega) (by omega)) (nI_clamp (by omega)) dL_law_1144 rfl ?_
  refine k_aload_n C 0 dL_law_1145 rfl rfl rfl ?_
  refine k_iload_n C 3 dL_law_1146 rfl rfl rfl ?_
  refine k_iconst C (nI 3) dL_law_1147 (by decide) rfl ?_
  refine k_iadd C dL_law_1148 rfl ?_
  rw [nI_off]
  refine k_sld (j := i + 3) C hX (vp_in_nI (by omega) (by omega)) (nI_clamp (by omega)) dL_law_1149 rfl ?_
  refine k_aload_n C 0 dL_law_1150 rfl rfl rfl ?_
  refine k_iload_n C 3 dL_law_1151 rfl rfl rfl ?_
  refine k_iconst C (nI 4) dL_law_1152 (by decide) rfl ?_
  refine k_iadd C dL_law_1153 rfl ?_
  rw [nI_off]
  refine k_sld (j := i + 4) C hX (vp_in_nI (by omega) (by omega)) (nI_clamp (by omega)) dL_law_1154 rfl ?_
  refine k_aload_n C 0 dL_law_1155 rfl rfl rfl ?_
  refine k_iload_n C 3 dL_law_1156 rfl rfl rfl ?_
  refine k_iconst C (nI 5) dL_law_1157 (by decide) rfl ?_
  refine k_iadd C dL_law_1158 rfl ?_
  rw [nI_off]
  refine k_sld (j := i + 5) C hX (vp_in_nI (by omega) (by omega)) (nI_clamp (by omega)) dL_law_1159 rfl ?_
  refine k_callV C [.int (xs (i + 1)), .int (xs (i + 2)), .int (xs (i + 3)), .int (xs (i + 4)), .int (xs (i + 5))] (mX6_copy h2) rfl (by decide) rfl kw_5_133 kw_5_134 kw_5_135 kw_1_7 kw_5_136 qX6_copy rfl ⟨by decide, by decide⟩ ⟨rfl, rfl⟩ (Nat.le_of_ble_eq_true rfl) dL_law_1160 rfl ?_ rfl
  refine (show kV Z 4 1163 [(0, .ref b), (1, kr Z 0), (2, kr Z 59), (3, .int (nI i))] [.int q2.1, .int q1.1] q2.2 from ?_)
  refine k_icmp_eq C 1342 dL_law_1163 rfl rfl (fun _ => hk q2.2 hI) (fun h => absurd he h)
def sp_lays (Iv : kM → Prop) : Prop := ∀ st : kM, Iv st → ∀ (v1 : Int32), ∃ (q1 q2 : Int32 × kM), fX5_lays v1 st = some q1 ∧ fX6_lays v1 q1.2 = some q2 ∧ q1.1 = q2.1 ∧ Iv q2.2
set_option maxRecDepth 100000 in
theorem lc_lays {Z : kZ} (C : kC Z cL_law RL 4 room_1) {b L : Nat} {xs : Nat → Int32} (hX : kScr Z b L xs) (hL : L ≤ 3072) {Iv : kM → Prop} (hs : sp_lays Iv) {i : Nat} (hi : i + 6 ≤ L) (hk : ∀ st : kM, Iv st → kV Z 4 1342 [(0, .ref b), (1, kr Z 0), (2, kr Z 59), (3, .int (nI i))] [] st) (st : kM) (hI : Iv st) : kV Z 4 1168 [(0, .ref b), (1, kr Z 0), (2, kr Z 59), (3, .int (nI i))] [] st := by
  obtain ⟨q1, q2, h1, h2, he, hI⟩ := hs st hI (xs (i + 1))
  refine k_aload_n C 1 dL_law_1168 rfl rfl rfl ?_
  refine k_aload_n C 0 dL_law_1169 rfl rfl rfl ?_
  refine k_iload_n C 3 dL_law_1170 rfl rfl rfl ?_
  refine k_iconst C (nI 1) dL_law_1171 (by decide) rfl ?_
  refine k_iadd C dL_law_1172 rfl ?_
  rw [nI_off]
  refine k_sld (j := i + 1) C hX (vp_in_nI (by omega) (by omega)) (nI_clamp (by omega)) dL_law_1173 rfl ?_
  refine k_callV C [.int (xs (i + 1))] (mX5_lays h1) rfl (by decide) rfl kw_3_174 kw_3_175 kw_3_176 kw_1_1 kw_3_177 qX5_lays rfl ⟨by decide, by decide⟩ ⟨rfl, rfl⟩ (Nat.le_of_ble_eq_true rfl) dL_law_1174 rfl ?_ rfl
  refine (show kV Z 4 1177 [(0, .ref b), (1, kr Z 0), (2, kr Z 59), (3, .int (nI i))] [.int q1.1] q1.2 from ?_)
  refine k_aload_n C 2 dL_law_1177 rfl rfl rfl ?_
  refine k_aload_n C 0 dL_law_1178 rfl rfl rfl ?_
  refine k_iload_n C 3 dL_law_1179 rfl rfl rfl ?_
  refine k_iconst C (nI 1) dL_law_1180 (by decide) rfl ?_
  refine k_iadd C dL_law_1181 rfl ?_
  rw [nI_off]
  refine k_sld (j := i + 1) C hX (vp_in_nI (by omega) (by omega)) (nI_clamp (by omega)) dL_law_1182 rfl ?_
  refine k_callV C [.int (xs (i + 1))] (mX6_lays h2) rfl (by decide) rfl kw_5_141 kw_5_142 kw_5_143 kw_1_7 kw_5_144 qX6_lays rfl ⟨by decide, by decide⟩ ⟨rfl, rfl⟩ (Nat.le_of_ble_eq_true rfl) dL_law_1183 rfl ?_ rfl
  refine (show kV Z 4 1186 [(0, .ref b), (1, kr Z 0), (2, kr Z 59), (3, .int (nI i))] [.int q2.1, .int q1.1] q2.2 from ?_)
  refine k_icmp_eq C 1342 dL_law_1186 rfl rfl (fun _ => hk q2.2 hI) (fun h => absurd he h)
def sp_book (Iv : kM → Prop) : Prop := ∀ st : kM, Iv st → ∀ (v1 : Int32), ∀ (v2 : Int32), ∃ (q1 q2 : Int32 × kM), fX5_book v1 v2 st = some q1 ∧ fX6_book v1 v2 q1.2 = some q2 ∧ q1.1 = q2.1 ∧ Iv q2.2
set_option maxRecDepth 100000 in
theorem lc_book {Z : kZ} (C : kC Z cL_law RL 4 room_1) {b L : Nat} {xs : Nat → Int32} (hX : kScr Z b L xs) (hL : L ≤ 3072) {Iv : kM → Prop} (hs : sp_book Iv) {i : Nat} (hi : i + 6 ≤ L) (hk : ∀ st : kM, Iv st → kV Z 4 1342 [(0, .ref b), (1, kr Z 0), (2, kr Z 59), (3, .int (nI i))] [] st) (st : kM) (hI : Iv st) : kV Z 4 1191 [(0, .ref b), (1, kr Z 0), (2, kr Z 59), (3, .int (nI i))] [] st := by
  obtain ⟨q1, q2, h1, h2, he, hI⟩ := hs st hI (xs (i + 1)) (xs (i + 2))
  refine k_aload_n C 1 dL_law_1191 rfl rfl rfl ?_
  refine k_aload_n C 0 dL_law_1192 rfl rfl rfl ?_
  refine k_iload_n C 3 dL_law_1193 rfl rfl rfl ?_
  refine k_iconst C (nI 1) dL_law_1194 (by decide) rfl ?_
  refine k_iadd C dL_law_1195 rfl ?_
  rw [nI_off]
  refine k_sld (j := i + 1) C hX (vp_in_nI (by omega) (by omega)) (nI_clamp (by omega)) dL_law_1196 rfl ?_
  refine k_aload_n C 0 dL_law_1197 rfl rfl rfl ?_
  refine k_iload_n C 3 dL_law_1198 rfl rfl rfl ?_
  refine k_iconst C (nI 2) dL_law_1199 (by decide) rfl ?_
  refine k_iadd C dL_law_1200 rfl ?_
  rw [nI_off]
  refine k_sld (j := i + 2) C hX (vp_in_nI (by omega) (by omega)) (nI_clamp (by omega)) dL_law_1201 rfl ?_
  refine k_callV C [.int (xs (i + 1)), .int (xs (i + 2))] (mX5_book h1) rfl (by decide) rfl kw_3_179 kw_3_180 kw_3_181 kw_1_1 kw_3_182 qX5_book rfl ⟨by decide, by decide⟩ ⟨rfl, rfl⟩ (Nat.le_of_ble_eq_true rfl) dL_law_1202 rfl ?_ rfl
  refine (show kV Z 4 1205 [(0, .ref b), (1, kr Z 0), (2, kr Z 59), (3, .int (nI i))] [.int q1.1] q1.2 from ?_)
  refine k_aload_n C 2 dL_law_1205 rfl rfl rfl ?_
  refine k_aload_n C 0 dL_law_1206 rfl rfl rfl ?_
  refine k_iload_n C 3 dL_law_1207 rfl rfl rfl ?_
  refine k_iconst C (nI 1) dL_law_1208 (by decide) rfl ?_
  refine k_iadd C dL_law_1209 rfl ?_
  rw [nI_off]
  refine k_sld (j := i + 1) C hX (vp_in_nI (by omega) (by omega)) (nI_clamp (by omega)) dL_law_1210 rfl ?_
  refine k_aload_n C 0 dL_law_1211 rfl rfl rfl ?_
  refine k_iload_n C 3 dL_law_1212 rfl rfl rfl ?_
  refine k_iconst C (nI 2) dL_law_1213 (by decide) rfl ?_
  refine k_iadd C dL_law_1214 rfl ?_
  rw [nI_off]
  refine k_sld (j := i + 2) C hX (vp_in_nI (by omega) (by omega)) (nI_clamp (by omega)) dL_law_1215 rfl ?_
  refine k_callV C [.int (xs (i + 1)), .int (xs (i + 2))] (mX6_book h2) rfl (by decide) rfl kw_5_150 kw_5_151 kw_5_152 kw_1_7 kw_5_153 qX6_book rfl ⟨by decide, by decide⟩ ⟨rfl, rfl⟩ (Nat.le_of_ble_eq_true rfl) dL_law_1216 rfl ?_ rfl
  refine (show kV Z 4 1219 [(0, .ref b), (1, kr Z 0), (2, kr Z 59), (3, .int (nI i))] [.int q2.1, .int q1.1] q2.2 from ?_)
  refine k_icmp_eq C 1342 dL_law_1219 rfl rfl (fun _ => hk q2.2 hI) (fun h => absurd he h)
def sp_read (Iv : kM → Prop) : Prop := ∀ st : kM, Iv st → ∀ (v1 : Int32), ∀ (v2 : Int32), ∃ (q1 q2 : Int32 × kM), fX5_read v1 v2 st = some q1 ∧ fX6_read v1 v2 q1.2 = some q2 ∧ q1.1 = q2.1 ∧ Iv q2.2
set_option maxRecDepth 100000 in
theorem lc_read {Z : kZ} (C : kC Z cL_law RL 4 room_1) {b L : Nat} {xs : Nat → Int32} (hX : kScr Z b L xs) (hL : L ≤ 3072) {Iv : kM → Prop} (hs : sp_read Iv) {i : Nat} (hi : i + 6 ≤ L) (hk : ∀ st : kM, Iv st → kV Z 4 1342 [(0, .ref b), (1, kr Z 0), (2, kr Z 59), (3, .int (nI i))] [] st) (st : kM) (hI : Iv st) : kV Z 4 1224 [(0, .ref b), (1, kr Z 0), (2, kr Z 59), (3, .int (nI i))] [] st := by
  obtain ⟨q1, q2, h1, h2, he, hI⟩ := hs st hI (xs (i + 1)) (xs (i + 2))
  refine k_aload_n C 1 dL_law_1224 rfl rfl rfl ?_
  refine k_aload_n C 0 dL_law_1225 rfl rfl rfl ?_
  refine k_iload_n C 3 dL_law_1226 rfl rfl rfl ?_
  refine k_iconst C (nI 1) dL_law_1227 (by decide) rfl ?_
  refine k_iadd C dL_law_1228 rfl ?_
  rw [nI_off]
  refine k_sld (j := i + 1) C hX (vp_in_nI (by omega) (by omega)) (nI_clamp (by omega)) dL_law_1229 rfl ?_
  refine k_aload_n C 0 dL_law_1230 rfl rfl rfl ?_
  refine k_iload_n C 3 dL_law_1231 rfl rfl rfl ?_
  refine k_iconst C (nI 2) dL_law_1232 (by decide) rfl ?_
  refine k_iadd C dL_law_1233 rfl ?_
  rw [nI_off]
  refine k_sld (j := i + 2) C hX (vp_in_nI (by omega) (by omega)) (nI_clamp (by omega)) dL_law_1234 rfl ?_
  refine k_callV C [.int (xs (i + 1)), .int (xs (i + 2))] (mX5_read h1) rfl (by decide) rfl kw_3_184 kw_3_185 kw_3_186 kw_1_1 kw_3_187 qX5_read rfl ⟨by decide, by decide⟩ ⟨rfl, rfl⟩ (Nat.le_of_ble_eq_true rfl) dL_law_1235 rfl ?_ rfl
  refine (show kV Z 4 1238 [(0, .ref b), (1, kr Z 0), (2, kr Z 59), (3, .int (nI i))] [.int q1.1] q1.2 from ?_)
  refine k_aload_n C 2 dL_law_1238 rfl rfl rfl ?_
  refine k_aload_n C 0 dL_law_1239 rfl rfl rfl ?_
  refine k_iload_n C 3 dL_law_1240 rfl rfl rfl ?_
  refine k_iconst C (nI 1) dL_law_1241 (by decide) rfl ?_
  refine k_iadd C dL_law_1242 rfl ?_
  rw [nI_off]
  refine k_sld (j := i + 1) C hX (vp_in_nI (by omega) (by omega)) (nI_clamp (by omega)) dL_law_1243 rfl ?_
  refine k_aload_n C 0 dL_law_1244 rfl rfl rfl ?_
  refine k_iload_n C 3 dL_law_1245 rfl rfl rfl ?_
  refine k_iconst C (nI 2) dL_law_1246 (by decide) rfl ?_
  refine k_iadd C dL_law_1247 rfl ?_
  rw [nI_off]
  refine k_sld (j := i + 2) C hX (vp_in_nI (by omega) (by omega)) (nI_clamp (by omega)) dL_law_1248 rfl ?_
  refine k_callV C [.int (xs (i + 1)), .int (xs (i + 2))] (mX6_read h2) rfl (by decide) rfl kw_5_154 kw_5_155 kw_5_156 kw_1_7 kw_5_157 qX6_read rfl ⟨by decide, by decide⟩ ⟨rfl, rfl⟩ (Nat.le_of_ble_eq_true rfl) dL_law_1249 rfl ?_ rfl
  refine (show kV Z 4 1252 [(0, .ref b), (1, kr Z 0), (2, kr Z 59), (3, .int (nI i))] [.int q2.1, .int q1.1] q2.2 from ?_)
  refine k_icmp_eq C 1342 dL_law_1252 rfl rfl (fun _ => hk q2.2 hI) (fun h => absurd he h)
def sp_image (Iv : kM → Prop) : Prop := ∀ st : kM, Iv st → ∃ (q1 q2 : Int32 × kM), fX5_image st = some q1 ∧ fX6_image q1.2 = some q2 ∧ q1.1 = q2.1 ∧ Iv q2.2
set_option maxRecDepth 100000 in
theorem lc_image {Z : kZ} (C : kC Z cL_law RL 4 room_1) {b L : Nat} {xs : Nat → Int32} (hX : kScr Z b L xs) (hL : L ≤ 3072) {Iv : kM → Prop} (hs : sp_image Iv) {i : Nat} (hi : i + 6 ≤ L) (hk : ∀ st : kM, Iv st → kV Z 4 1342 [(0, .ref b), (1, kr Z 0), (2, kr Z 59), (3, .int (nI i))] [] st) (st : kM) (hI : Iv st) : kV Z 4 1257 [(0, .ref b), (1, kr Z 0), (2, kr Z 59), (3, .int (nI i))] [] st := by
  obtain ⟨q1, q2, h1, h2, he, hI⟩ := hs st hI 
  refine k_aload_n C 1 dL_law_1257 rfl rfl rfl ?_
  refine k_callV C [] (mX5_image h1) rfl (by decide) rfl kw_3_196 kw_3_197 kw_3_198 kw_1_1 kw_3_199 qX5_image rfl ⟨by decide, by decide⟩ ⟨rfl, rfl⟩ (Nat.le_of_ble_eq_true rfl) dL_law_1258 rfl ?_ rfl
  refine (show kV Z 4 1261 [(0, .ref b), (1, kr Z 0), (2, kr Z 59), (3, .int (nI i))] [.int q1.1] q1.2 from ?_)
  refine k_aload_n C 2 dL_law_1261 rfl rfl rfl ?_
  refine k_callV C [] (mX6_image h2) rfl (by decide) rfl kw_5_162 kw_5_163 kw_5_164 kw_1_7 kw_5_165 qX6_image rfl ⟨by decide, by decide⟩ ⟨rfl, rfl⟩ (Nat.le_of_ble_eq_true rfl) dL_law_1262 rfl ?_ rfl
  refine (show kV Z 4 1265 [(0, .ref b), (1, kr Z 0), (2, kr Z 59), (3, .int (nI i))] [.int q2.1, .int q1.1] q2.2 from ?_)
  refine k_icmp_eq C 1342 dL_law_1265 rfl rfl (fun _ => hk q2.2 hI) (fun h => absurd he h)
def sp_undo (Iv : kM → Prop) : Prop := ∀ st : kM, Iv st → ∃ (q1 q2 : Int32 × kM), fX5_undo st = some q1 ∧ fX6_undo q1.2 = some q2 ∧ q1.1 = q2.1 ∧ Iv q2.2
set_option maxRecDepth 100000 in
theorem lc_undo {Z : kZ} (C : kC Z cL_law RL 4 room_1) {b L : Nat} {xs : Nat → Int32} (hX : kScr Z b L xs) (hL : L ≤ 3072) {Iv : kM → Prop} (hs : sp_undo Iv) {i : Nat} (hi : i + 6 ≤ L) (hk : ∀ st : kM, Iv st → kV Z 4 1342 [(0, .ref b), (1, kr Z 0), (2, kr Z 59), (3, .int (nI i))] [] st) (st : kM) (hI : Iv st) : kV Z 4 1270 [(0, .ref b), (1, kr Z 0), (2, kr Z 59), (3, .int (nI i))] [] st := by
  obtain ⟨q1, q2, h1, h2, he, hI⟩ := hs st hI 
  refine k_aload_n C 1 dL_law_1270 rfl rfl rfl ?_
  refine k_callV C [] (mX5_undo h1) rfl (by decide) rfl kw_3_200 kw_3_201 kw_3_202 kw_1_1 kw_3_203 qX5_undo rfl ⟨by decide, by decide⟩ ⟨rfl, rfl⟩ (Nat.le_of_ble_eq_true rfl) dL_law_1271 rfl ?_ rfl
  refine (show kV Z 4 1274 [(0, .ref b), (1, kr Z 0), (2, kr Z 59), (3, .int (nI i))] [.int q1.1] q1.2 from ?_)
  refine k_aload_n C 2 dL_law_1274 rfl rfl rfl ?_
  refine k_callV C [] (mX6_undo h2) rfl (by decide) rfl kw_5_166 kw_5_167 kw_5_168 kw_1_7 kw_5_169 qX6_undo rfl ⟨by decide, by decide⟩ ⟨rfl, rfl⟩ (Nat.le_of_ble_eq_true rfl) dL_law_1275 rfl ?_ rfl
  refine (show kV Z 4 1278 [(0, .ref b), (1, kr Z 0), (2, kr Z 59), (3, .int (nI i))] [.int q2.1, .int q1.1] q2.2 from ?_)
  refine k_icmp_eq C 1342 dL_law_1278 rfl rfl (fun _ => hk q2.2 hI) (fun h => absurd he h)
def sp_tear (Iv : kM → Prop) : Prop := ∀ st : kM, Iv st → ∃ (q1 q2 : Int32 × kM), fX5_tear st = some q1 ∧ fX6_tear q1.2 = some q2 ∧ q1.1 = q2.1 ∧ Iv q2.2
set_option maxRecDepth 100000 in
theorem lc_tear {Z : kZ} (C : kC Z cL_law RL 4 room_1) {b L : Nat} {xs : Nat → Int32} (hX : kScr Z b L xs) (hL : L ≤ 3072) {Iv : kM → Prop} (hs : sp_tear Iv) {i : Nat} (hi : i + 6 ≤ L) (hk : ∀ st : kM, Iv st → kV Z 4 1342 [(0, .ref b), (1, kr Z 0), (2, kr Z 59), (3, .int (nI i))] [] st) (st : kM) (hI : Iv st) : kV Z 4 1283 [(0, .ref b), (1, kr Z 0), (2, kr Z 59), (3, .int (nI i))] [] st := by
  obtain ⟨q1, q2, h1, h2, he, hI⟩ := hs st hI 
  refine k_aload_n C 1 dL_law_1283 rfl rfl rfl ?_
  refine k_callV C [] (mX5_tear h1) rfl (by decide) rfl kw_3_204 kw_3_205 kw_3_206 kw_1_1 kw_3_207 qX5_tear rfl ⟨by decide, by decide⟩ ⟨rfl, rfl⟩ (Nat.le_of_ble_eq_true rfl) dL_law_1284 rfl ?_ rfl
  refine (show kV Z 4 1287 [(0, .ref b), (1, kr Z 0), (2, kr Z 59), (3, .int (nI i))] [.int q1.1] q1.2 from ?_)
  refine k_aload_n C 2 dL_law_1287 rfl rfl rfl ?_
  refine k_callV C [] (mX6_tear h2) rfl (by decide) rfl kw_5_170 kw_5_171 kw_5_172 kw_1_7 kw_5_173 qX6_tear rfl ⟨by decide, by decide⟩ ⟨rfl, rfl⟩ (Nat.le_of_ble_eq_true rfl) dL_law_1288 rfl ?_ rfl
  refine (show kV Z 4 1291 [(0, .ref b), (1, kr Z 0), (2, kr Z 59), (3, .int (nI i))] [.int q2.1, .int q1.1] q2.2 from ?_)
  refine k_icmp_eq C 1342 dL_law_1291 rfl rfl (fun _ => hk q2.2 hI) (fun h => absurd he h)
def sp_count (Iv : kM → Prop) : Prop := ∀ st : kM, Iv st → ∀ (v1 : Int32), ∃ (q1 q2 : Int32 × kM), fX5_count v1 st = some q1 ∧ fX6_count v1 q1.2 = some q2 ∧ q1.1 = q2.1 ∧ Iv q2.2
set_option maxRecDepth 100000 in
theorem lc_count {Z : kZ} (C : kC Z cL_law RL 4 room_1) {b L : Nat} {xs : Nat → Int32} (hX : kScr Z b L xs) (hL : L ≤ 3072) {Iv : kM → Prop} (hs : sp_count Iv) {i : Nat} (hi : i + 6 ≤ L) (hk : ∀ st : kM, Iv st → kV Z 4 1342 [(0, .ref b), (1, kr Z 0), (2, kr Z 59), (3, .int (nI i))] [] st) (st : kM) (hI : Iv st) : kV Z 4 1296 [(0, .ref b), (1, kr Z 0), (2, kr Z 59), (3, .int (nI i))] [] st := by
  obtain ⟨q1, q2, h1, h2, he, hI⟩ := hs st hI (xs (i + 1))
  refine k_aload_n C 1 dL_law_1296 rfl rfl rfl ?_
  refine k_aload_n C 0 dL_law_1297 rfl rfl rfl ?_
  refine k_iload_n C 3 dL_law_1298 rfl rfl rfl ?_
  refine k_iconst C (nI 1) dL_law_1299 (by decide) rfl ?_
  refine k_iadd C dL_law_1300 rfl ?_
  rw [nI_off]
  refine k_sld (j := i + 1) C hX (vp_in_nI (by omega) (by omega)) (nI_clamp (by omega)) dL_law_1301 rfl ?_
  refine k_callV C [.int (xs (i + 1))] (mX5_count h1) rfl (by decide) rfl kw_3_208 kw_3_209 kw_3_210 kw_1_1 kw_3_211 qX5_count rfl ⟨by decide, by decide⟩ ⟨rfl, rfl⟩ (Nat.le_of_ble_eq_true rfl) dL_law_1302 rfl ?_ rfl
  refine (show kV Z 4 1305 [(0, .ref b), (1, kr Z 0), (2, kr Z 59), (3, .int (nI i))] [.int q1.1] q1.2 from ?_)
  refine k_aload_n C 2 dL_law_1305 rfl rfl rfl ?_
  refine k_aload_n C 0 dL_law_1306 rfl rfl rfl ?_
  refine k_iload_n C 3 dL_law_1307 rfl rfl rfl ?_
  refine k_iconst C (nI 1) dL_law_1308 (by decide) rfl ?_
  refine k_iadd C dL_law_1309 rfl ?_
  rw [nI_off]
  refine k_sld (j := i + 1) C hX (vp_in_nI (by omega) (by omega)) (nI_clamp (by omega)) dL_law_1310 rfl ?_
  refine k_callV C [.int (xs (i + 1))] (mX6_count h2) rfl (by decide) rfl kw_5_174 kw_5_175 kw_5_176 kw_1_7 kw_5_177 qX6_count rfl ⟨by decide, by decide⟩ ⟨rfl, rfl⟩ (Nat.le_of_ble_eq_true rfl) dL_law_1311 rfl ?_ rfl
  refine (show kV Z 4 1314 [(0, .ref b), (1, kr Z 0), (2, kr Z 59), (3, .int (nI i))] [.int q2.1, .int q1.1] q2.2 from ?_)
  refine k_icmp_eq C 1342 dL_law_1314 rfl rfl (fun _ => hk q2.2 hI) (fun h => absurd he h)
def sp_status (Iv : kM → Prop) : Prop := ∀ st : kM, Iv st → ∀ (v1 : Int32), ∃ (q1 q2 : Int32 × kM), fX5_status v1 st = some q1 ∧ fX6_status v1 q1.2 = some q2 ∧ q1.1 = q2.1 ∧ Iv q2.2
set_option maxRecDepth 100000 in
theorem lc_status {Z : kZ} (C : kC Z cL_law RL 4 room_1) {b L : Nat} {xs : Nat → Int32} (hX : kScr Z b L xs) (hL : L ≤ 3072) {Iv : kM → Prop} (hs : sp_status Iv) {i : Nat} (hi : i + 6 ≤ L) (hk : ∀ st : kM, Iv st → kV Z 4 1342 [(0, .ref b), (1, kr Z 0), (2, kr Z 59), (3, .int (nI i))] [] st) (st : kM) (hI : Iv st) : kV Z 4 1319 [(0, .ref b), (1, kr Z 0), (2, kr Z 59), (3, .int (nI i))] [] st := by
  obtain ⟨q1, q2, h1, h2, he, hI⟩ := hs st hI (xs (i + 1))
  refine k_aload_n C 1 dL_law_1319 rfl rfl rfl ?_
  refine k_aload_n C 0 dL_law_1320 rfl rfl rfl ?_
  refine k_iload_n C 3 dL_law_1321 rfl rfl rfl ?_
  refine k_iconst C (nI 1) dL_law_1322 (by decide) rfl ?_
  refine k_iadd C dL_law_1323 rfl ?_
  rw [nI_off]
  refine k_sld (j := i + 1) C hX (vp_in_nI (by omega) (by omega)) (nI_clamp (by omega)) dL_law_1324 rfl ?_
  refine k_callV C [.int (xs (i + 1))] (mX5_status h1) rfl (by decide) rfl kw_3_220 kw_3_221 kw_3_222 kw_1_1 kw_3_223 qX5_status rfl ⟨by decide, by decide⟩ ⟨rfl, rfl⟩ (Nat.le_of_ble_eq_true rfl) dL_law_1325 rfl ?_ rfl
  refine (show kV Z 4 1328 [(0, .ref b), (1, kr Z 0), (2, kr Z 59), (3, .int (nI i))] [.int q1.1] q1.2 from ?_)
  refine k_aload_n C 2 dL_law_1328 rfl rfl rfl ?_
  refine k_aload_n C 0 dL_law_1329 rfl rfl rfl ?_
  refine k_iload_n C 3 dL_law_1330 rfl rfl rfl ?_
  refine k_iconst C (nI 1) dL_law_1331 (by decide) rfl ?_
  refine k_iadd C dL_law_1332 rfl ?_
  rw [nI_off]
  refine k_sld (j := i + 1) C hX (vp_in_nI (by omega) (by omega)) (nI_clamp (by omega)) dL_law_1333 rfl ?_
  refine k_callV C [.int (xs (i + 1))] (mX6_status h2) rfl (by decide) rfl kw_5_182 kw_5_183 kw_5_184 kw_1_7 kw_5_185 qX6_status rfl ⟨by decide, by decide⟩ ⟨rfl, rfl⟩ (Nat.le_of_ble_eq_true rfl) dL_law_1334 rfl ?_ rfl
  refine (show kV Z 4 1337 [(0, .ref b), (1, kr Z 0), (2, kr Z 59), (3, .int (nI i))] [.int q2.1, .int q1.1] q2.2 from ?_)
  refine k_icmp_eq C 1342 dL_law_1337 rfl rfl (fun _ => hk q2.2 hI) (fun h => absurd he h)
set_option maxRecDepth 100000 in
set_option maxHeartbeats 4000000 in
theorem law_loop {Z : kZ} (C : kC Z cL_law RL 4 room_1) {b L : Nat} {xs : Nat → Int32} (hX : kScr Z b L xs) (hL : L ≤ 3072) {Iv : kM → Prop} (hs0 : sp_wind Iv) (hs1 : sp_weight Iv) (hs2 : sp_raise Iv) (hs3 : sp_mastOf Iv) (hs4 : sp_now Iv) (hs5 : sp_knot Iv) (hs6 : sp_of Iv) (hs7 : sp_set Iv) (hs8 : sp_turn Iv) (hs9 : sp_as Iv) (hs10 : sp_tease Iv) (hs11 : sp_tie Iv) (hs12 : sp_cast Iv) (hs13 : sp_hours Iv) (hs14 : sp_on Iv) (hs15 : sp_then Iv) (hs16 : sp_falls Iv) (hs17 : sp_gives Iv) (hs18 : sp_best Iv) (hs19 : sp_kind Iv) (hs20 : sp_open Iv) (hs21 : sp_bears Iv) (hs22 : sp_move Iv) (hs23 : sp_calm Iv) (hs24 : sp_firmest Iv) (hs25 : sp_feed Iv) (hs26 : sp_wipe Iv) (hs27 : sp_yard Iv) (hs28 : sp_sheet Iv) (hs29 : sp_write Iv) (hs30 : sp_copy Iv) (hs31 : sp_lays Iv) (hs32 : sp_book Iv) (hs33 : sp_read Iv) (hs34 : sp_image Iv) (hs35 : sp_undo Iv) (hs36 : sp_tear Iv) (hs37 : sp_count Iv) (hs38 : sp_status Iv) (hend : ∀ (lv : List (Nat × Value)) (st : kM), kV Z 4 1349 lv [.int 1] st) : ∀ (n i : Nat), L + 1 ≤ i + n → i ≤ L + 6 → ∀ (st : kM), Iv st → kV Z 4 18 [(0, .ref b), (1, kr Z 0), (2, kr Z 59), (3, .int (nI i))] [] st := by
  intro n
  induction n with
  | zero => intro i h1 h2 st hI; exact law_out C hX hL hend (by omega) (by omega)
  | succ n ih =>
    intro i h1 h2 st hI
    by_cases hlt : i + 6 ≤ L
    · have hk : ∀ st : kM, Iv st → kV Z 4 1342 [(0, .ref b), (1, kr Z 0), (2, kr Z 59), (3, .int (nI i))] [] st := by
        intro st hI
        refine k_iinc (lv' := [(3, .int (nI (i + 6))), (0, .ref b), (1, kr Z 0), (2, kr Z 59)]) C (nI (i + 6)) 3 dL_law_1342 rfl (by rw [← nI_add]; rfl) (by decide) rfl rfl ?_
        refine k_goto C 18 dL_law_1345 rfl ?_
        refine k_lv (lv' := [(0, .ref b), (1, kr Z 0), (2, kr Z 59), (3, .int (nI (i + 6)))]) [1, 2, 3, 0] rfl ?_
        exact ih (i + 6) (by omega) (by omega) st hI
      refine law_in C hX hL hlt ?_
      obtain ⟨t, ht, et⟩ := pk_andE (xs i) (m := 63) 6 (by decide)
      rw [et]
      by_cases h39 : t < 39
      · exact law_sw C ht h39 (fun _ => lc_wind C hX hL hs0 hlt hk st hI) (fun _ => lc_weight C hX hL hs1 hlt hk st hI) (fun _ => lc_raise C hX hL hs2 hlt hk st hI) (fun _ => lc_mastOf C hX hL hs3 hlt hk st hI) (fun _ => lc_now C hX hL hs4 hlt hk st hI) (fun _ => lc_knot C hX hL hs5 hlt hk st hI) (fun _ => lc_of C hX hL hs6 hlt hk st hI) (fun _ => lc_set C hX hL hs7 hlt hk st hI) (fun _ => lc_turn C hX hL hs8 hlt hk st hI) (fun _ => lc_as C hX hL hs9 hlt hk st hI) (fun _ => lc_tease C hX hL hs10 hlt hk st hI) (fun _ => lc_tie C hX hL hs11 hlt hk st hI) (fun _ => lc_cast C hX hL hs12 hlt hk st hI) (fun _ => lc_hours C hX hL hs13 hlt hk st hI) (fun _ => lc_on C hX hL hs14 hlt hk st hI) (fun _ => lc_then C hX hL hs15 hlt hk st hI) (fun _ => lc_falls C hX hL hs16 hlt hk st hI) (fun _ => lc_gives C hX hL hs17 hlt hk st hI) (fun _ => lc_best C hX hL hs18 hlt hk st hI) (fun _ => lc_kind C hX hL hs19 hlt hk st hI) (fun _ => lc_open C hX hL hs20 hlt hk st hI) (fun _ => lc_bears C hX hL hs21 hlt hk st hI) (fun _ => lc_move C hX hL hs22 hlt hk st hI) (fun _ => lc_calm C hX hL hs23 hlt hk st hI) (fun _ => lc_firmest C hX hL hs24 hlt hk st hI) (fun _ => lc_feed C hX hL hs25 hlt hk st hI) (fun _ => lc_wipe C hX hL hs26 hlt hk st hI) (fun _ => lc_yard C hX hL hs27 hlt hk st hI) (fun _ => lc_sheet C hX hL hs28 hlt hk st hI) (fun _ => lc_write C hX hL hs29 hlt hk st hI) (fun _ => lc_copy C hX hL hs30 hlt hk st hI) (fun _ => lc_lays C hX hL hs31 hlt hk st hI) (fun _ => lc_book C hX hL hs32 hlt hk st hI) (fun _ => lc_read C hX hL hs33 hlt hk st hI) (fun _ => lc_image C hX hL hs34 hlt hk st hI) (fun _ => lc_undo C hX hL hs35 hlt hk st hI) (fun _ => lc_tear C hX hL hs36 hlt hk st hI) (fun _ => lc_count C hX hL hs37 hlt hk st hI) (fun _ => lc_status C hX hL hs38 hlt hk st hI)
      · exact law_df C ht h39 (hk st hI)
    · exact law_out C hX hL hend (by omega) (by omega)
