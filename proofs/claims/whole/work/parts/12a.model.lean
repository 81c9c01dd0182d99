-- TalkKnotsModel.in(III)Z
def rmX6_in : Room := { frames := 0, cells := 0, slots := 0, locals := 0 }
def fX6_in (v0 : Int32) (v1 : Int32) (v2 : Int32) (st : kM) : Option (Int32 × kM) :=
  if v0 < v1 then (some ((0 : Int32), st)) else (if v2 < v0 then (some ((0 : Int32), st)) else (some ((1 : Int32), st)))
set_option maxRecDepth 100000 in
theorem tX6_in {Z : kZ} (C : kC Z cX6_in RX6 3 rmX6_in) {v0 : Int32} {v1 : Int32} {v2 : Int32}  {st : kM} {res : Int32 × kM} (hf : fX6_in v0 v1 v2 st = some res) (K : kEnd Z (some .boolean) (some (.int res.1)) res.2) : kV Z 3 0 [(0, .int v0), (1, .int v1), (2, .int v2)] [] st := by
  unfold fX6_in at hf
  refine k_iload_n C 0 dX6_in_0 rfl rfl rfl ?_
  refine k_iload_n C 1 dX6_in_1 rfl rfl rfl ?_
  refine k_icmp_lt C 14 dX6_in_2 rfl rfl (fun b1 => ?_) (fun b1 => ?_)
  · replace hf := kf_t hf b1
    refine k_iconst C (0 : Int32) dX6_in_14 (by decide) rfl ?_
    exact k_zret C K hf rfl dX6_in_15
  · replace hf := kf_f hf b1
    refine k_iload_n C 0 dX6_in_5 rfl rfl rfl ?_
    refine k_iload_n C 2 dX6_in_6 rfl rfl rfl ?_
    refine k_icmp_gt C 14 dX6_in_7 rfl rfl (fun b2 => ?_) (fun b2 => ?_)
    · replace hf := kf_t hf b2
      refine k_iconst C (0 : Int32) dX6_in_14 (by decide) rfl ?_
      exact k_zret C K hf rfl dX6_in_15
    · replace hf := kf_f hf b2
      refine k_iconst C (1 : Int32) dX6_in_10 (by decide) rfl ?_
      refine k_goto C 15 dX6_in_11 rfl ?_
      exact k_zret C K hf rfl dX6_in_15
theorem mX6_in {G : kG} {v0 : Int32} {v1 : Int32} {v2 : Int32}  {st : kM} {res : Int32 × kM} (hf : fX6_in v0 v1 v2 st = some res) : kCt G yX6_in cX6_in 3 (some .boolean) rmX6_in [.int v0, .int v1, .int v2] st (some (.int res.1)) res.2 := kMet (by decide) (Nat.le_of_ble_eq_true rfl) ⟨rfl, rfl⟩ (fun X A Q C K => tX6_in C  hf K)
theorem qX6_in : yX6_in.cls ≠ "java/lang/invoke/MethodHandle" ∧ yX6_in.cls ≠ "java/lang/invoke/VarHandle" ∧ (parseMethodDescriptor yX6_in.desc).map (fun d => d.parameters.length) = some 3 := ⟨by decide, by decide, by decide +kernel⟩
-- TalkKnotsModel.finds(I)I
def rmX6_finds : Room := { frames := 0, cells := 0, slots := 0, locals := 0 }
def fX6_finds (v1 : Int32) (st : kM) : Option (Int32 × kM) :=
  if ((-1000000001 : Int32) - v1) < 0 ∨ 7 ≤ ((-1000000001 : Int32) - v1).toNatClampNeg then none else ((some (kwr st 61 (((-1000000001 : Int32) - v1).toNatClampNeg) ((st.1 61 (((-1000000001 : Int32) - v1).toNatClampNeg)) + (1 : Int32)))).bind fun s2 => (some (v1, s2)))
set_option maxRecDepth 100000 in
theorem tX6_finds {Z : kZ} (C : kC Z cX6_finds RX6 2 rmX6_finds) {v1 : Int32}  {st : kM} {res : Int32 × kM} (hf : fX6_finds v1 st = some res) (K : kEnd Z (some .int) (some (.int res.1)) res.2) : kV Z 2 0 [(0, kr Z 59), (1, .int v1)] [] st := by
  unfold fX6_finds at hf
  refine k_aload_n C 0 dX6_finds_0 rfl rfl rfl ?_
  refine g_X6_found C rfl kw_3_239 dX6_finds_1 rfl ?_
  refine k_ldc C (-1000000001 : Int32) kw_4_67 dX6_finds_4 rfl ?_
  refine k_iload_n C 1 dX6_finds_6 rfl rfl rfl ?_
  refine k_isub C dX6_finds_7 rfl ?_
  refine k_dup2 C rfl rfl dX6_finds_8 rfl ?_
  obtain ⟨g1, hf⟩ := kf_g hf
  refine k_iald (j := ((-1000000001 : Int32) - v1).toNatClampNeg) C ⟨rfl, rfl⟩ g1 rfl dX6_finds_9 rfl ?_
  refine k_iconst C (1 : Int32) dX6_finds_10 (by decide) rfl ?_
  refine k_iadd C dX6_finds_11 rfl ?_
  refine k_iast (j := ((-1000000001 : Int32) - v1).toNatClampNeg) C ⟨rfl, rfl⟩ g1 rfl dX6_finds_12 rfl ?_
  obtain ⟨s2, e3, hf⟩ := kf_b hf
  refine k_st e3 ?_
  refine k_iload_n C 1 dX6_finds_13 rfl rfl rfl ?_
  exact k_iret C K hf dX6_finds_14
theorem mX6_finds {G : kG} {v1 : Int32}  {st : kM} {res : Int32 × kM} (hf : fX6_finds v1 st = some res) : kCt G yX6_finds cX6_finds 2 (some .int) rmX6_finds [.ref (G.2.1 59), .int v1] st (some (.int res.1)) res.2 := kMet (by decide) (Nat.le_of_ble_eq_true rfl) ⟨rfl, rfl⟩ (fun X A Q C K => tX6_finds C  hf K)
theorem qX6_finds : yX6_finds.cls = RX6 ∧ yX6_finds.cls ≠ "java/lang/invoke/MethodHandle" ∧ yX6_finds.cls ≠ "java/lang/invoke/VarHandle" ∧ (parseMethodDescriptor yX6_finds.desc).map (fun d => d.parameters.length) = some 1 := ⟨rfl, by decide, by decide, by decide +kernel⟩
-- TalkKnotsModel.held(III)I
def rmX6_held : Room := { frames := 0, cells := 0, slots := 0, locals := 0 }
def fX6_held (v0 : Int32) (v1 : Int32) (v2 : Int32) (st : kM) : Option (Int32 × kM) :=
  if v1 ≤ v0 then (if v0 ≤ v2 then (some (v0, st)) else (some (v2, st))) else (some (v1, st))
set_option maxRecDepth 100000 in
theorem tX6_held {Z : kZ} (C : kC Z cX6_held RX6 3 rmX6_held) {v0 : Int32} {v1 : Int32} {v2 : Int32}  {st : kM} {res : Int32 × kM} (hf : fX6_held v0 v1 v2 st = some res) (K : kEnd Z (some .int) (some (.int res.1)) res.2) : kV Z 3 0 [(0, .int v0), (1, .int v1), (2, .int v2)] [] st := by
  unfold fX6_held at hf
  refine k_iload_n C 0 dX6_held_0 rfl rfl rfl ?_
  refine k_iload_n C 1 dX6_held_1 rfl rfl rfl ?_
  refine k_icmp_ge C 9 dX6_held_2 rfl rfl (fun b1 => ?_) (fun b1 => ?_)
  · replace hf := kf_t hf b1
    refine k_iload_n C 0 dX6_held_9 rfl rfl rfl ?_
    refine k_iload_n C 2 dX6_held_10 rfl rfl rfl ?_
    refine k_icmp_le C 18 dX6_held_11 rfl rfl (fun b2 => ?_) (fun b2 => ?_)
    · replace hf := kf_t hf b2
      refine k_iload_n C 0 dX6_held_18 rfl rfl rfl ?_
      exact k_iret C K hf dX6_held_19
    · replace hf := kf_f hf b2
      refine k_iload_n C 2 dX6_held_14 rfl rfl rfl ?_
      refine k_goto C 19 dX6_held_15 rfl ?_
      exact k_iret C K hf dX6_held_19
  · replace hf := kf_f hf b1
    refine k_iload_n C 1 dX6_held_5 rfl rfl rfl ?_
    refine k_goto C 19 dX6_held_6 rfl ?_
    exact k_iret C K hf dX6_held_19
theorem mX6_held {G : kG} {v0 : Int32} {v1 : Int32} {v2 : Int32}  {st : kM} {res : Int32 × kM} (hf : fX6_held v0 v1 v2 st = some res) : kCt G yX6_held cX6_held 3 (some .int) rmX6_held [.int v0, .int v1, .int v2] st (some (.int res.1)) res.2 := kMet (by decide) (Nat.le_of_ble_eq_true rfl) ⟨rfl, rfl⟩ (fun X A Q C K => tX6_held C  hf K)
theorem qX6_held : yX6_held.cls ≠ "java/lang/invoke/MethodHandle" ∧ yX6_held.cls ≠ "java/lang/invoke/VarHandle" ∧ (parseMethodDescriptor yX6_held.desc).map (fun d => d.parameters.length) = some 3 := ⟨by decide, by decide, by decide +kernel⟩
-- TalkKnotsModel.its(II)I
def rmX6_its : Room := { frames := 0, cells := 0, slots := 0, locals := 0 }
def fX6_its (v1 : Int32) (v2 : Int32) (st : kM) : Option (Int32 × kM) :=
  if (((22 : Int32) + ((5 : Int32) * v1)) + v2) < 0 ∨ 72 ≤ (((22 : Int32) + ((5 : Int32) * v1)) + v2).toNatClampNeg then none else (some ((st.1 60 ((((22 : Int32) + ((5 : Int32) * v1)) + v2).toNatClampNeg)), st))
set_option maxRecDepth 100000 in
theorem tX6_its {Z : kZ} (C : kC Z cX6_its RX6 3 rmX6_its) {v1 : Int32} {v2 : Int32}  {st : kM} {res : Int32 × kM} (hf : fX6_its v1 v2 st = some res) (K : kEnd Z (some .int) (some (.int res.1)) res.2) : kV Z 3 0 [(0, kr Z 59), (1, .int v1), (2, .int v2)] [] st := by
  unfold fX6_its at hf
  refine k_aload_n C 0 dX6_its_0 rfl rfl rfl ?_
  refine g_X6_row C rfl kw_3_238 dX6_its_1 rfl ?_
  refine k_bipush C (22 : Int32) dX6_its_4 (by decide) rfl ?_
  refine k_iconst C (5 : Int32) dX6_its_6 (by decide) rfl ?_
  refine k_iload_n C 1 dX6_its_7 rfl rfl rfl ?_
  refine k_imul C dX6_its_8 rfl ?_
  refine k_iadd C dX6_its_9 rfl ?_
  refine k_iload_n C 2 dX6_its_10 rfl rfl rfl ?_
  refine k_iadd C dX6_its_11 rfl ?_
  obtain ⟨g1, hf⟩ := kf_g hf
  refine k_iald (j := (((22 : Int32) + ((5 : Int32) * v1)) + v2).toNatClampNeg) C ⟨rfl, rfl⟩ g1 rfl dX6_its_12 rfl ?_
  exact k_iret C K hf dX6_its_13
theorem mX6_its {G : kG} {v1 : Int32} {v2 : Int32}  {st : kM} {res : Int32 × kM} (hf : fX6_its v1 v2 st = some res) : kCt G yX6_its cX6_its 3 (some .int) rmX6_its [.ref (G.2.1 59), .int v1, .int v2] st (some (.int res.1)) res.2 := kMet (by decide) (Nat.le_of_ble_eq_true rfl) ⟨rfl, rfl⟩ (fun X A Q C K => tX6_its C  hf K)
theorem qX6_its : yX6_its.cls = RX6 ∧ yX6_its.cls ≠ "java/lang/invoke/MethodHandle" ∧ yX6_its.cls ≠ "java/lang/invoke/VarHandle" ∧ (parseMethodDescriptor yX6_its.desc).map (fun d => d.parameters.length) = some 2 := ⟨rfl, by decide, by decide, by decide +kernel⟩
-- TalkKnotsModel.puts(III)V
def rmX6_puts : Room := { frames := 0, cells := 0, slots := 0, locals := 0 }
def fX6_puts (v1 : Int32) (v2 : Int32) (v3 : Int32) (st : kM) : Option (kM) :=
  if (((22 : Int32) + ((5 : Int32) * v1)) + v2) < 0 ∨ 72 ≤ (((22 : Int32) + ((5 : Int32) * v1)) + v2).toNatClampNeg then none else ((some (kwr st 60 ((((22 : Int32) + ((5 : Int32) * v1)) + v2).toNatClampNeg) v3)).bind fun s2 => (some s2))
set_option maxRecDepth 100000 in
theorem tX6_puts {Z : kZ} (C : kC Z cX6_puts RX6 4 rmX6_puts) {v1 : Int32} {v2 : Int32} {v3 : Int32}  {st : kM} {res : kM} (hf : fX6_puts v1 v2 v3 st = some res) (K : kEnd Z none none res) : kV Z 4 0 [(0, kr Z 59), (1, .int v1), (2, .int v2), (3, .int v3)] [] st := by
  unfold fX6_puts at hf
  refine k_aload_n C 0 dX6_puts_0 rfl rfl rfl ?_
  refine g_X6_row C rfl kw_3_238 dX6_puts_1 rfl ?_
  refine k_bipush C (22 : Int32) dX6_puts_4 (by decide) rfl ?_
  refine k_iconst C (5 : Int32) dX6_puts_6 (by decide) rfl ?_
  refine k_iload_n C 1 dX6_puts_7 rfl rfl rfl ?_
  refine k_imul C dX6_puts_8 rfl ?_
  refine k_iadd C dX6_puts_9 rfl ?_
  refine k_iload_n C 2 dX6_puts_10 rfl rfl rfl ?_
  refine k_iadd C dX6_puts_11 rfl ?_
  refine k_iload_n C 3 dX6_puts_12 rfl rfl rfl ?_
  obtain ⟨g1, hf⟩ := kf_g hf
  refine k_iast (j := (((22 : Int32) + ((5 : Int32) * v1)) + v2).toNatClampNeg) C ⟨rfl, rfl⟩ g1 rfl dX6_puts_13 rfl ?_
  obtain ⟨s2, e3, hf⟩ := kf_b hf
  refine k_st e3 ?_
  exact k_vret C K hf dX6_puts_14
theorem mX6_puts {G : kG} {v1 : Int32} {v2 : Int32} {v3 : Int32}  {st : kM} {res : kM} (hf : fX6_puts v1 v2 v3 st = some res) : kCt G yX6_puts cX6_puts 4 none rmX6_puts [.ref (G.2.1 59), .int v1, .int v2, .int v3] st none res := kMet (by decide) (Nat.le_of_ble_eq_true rfl) ⟨rfl, rfl⟩ (fun X A Q C K => tX6_puts C  hf K)
theorem qX6_puts : yX6_puts.cls = RX6 ∧ yX6_puts.cls ≠ "java/lang/invoke/MethodHandle" ∧ yX6_puts.cls ≠ "java/lang/invoke/VarHandle" ∧ (parseMethodDescriptor yX6_puts.desc).map (fun d => d.parameters.length) = some 3 := ⟨rfl, by decide, by decide, by decide +kernel⟩
-- TalkKnotsModel.ofMast(II)I
def rmX6_ofMast : Room := { frames := 0, cells := 0, slots := 0, locals := 0 }
def fX6_ofMast (v1 : Int32) (v2 : Int32) (st : kM) : Option (Int32 × kM) :=
  if (((14 : Int32) + ((2 : Int32) * v1)) + v2) < 0 ∨ 72 ≤ (((14 : Int32) + ((2 : Int32) * v1)) + v2).toNatClampNeg then none else (some ((st.1 60 ((((14 : Int32) + ((2 : Int32) * v1)) + v2).toNatClampNeg)), st))
set_option maxRecDepth 100000 in
theorem tX6_ofMast {Z : kZ} (C : kC Z cX6_ofMast RX6 3 rmX6_ofMast) {v1 : Int32} {v2 : Int32}  {st : kM} {res : Int32 × kM} (hf : fX6_ofMast v1 v2 st = some res) (K : kEnd Z (some .int) (some (.int res.1)) res.2) : kV Z 3 0 [(0, kr Z 59), (1, .int v1), (2, .int v2)] [] st := by
  unfold fX6_ofMast at hf
  refine k_aload_n C 0 dX6_ofMast_0 rfl rfl rfl ?_
  refine g_X6_row C rfl kw_3_238 dX6_ofMast_1 rfl ?_
  refine k_bipush C (14 : Int32) dX6_ofMast_4 (by decide) rfl ?_
  refine k_iconst C (2 : Int32) dX6_ofMast_6 (by decide) rfl ?_
  refine k_iload_n C 1 dX6_ofMast_7 rfl rfl rfl ?_
  refine k_imul C dX6_ofMast_8 rfl ?_
  refine k_iadd C dX6_ofMast_9 rfl ?_
  refine k_iload_n C 2 dX6_ofMast_10 rfl rfl rfl ?_
  refine k_iadd C dX6_ofMast_11 rfl ?_
  obtain ⟨g1, hf⟩ := kf_g hf
  refine k_iald (j := (((14 : Int32) + ((2 : Int32) * v1)) + v2).toNatClampNeg) C ⟨rfl, rfl⟩ g1 rfl dX6_ofMast_12 rfl ?_
  exact k_iret C K hf dX6_ofMast_13
theorem mX6_ofMast {G : kG} {v1 : Int32} {v2 : Int32}  {st : kM} {res : Int32 × kM} (hf : fX6_ofMast v1 v2 st = some res) : kCt G yX6_ofMast cX6_ofMast 3 (some .int) rmX6_ofMast [.ref (G.2.1 59), .int v1, .int v2] st (some (.int res.1)) res.2 := kMet (by decide) (Nat.le_of_ble_eq_true rfl) ⟨rfl, rfl⟩ (fun X A Q C K => tX6_ofMast C  hf K)
theorem qX6_ofMast : yX6_ofMast.cls = RX6 ∧ yX6_ofMast.cls ≠ "java/lang/invoke/MethodHandle" ∧ yX6_ofMast.cls ≠ "java/lang/invoke/VarHandle" ∧ (parseMethodDescriptor yX6_ofMast.desc).map (fun d => d.parameters.length) = some 2 := ⟨rfl, by decide, by decide, by decide +kernel⟩
-- TalkKnotsModel.puts1(III)V
def rmX6_puts1 : Room := { frames := 0, cells := 0, slots := 0, locals := 0 }
def fX6_puts1 (v1 : Int32) (v2 : Int32) (v3 : Int32) (st : kM) : Option (kM) :=
  if (((14 : Int32) + ((2 : Int32) * v1)) + v2) < 0 ∨ 72 ≤ (((14 : Int32) + ((2 : Int32) * v1)) + v2).toNatClampNeg then none else ((some (kwr st 60 ((((14 : Int32) + ((2 : Int32) * v1)) + v2).toNatClampNeg) v3)).bind fun s2 => (some s2))
set_option maxRecDepth 100000 in
theorem tX6_puts1 {Z : kZ} (C : kC Z cX6_puts1 RX6 4 rmX6_puts1) {v1 : Int32} {v2 : Int32} {v3 : Int32}  {st : kM} {res : kM} (hf : fX6_puts1 v1 v2 v3 st = some res) (K : kEnd Z none none res) : kV Z 4 0 [(0, kr Z 59), (1, .int v1), (2, .int v2), (3, .int v3)] [] st := by
  unfold fX6_puts1 at hf
  refine k_aload_n C 0 dX6_puts1_0 rfl rfl rfl ?_
  refine g_X6_row C rfl kw_3_238 dX6_puts1_1 rfl ?_
  refine k_bipush C (14 : Int32) dX6_puts1_4 (by decide) rfl ?_
  refine k_iconst C (2 : Int32) dX6_puts1_6 (by decide) rfl ?_
  refine k_iload_n C 1 dX6_puts1_7 rfl rfl rfl ?_
  refine k_imul C dX6_puts1_8 rfl ?_
  refine k_iadd C dX6_puts1_9 rfl ?_
  refine k_iload_n C 2 dX6_puts1_10 rfl rfl rfl ?_
  refine k_iadd C dX6_puts1_11 rfl ?_
  refine k_iload_n C 3 dX6_puts1_12 rfl rfl rfl ?_
  obtain ⟨g1, hf⟩ := kf_g hf
  refine k_iast (j := (((14 : Int32) + ((2 : Int32) * v1)) + v2).toNatClampNeg) C ⟨rfl, rfl⟩ g1 rfl dX6_puts1_13 rfl ?_
  obtain ⟨s2, e3, hf⟩ := kf_b hf
  refine k_st e3 ?_
  exact k_vret C K hf dX6_puts1_14
theorem mX6_puts1 {G : kG} {v1 : Int32} {v2 : Int32} {v3 : Int32}  {st : kM} {res : kM} (hf : fX6_puts1 v1 v2 v3 st = some res) : kCt G yX6_puts1 cX6_puts1 4 none rmX6_puts1 [.ref (G.2.1 59), .int v1, .int v2, .int v3] st none res := kMet (by decide) (Nat.le_of_ble_eq_true rfl) ⟨rfl, rfl⟩ (fun X A Q C K => tX6_puts1 C  hf K)
theorem qX6_puts1 : yX6_puts1.cls = RX6 ∧ yX6_puts1.cls ≠ "java/lang/invoke/MethodHandle" ∧ yX6_puts1.cls ≠ "java/lang/invoke/VarHandle" ∧ (parseMethodDescriptor yX6_puts1.desc).map (fun d => d.parameters.length) = some 3 := ⟨rfl, by decide, by decide, by decide +kernel⟩
-- TalkKnotsModel.becomes(II)I
def rmX6_becomes : Room := { frames := 0, cells := 0, slots := 0, locals := 0 }
def fX6_becomes (v1 : Int32) (v2 : Int32) (st : kM) : Option (Int32 × kM) :=
  if v1 < 0 ∨ 72 ≤ v1.toNatClampNeg then none else ((some (st.1 60 v1.toNatClampNeg)).bind fun z2 => ((some (kwr st 60 v1.toNatClampNeg v2)).bind fun s4 => (some (z2, s4))))
set_option maxRecDepth 100000 in
theorem tX6_becomes {Z : kZ} (C : kC Z cX6_becomes RX6 4 rmX6_becomes) {v1 : Int32} {v2 : Int32}  {st : kM} {res : Int32 × kM} (hf : fX6_becomes v1 v2 st = some res) (K : kEnd Z (some .int) (some (.int res.1)) res.2) : kV Z 4 0 [(0, kr Z 59), (1, .int v1), (2, .int v2)] [] st := by
  unfold fX6_becomes at hf
  refine k_aload_n C 0 dX6_becomes_0 rfl rfl rfl ?_
  refine g_X6_row C rfl kw_3_238 dX6_becomes_1 rfl ?_
  refine k_iload_n C 1 dX6_becomes_4 rfl rfl rfl ?_
  obtain ⟨g1, hf⟩ := kf_g hf
  refine k_iald (j := v1.toNatClampNeg) C ⟨rfl, rfl⟩ g1 rfl dX6_becomes_5 rfl ?_
  obtain ⟨z2, e3, hf⟩ := kf_b hf
  refine k_topi e3 ?_
  refine k_istore_n (lv' := [(3, .int z2), (0, kr Z 59), (1, .int v1), (2, .int v2)]) C dX6_becomes_6 rfl (by decide) rfl rfl ?_
  refine k_aload_n C 1 dX6_becomes_7 rfl rfl rfl ?_
  refine g_X6_row C rfl kw_3_238 dX6_becomes_8 rfl ?_
  refine k_iload_n C 2 dX6_becomes_11 rfl rfl rfl ?_
  refine k_iload_n C 3 dX6_becomes_12 rfl rfl rfl ?_
  refine k_iast (j := v1.toNatClampNeg) C ⟨rfl, rfl⟩ g1 rfl dX6_becomes_13 rfl ?_
  obtain ⟨s4, e5, hf⟩ := kf_b hf
  refine k_st e5 ?_
  refine k_iload_n C 0 dX6_becomes_14 rfl rfl rfl ?_
  exact k_iret C K hf dX6_becomes_15
theorem mX6_becomes {G : kG} {v1 : Int32} {v2 : Int32}  {st : kM} {res : Int32 × kM} (hf : fX6_becomes v1 v2 st = some res) : kCt G yX6_becomes cX6_becomes 4 (some .int) rmX6_becomes [.ref (G.2.1 59), .int v1, .int v2] st (some (.int res.1)) res.2 := kMet (by decide) (Nat.le_of_ble_eq_true rfl) ⟨rfl, rfl⟩ (fun X A Q C K => tX6_becomes C  hf K)
theorem qX6_becomes : yX6_becomes.cls = RX6 ∧ yX6_becomes.cls ≠ "java/lang/invoke/MethodHandle" ∧ yX6_becomes.cls ≠ "java/lang/invoke/VarHandle" ∧ (parseMethodDescriptor yX6_becomes.desc).map (fun d => d.parameters.length) = some 2 := ⟨rfl, by decide, by decide, by decide +kernel⟩
-- TalkKnotsModel.isOne(I)Z
def rmX6_isOne : Room := { frames := 1, cells := 0, slots := 0, locals := 22 }
def fX6_isOne (v1 : Int32) (st : kM) : Option (Int32 × kM) :=
  (fX6_in v1 (0 : Int32) ((st.1 60 1) - (1 : Int32)) st).bind fun q1 => (if q1.1 = 0 ∨ q1.1 = 1 then some (q1.1, q1.2) else none)
set_option maxRecDepth 100000 in
theorem tX6_isOne {Z : kZ} (C : kC Z cX6_isOne RX6 2 rmX6_isOne) {v1 : Int32}  {st : kM} {res : Int32 × kM} (hf : fX6_isOne v1 st = some res) (K : kEnd Z (some .boolean) (some (.int res.1)) res.2) : kV Z 2 0 [(0, kr Z 59), (1, .int v1)] [] st := by
  unfold fX6_isOne at hf
  refine k_iload_n C 1 dX6_isOne_0 rfl rfl rfl ?_
  refine k_iconst C (0 : Int32) dX6_isOne_1 (by decide) rfl ?_
  refine k_aload_n C 0 dX6_isOne_2 rfl rfl rfl ?_
  refine g_X6_row C rfl kw_3_238 dX6_isOne_3 rfl ?_
  refine k_iconst C (1 : Int32) dX6_isOne_6 (by decide) rfl ?_
  refine k_iald (j := 1) C ⟨rfl, rfl⟩ (by decide) rfl dX6_isOne_7 rfl ?_
  refine k_iconst C (1 : Int32) dX6_isOne_8 (by decide) rfl ?_
  refine k_isub C dX6_isOne_9 rfl ?_
  obtain ⟨q1, e2, hf⟩ := kf_b hf
  refine k_callS C [.int v1, .int (0 : Int32), .int ((st.1 60 1) - (1 : Int32))] (mX6_in e2) kw_4_60 kw_4_61 kw_1_7 kw_4_62 qX6_in rfl ⟨by decide, by decide⟩ ⟨rfl, rfl⟩ (Nat.le_of_ble_eq_true rfl) dX6_isOne_10 rfl ?_ rfl
  refine (show kV Z 2 13 [(0, kr Z 59), (1, .int v1)] [.int q1.1] q1.2 from ?_)
  obtain ⟨g0, hf⟩ := kf_y hf
  exact k_zret C K hf (kb_n g0) dX6_isOne_13
theorem mX6_isOne {G : kG} {v1 : Int32}  {st : kM} {res : Int32 × kM} (hf : fX6_isOne v1 st = some res) : kCt G yX6_isOne cX6_isOne 2 (some .boolean) rmX6_isOne [.ref (G.2.1 59), .int v1] st (some (.int res.1)) res.2 := kMet (by decide) (Nat.le_of_ble_eq_true rfl) ⟨rfl, rfl⟩ (fun X A Q C K => tX6_isOne C  hf K)
theorem qX6_isOne : yX6_isOne.cls = RX6 ∧ yX6_isOne.cls ≠ "java/lang/invoke/MethodHandle" ∧ yX6_isOne.cls ≠ "java/lang/invoke/VarHandle" ∧ (parseMethodDescriptor yX6_isOne.desc).map (fun d => d.parameters.length) = some 1 := ⟨rfl, by decide, by decide, by decide +kernel⟩
-- TalkKnotsModel.isKind(I)Z
def rmX6_isKind : Room := { frames := 1, cells := 0, slots := 0, locals := 22 }
def fX6_isKind (v0 : Int32) (st : kM) : Option (Int32 × kM) :=
  (fX6_in v0 (0 : Int32) (5 : Int32) st).bind fun q1 => (if q1.1 = 0 ∨ q1.1 = 1 then some (q1.1, q1.2) else none)
set_option maxRecDepth 100000 in
theorem tX6_isKind {Z : kZ} (C : kC Z cX6_isKind RX6 1 rmX6_isKind) {v0 : Int32}  {st : kM} {res : Int32 × kM} (hf : fX6_isKind v0 st = some res) (K : kEnd Z (some .boolean) (some (.int res.1)) res.2) : kV Z 1 0 [(0, .int v0)] [] st := by
  unfold fX6_isKind at hf
  refine k_iload_n C 0 dX6_isKind_0 rfl rfl rfl ?_
  refine k_iconst C (0 : Int32) dX6_isKind_1 (by decide) rfl ?_
  refine k_iconst C (5 : Int32) dX6_isKind_2 (by decide) rfl ?_
  obtain ⟨q1, e2, hf⟩ := kf_b hf
  refine k_callS C [.int v0, .int (0 : Int32), .int (5 : Int32)] (mX6_in e2) kw_4_60 kw_4_61 kw_1_7 kw_4_62 qX6_in rfl ⟨by decide, by decide⟩ ⟨rfl, rfl⟩ (Nat.le_of_ble_eq_true rfl) dX6_isKind_3 rfl ?_ rfl
  refine (show kV Z 1 6 [(0, .int v0)] [.int q1.1] q1.2 from ?_)
  obtain ⟨g0, hf⟩ := kf_y hf
  exact k_zret C K hf (kb_n g0) dX6_isKind_6
theorem mX6_isKind {G : kG} {v0 : Int32}  {st : kM} {res : Int32 × kM} (hf : fX6_isKind v0 st = some res) : kCt G yX6_isKind cX6_isKind 1 (some .boolean) rmX6_isKind [.int v0] st (some (.int res.1)) res.2 := kMet (by decide) (Nat.le_of_ble_eq_true rfl) ⟨rfl, rfl⟩ (fun X A Q C K => tX6_isKind C  hf K)
theorem qX6_isKind : yX6_isKind.cls ≠ "java/lang/invoke/MethodHandle" ∧ yX6_isKind.cls ≠ "java/lang/invoke/VarHandle" ∧ (parseMethodDescriptor yX6_isKind.desc).map (fun d => d.parameters.length) = some 1 := ⟨by decide, by decide, by decide +kernel⟩
-- TalkKnotsModel.isMast(I)Z
def rmX6_isMast : Room := { frames := 1, cells := 0, slots := 0, locals := 22 }
def fX6_isMast (v0 : Int32) (st : kM) : Option (Int32 × kM) :=
  (fX6_in v0 (0 : Int32) (3 : Int32) st).bind fun q1 => (if q1.1 = 0 ∨ q1.1 = 1 then some (q1.1, q1.2) else none)
set_option maxRecDepth 100000 in
theorem tX6_isMast {Z : kZ} (C : kC Z cX6_isMast RX6 1 rmX6_isMast) {v0 : Int32}  {st : kM} {res : Int32 × kM} (hf : fX6_isMast v0 st = some res) (K : kEnd Z (some .boolean) (some (.int res.1)) res.2) : kV Z 1 0 [(0, .int v0)] [] st := by
  unfold fX6_isMast at hf
  refine k_iload_n C 0 dX6_isMast_0 rfl rfl rfl ?_
  refine k_iconst C (0 : Int32) dX6_isMast_1 (by decide) rfl ?_
  refine k_iconst C (3 : Int32) dX6_isMast_2 (by decide) rfl ?_
  obtain ⟨q1, e2, hf⟩ := kf_b hf
  refine k_callS C [.int v0, .int (0 : Int32), .int (3 : Int32)] (mX6_in e2) kw_4_60 kw_4_61 kw_1_7 kw_4_62 qX6_in rfl ⟨by decide, by decide⟩ ⟨rfl, rfl⟩ (Nat.le_of_ble_eq_true rfl) dX6_isMast_3 rfl ?_ rfl
  refine (show kV Z 1 6 [(0, .int v0)] [.int q1.1] q1.2 from ?_)
  obtain ⟨g0, hf⟩ := kf_y hf
  exact k_zret C K hf (kb_n g0) dX6_isMast_6
theorem mX6_isMast {G : kG} {v0 : Int32}  {st : kM} {res : Int32 × kM} (hf : fX6_isMast v0 st = some res) : kCt G yX6_isMast cX6_isMast 1 (some .boolean) rmX6_isMast [.int v0] st (some (.int res.1)) res.2 := kMet (by decide) (Nat.le_of_ble_eq_true rfl) ⟨rfl, rfl⟩ (fun X A Q C K => tX6_isMast C  hf K)
theorem qX6_isMast : yX6_isMast.cls ≠ "java/lang/invoke/MethodHandle" ∧ yX6_isMast.cls ≠ "java/lang/invoke/VarHandle" ∧ (parseMethodDescriptor yX6_isMast.desc).map (fun d => d.parameters.length) = some 1 := ⟨by decide, by decide, by decide +kernel⟩
-- TalkKnotsModel.bits(I)I
def rmX6_bits : Room := { frames := 0, cells := 0, slots := 0, locals := 0 }
def fX6_bits_4 : Nat → Int32 → Int32 → kM → Option (Int32 × kM)
  | 0, _, _, _ => none
  | n + 1, x1, x2, st =>
    if x2 = 0 then (some (x1, st)) else ((some (x2 &&& (x2 - (1 : Int32)))).bind fun z2 => (fX6_bits_4 n (x1 + (1 : Int32)) z2 st))
def fX6_bits (v0 : Int32) (st : kM) : Option (Int32 × kM) :=
  fX6_bits_4 kfu (0 : Int32) v0 st
set_option maxRecDepth 100000 in
theorem tX6_bits_4 {Z : kZ} (C : kC Z cX6_bits RX6 3 rmX6_bits) {res : Int32 × kM} (K : kEnd Z (some .int) (some (.int res.1)) res.2) : ∀ (n : Nat) (x1 : Int32) (x2 : Int32) (st : kM), fX6_bits_4 n x1 x2 st = some res → kV Z 3 4 [(1, .int x1), (2, .int x2)] [] st := by
  intro n
  induction n with
  | zero => intro x1 x2 st hf; cases hf
  | succ n ih =>
    intro x1 x2 st hf
    unfold fX6_bits_4 at hf
    refine k_iload_n C 1 dX6_bits_4 rfl rfl rfl ?_
    refine k_if_eq C 20 dX6_bits_5 rfl rfl (fun b1 => ?_) (fun b1 => ?_)
    · replace hf := kf_t hf b1
      refine k_iload_n C 0 dX6_bits_20 rfl rfl rfl ?_
      exact k_iret C K hf dX6_bits_21
    · replace hf := kf_f hf b1
      refine k_iinc (lv' := [(1, .int (x1 + (1 : Int32))), (2, .int x2)]) C (x1 + (1 : Int32)) 0 dX6_bits_8 rfl rfl (by decide) rfl rfl ?_
      refine k_iload_n C 1 dX6_bits_11 rfl rfl rfl ?_
      refine k_iload_n C 1 dX6_bits_12 rfl rfl rfl ?_
      refine k_iconst C (1 : Int32) dX6_bits_13 (by decide) rfl ?_
      refine k_isub C dX6_bits_14 rfl ?_
      refine k_iand C dX6_bits_15 rfl ?_
      obtain ⟨z2, e3, hf⟩ := kf_b hf
      refine k_topi e3 ?_
      refine k_istore_n (lv' := [(2, .int z2), (1, .int (x1 + (1 : Int32)))]) C dX6_bits_16 rfl (by decide) rfl rfl ?_
      refine k_goto C 4 dX6_bits_17 rfl ?_
      refine k_lv (lv' := [(1, .int (x1 + (1 : Int32))), (2, .int z2)]) [1, 0] rfl ?_
      exact ih (x1 + (1 : Int32)) z2 st  hf
set_option maxRecDepth 100000 in
theorem tX6_bits {Z : kZ} (C : kC Z cX6_bits RX6 3 rmX6_bits) {v0 : Int32}  {st : kM} {res : Int32 × kM} (hf : fX6_bits v0 st = some res) (K : kEnd Z (some .int) (some (.int res.1)) res.2) : kV Z 3 0 [(0, .int v0)] [] st := by
  unfold fX6_bits at hf
  refine k_iconst C (0 : Int32) dX6_bits_0 (by decide) rfl ?_
  refine k_istore_n (lv' := [(1, .int (0 : Int32)), (0, .int v0)]) C dX6_bits_1 rfl (by decide) rfl rfl ?_
  refine k_iload_n C 1 dX6_bits_2 rfl rfl rfl ?_
  refine k_istore_n (lv' := [(2, .int v0), (1, .int (0 : Int32)), (0, .int v0)]) C dX6_bits_3 rfl (by decide) rfl rfl ?_
  refine k_lv (lv' := [(1, .int (0 : Int32)), (2, .int v0)]) [1, 0] rfl ?_
  exact tX6_bits_4 C K _ (0 : Int32) v0 st hf
theorem mX6_bits {G : kG} {v0 : Int32}  {st : kM} {res : Int32 × kM} (hf : fX6_bits v0 st = some res) : kCt G yX6_bits cX6_bits 3 (some .int) rmX6_bits [.int v0] st (some (.int res.1)) res.2 := kMet (by decide) (Nat.le_of_ble_eq_true rfl) ⟨rfl, rfl⟩ (fun X A Q C K => tX6_bits C  hf K)
theorem qX6_bits : yX6_bits.cls ≠ "java/lang/invoke/MethodHandle" ∧ yX6_bits.cls ≠ "java/lang/invoke/VarHandle" ∧ (parseMethodDescriptor yX6_bits.desc).map (fun d => d.parameters.length) = some 1 := ⟨by decide, by decide, by decide +kernel⟩
-- TalkKnotsModel.blowing()I
def rmX6_blowing : Room := { frames := 0, cells := 0, slots := 0, locals := 0 }
def fX6_blowing (st : kM) : Option (Int32 × kM) :=
  if ((2 : Int32) + ((st.1 60 0) - (st.1 60 0) / (12 : Int32) * (12 : Int32))) < 0 ∨ 72 ≤ ((2 : Int32) + ((st.1 60 0) - (st.1 60 0) / (12 : Int32) * (12 : Int32))).toNatClampNeg then none else (some ((st.1 60 (((2 : Int32) + ((st.1 60 0) - (st.1 60 0) / (12 : Int32) * (12 : Int32))).toNatClampNeg)), st))
set_option maxRecDepth 100000 in
theorem tX6_blowing {Z : kZ} (C : kC Z cX6_blowing RX6 1 rmX6_blowing)   {st : kM} {res : Int32 × kM} (hf : fX6_blowing st = some res) (K : kEnd Z (some .int) (some (.int res.1)) res.2) : kV Z 1 0 [(0, kr Z 59)] [] st := by
  unfold fX6_blowing at hf
  refine k_aload_n C 0 dX6_blowing_0 rfl rfl rfl ?_
  refine g_X6_row C rfl kw_3_238 dX6_blowing_1 rfl ?_
  refine k_iconst C (2 : Int32) dX6_blowing_4 (by decide) rfl ?_
  refine k_aload_n C 0 dX6_blowing_5 rfl rfl rfl ?_
  refine g_X6_row C rfl kw_3_238 dX6_blowing_6 rfl ?_
  refine k_iconst C (0 : Int32) dX6_blowing_9 (by decide) rfl ?_
  refine k_iald (j := 0) C ⟨rfl, rfl⟩ (by decide) rfl dX6_blowing_10 rfl ?_
  refine k_bipush C (12 : Int32) dX6_blowing_11 (by decide) rfl ?_
  refine k_irem C (by decide) dX6_blowing_13 rfl ?_
  refine k_iadd C dX6_blowing_14 rfl ?_
  obtain ⟨g1, hf⟩ := kf_g hf
  refine k_iald (j := ((2 : Int32) + ((st.1 60 0) - (st.1 60 0) / (12 : Int32) * (12 : Int32))).toNatClampNeg) C ⟨rfl, rfl⟩ g1 rfl dX6_blowing_15 rfl ?_
  exact k_iret C K hf dX6_blowing_16
theorem mX6_blowing {G : kG}   {st : kM} {res : Int32 × kM} (hf : fX6_blowing st = some res) : kCt G yX6_blowing cX6_blowing 1 (some .int) rmX6_blowing [.ref (G.2.1 59)] st (some (.int res.1)) res.2 := kMet (by decide) (Nat.le_of_ble_eq_true rfl) ⟨rfl, rfl⟩ (fun X A Q C K => tX6_blowing C  hf K)
theorem qX6_blowing : yX6_blowing.cls = RX6 ∧ yX6_blowing.cls ≠ "java/lang/invoke/MethodHandle" ∧ yX6_blowing.cls ≠ "java/lang/invoke/VarHandle" ∧ (parseMethodDescriptor yX6_blowing.desc).map (fun d => d.parameters.length) = some 0 := ⟨rfl, by decide, by decide, by decide +kernel⟩
-- TalkKnotsModel.knotsOf(IZ)I
def rmX6_knotsOf : Room := { frames := 1, cells := 0, slots := 0, locals := 22 }
def fX6_knotsOf_5 : Nat → Int32 → Int32 → Int32 → Int32 → kM → Option (Int32 × kM)
  | 0, _, _, _, _, _ => none
  | n + 1, x1, x2, x3, x4, st =>
    if (st.1 60 1) ≤ x4 then (some (x3, st)) else ((fX6_its x4 (1 : Int32) st).bind fun q2 => (if q2.1 = x1 then (if x2 = 0 then ((some (x3 ||| ((1 : Int32) <<< (x4 &&& 31)))).bind fun z8 => (fX6_knotsOf_5 n x1 x2 z8 (x4 + (1 : Int32)) q2.2)) else ((fX6_its x4 (3 : Int32) q2.2).bind fun q10 => (if q10.1 = (1 : Int32) then ((some (x3 ||| ((1 : Int32) <<< (x4 &&& 31)))).bind fun z15 => (fX6_knotsOf_5 n x1 x2 z15 (x4 + (1 : Int32)) q10.2)) else ((some (x3 ||| (0 : Int32))).bind fun z13 => (fX6_knotsOf_5 n x1 x2 z13 (x4 + (1 : Int32)) q10.2))))) else ((some (x3 ||| (0 : Int32))).bind fun z5 => (fX6_knotsOf_5 n x1 x2 z5 (x4 + (1 : Int32)) q2.2))))
def fX6_knotsOf (v1 : Int32) (v2 : Int32) (st : kM) : Option (Int32 × kM) :=
  fX6_knotsOf_5 kfu v1 v2 (0 : Int32) (0 : Int32) st
set_option maxRecDepth 100000 in
theorem tX6_knotsOf_5 {Z : kZ} (C : kC Z cX6_knotsOf RX6 5 rmX6_knotsOf) {res : Int32 × kM} (K : kEnd Z (some .int) (some (.int res.1)) res.2) : ∀ (n : Nat) (x1 : Int32) (x2 : Int32) (x3 : Int32) (x4 : Int32) (st : kM), fX6_knotsOf_5 n x1 x2 x3 x4 st = some res → kV Z 5 5 [(0, kr Z 59), (1, .int x1), (2, .int x2), (3, .int x3), (4, .int x4)] [] st := by
  intro n
  induction n with
  | zero => intro x1 x2 x3 x4 st hf; cases hf
  | succ n ih =>
    intro x1 x2 x3 x4 st hf
    unfold fX6_knotsOf_5 at hf
    refine k_iload C 4 dX6_knotsOf_5 rfl rfl ?_
    refine k_aload_n C 0 dX6_knotsOf_7 rfl rfl rfl ?_
    refine g_X6_row C rfl kw_3_238 dX6_knotsOf_8 rfl ?_
    refine k_iconst C (1 : Int32) dX6_knotsOf_11 (by decide) rfl ?_
    refine k_iald (j := 1) C ⟨rfl, rfl⟩ (by decide) rfl dX6_knotsOf_12 rfl ?_
    refine k_icmp_ge C 59 dX6_knotsOf_13 rfl rfl (fun b1 => ?_) (fun b1 => ?_)
    · replace hf := kf_t hf b1
      refine k_iload_n C 3 dX6_knotsOf_59 rfl rfl rfl ?_
      exact k_iret C K hf dX6_knotsOf_60
    · replace hf := kf_f hf b1
      refine k_iload_n C 3 dX6_knotsOf_16 rfl rfl rfl ?_
      refine k_aload_n C 0 dX6_knotsOf_17 rfl rfl rfl ?_
      refine k_iload C 4 dX6_knotsOf_18 rfl rfl ?_
      refine k_iconst C (1 : Int32) dX6_knotsOf_20 (by decide) rfl ?_
      obtain ⟨q2, e3, hf⟩ := kf_b hf
      refine k_callV C [.int x4, .int (1 : Int32)] (mX6_its e3) rfl (by decide) rfl kw_4_95 kw_4_97 kw_0_27 kw_1_7 kw_4_98 qX6_its rfl ⟨by decide, by decide⟩ ⟨rfl, rfl⟩ (Nat.le_of_ble_eq_true rfl) dX6_knotsOf_21 rfl ?_ rfl
      refine (show kV Z 5 24 [(0, kr Z 59), (1, .int x1), (2, .int x2), (3, .int x3), (4, .int x4)] [.int q2.1, .int x3] q2.2 from ?_)
      refine k_iload_n C 1 dX6_knotsOf_24 rfl rfl rfl ?_
      refine k_icmp_ne C 50 dX6_knotsOf_25 rfl rfl (fun b4 => ?_) (fun b4 => ?_)
      · replace hf := kf_f hf b4
        refine k_iconst C (0 : Int32) dX6_knotsOf_50 (by decide) rfl ?_
        refine k_ior C dX6_knotsOf_51 rfl ?_
        obtain ⟨z5, e6, hf⟩ := kf_b hf
        refine k_topi e6 ?_
        refine k_istore_n (lv' := [(3, .int z5), (0, kr Z 59), (1, .int x1), (2, .int x2), (4, .int x4)]) C dX6_knotsOf_52 rfl (by decide) rfl rfl ?_
        refine k_iinc (lv' := [(4, .int (x4 + (1 : Int32))), (3, .int z5), (0, kr Z 59), (1, .int x1), (2, .int x2)]) C (x4 + (1 : Int32)) 4 dX6_knotsOf_53 rfl rfl (by decide) rfl rfl ?_
        refine k_goto C 5 dX6_knotsOf_56 rfl ?_
        refine k_lv (lv' := [(0, kr Z 59), (1, .int x1), (2, .int x2), (3, .int z5), (4, .int (x4 + (1 : Int32)))]) [2, 3, 4, 1, 0] rfl ?_
        exact ih x1 x2 z5 (x4 + (1 : Int32)) q2.2  hf
      · replace hf := kf_t hf b4
        refine k_iload_n C 2 dX6_knotsOf_28 rfl rfl rfl ?_
        refine k_if_eq C 43 dX6_knotsOf_29 rfl rfl (fun b7 => ?_) (fun b7 => ?_)
        · replace hf := kf_t hf b7
          refine k_iconst C (1 : Int32) dX6_knotsOf_43 (by decide) rfl ?_
          refine k_iload C 4 dX6_knotsOf_44 rfl rfl ?_
          refine k_ishl C dX6_knotsOf_46 rfl ?_
          refine k_goto C 51 dX6_knotsOf_47 rfl ?_
          refine k_ior C dX6_knotsOf_51 rfl ?_
          obtain ⟨z8, e9, hf⟩ := kf_b hf
          refine k_topi e9 ?_
          refine k_istore_n (lv' := [(3, .int z8), (0, kr Z 59), (1, .int x1), (2, .int x2), (4, .int x4)]) C dX6_knotsOf_52 rfl (by decide) rfl rfl ?_
          refine k_iinc (lv' := [(4, .int (x4 + (1 : Int32))), (3, .int z8), (0, kr Z 59), (1, .int x1), (2, .int x2)]) C (x4 + (1 : Int32)) 4 dX6_knotsOf_53 rfl rfl (by decide) rfl rfl ?_
          refine k_goto C 5 dX6_knotsOf_56 rfl ?_
          refine k_lv (lv' := [(0, kr Z 59), (1, .int x1), (2, .int x2), (3, .int z8), (4, .int (x4 + (1 : Int32)))]) [2, 3, 4, 1, 0] rfl ?_
          exact ih x1 x2 z8 (x4 + (1 : Int32)) q2.2  hf
        · replace hf := kf_f hf b7
          refine k_aload_n C 0 dX6_knotsOf_32 rfl rfl rfl ?_
          refine k_iload C 4 dX6_knotsOf_33 rfl rfl ?_
          refine k_iconst C (3 : Int32) dX6_knotsOf_35 (by decide) rfl ?_
          obtain ⟨q10, e11, hf⟩ := kf_b hf
          refine k_callV C [.int x4, .int (3 : Int32)] (mX6_its e11) rfl (by decide) rfl kw_4_95 kw_4_97 kw_0_27 kw_1_7 kw_4_98 qX6_its rfl ⟨by decide, by decide⟩ ⟨rfl, rfl⟩ (Nat.le_of_ble_eq_true rfl) dX6_knotsOf_36 rfl ?_ rfl
          refine (show kV Z 5 39 [(0, kr Z 59), (1, .int x1), (2, .int x2), (3, .int x3), (4, .int x4)] [.int q10.1, .int x3] q10.2 from ?_)
          refine k_iconst C (1 : Int32) dX6_knotsOf_39 (by decide) rfl ?_
          refine k_icmp_ne C 50 dX6_knotsOf_40 rfl rfl (fun b12 => ?_) (fun b12 => ?_)
          · replace hf := kf_f hf b12
            refine k_iconst C (0 : Int32) dX6_knotsOf_50 (by decide) rfl ?_
            refine k_ior C dX6_knotsOf_51 rfl ?_
            obtain ⟨z13, e14, hf⟩ := kf_b hf
            refine k_topi e14 ?_
            refine k_istore_n (lv' := [(3, .int z13), (0, kr Z 59), (1, .int x1), (2, .int x2), (4, .int x4)]) C dX6_knotsOf_52 rfl (by decide) rfl rfl ?_
            refine k_iinc (lv' := [(4, .int (x4 + (1 : Int32))), (3, .int z13), (0, kr Z 59), (1, .int x1), (2, .int x2)]) C (x4 + (1 : Int32)) 4 dX6_knotsOf_53 rfl rfl (by decide) rfl rfl ?_
            refine k_goto C 5 dX6_knotsOf_56 rfl ?_
            refine k_lv (lv' := [(0, kr Z 59), (1, .int x1), (2, .int x2), (3, .int z13), (4, .int (x4 + (1 : Int32)))]) [2, 3, 4, 1, 0] rfl ?_
            exact ih x1 x2 z13 (x4 + (1 : Int32)) q10.2  hf
          · replace hf := kf_t hf b12
            refine k_iconst C (1 : Int32) dX6_knotsOf_43 (by decide) rfl ?_
            refine k_iload C 4 dX6_knotsOf_44 rfl rfl ?_
            refine k_ishl C dX6_knotsOf_46 rfl ?_
            refine k_goto C 51 dX6_knotsOf_47 rfl ?_
            refine k_ior C dX6_knotsOf_51 rfl ?_
            obtain ⟨z15, e16, hf⟩ := kf_b hf
            refine k_topi e16 ?_
            refine k_istore_n (lv' := [(3, .int z15), (0, kr Z 59), (1, .int x1), (2, .int x2), (4, .int x4)]) C dX6_knotsOf_52 rfl (by decide) rfl rfl ?_
            refine k_iinc (lv' := [(4, .int (x4 + (1 : Int32))), (3, .int z15), (0, kr Z 59), (1, .int x1), (2, .int x2)]) C (x4 + (1 : Int32)) 4 dX6_knotsOf_53 rfl rfl (by decide) rfl rfl ?_
            refine k_goto C 5 dX6_knotsOf_56 rfl ?_
            refine k_lv (lv' := [(0, kr Z 59), (1, .int x1), (2, .int x2), (3, .int z15), (4, .int (x4 + (1 : Int32)))]) [2, 3, 4, 1, 0] rfl ?_
            exact ih x1 x2 z15 (x4 + (1 : Int32)) q10.2  hf
set_option maxRecDepth 100000 in
theorem tX6_knotsOf {Z : kZ} (C : kC Z cX6_knotsOf RX6 5 rmX6_knotsOf) {v1 : Int32} {v2 : Int32}  {st : kM} {res : Int32 × kM} (hf : fX6_knotsOf v1 v2 st = some res) (K : kEnd Z (some .int) (some (.int res.1)) res.2) : kV Z 5 0 [(0, kr Z 59), (1, .int v1), (2, .int v2)] [] st := by
  unfold fX6_knotsOf at hf
  refine k_iconst C (0 : Int32) dX6_knotsOf_0 (by decide) rfl ?_
  refine k_istore_n (lv' := [(3, .int (0 : Int32)), (0, kr Z 59), (1, .int v1), (2, .int v2)]) C dX6_knotsOf_1 rfl (by decide) rfl rfl ?_
  refine k_iconst C (0 : Int32) dX6_knotsOf_2 (by decide) rfl ?_
  refine k_istore (lv' := [(4, .int (0 : Int32)), (3, .int (0 : Int32)), (0, kr Z 59), (1, .int v1), (2, .int v2)]) C dX6_knotsOf_3 (by decide) rfl rfl ?_
  refine k_lv (lv' := [(0, kr Z 59), (1, .int v1), (2, .int v2), (3, .int (0 : Int32)), (4, .int (0 : Int32))]) [2, 3, 4, 1, 0] rfl ?_
  exact tX6_knotsOf_5 C K _ v1 v2 (0 : Int32) (0 : Int32) st hf
theorem mX6_knotsOf {G : kG} {v1 : Int32} {v2 : Int32}  {st : kM} {res : Int32 × kM} (hf : fX6_knotsOf v1 v2 st = some res) : kCt G yX6_knotsOf cX6_knotsOf 5 (some .int) rmX6_knotsOf [.ref (G.2.1 59), .int v1, .int v2] st (some (.int res.1)) res.2 := kMet (by decide) (Nat.le_of_ble_eq_true rfl) ⟨rfl, rfl⟩ (fun X A Q C K => tX6_knotsOf C  hf K)
theorem qX6_knotsOf : yX6_knotsOf.cls = RX6 ∧ yX6_knotsOf.cls ≠ "java/lang/invoke/MethodHandle" ∧ yX6_knotsOf.cls ≠ "java/lang/invoke/VarHandle" ∧ (parseMethodDescriptor yX6_knotsOf.desc).map (fun d => d.parameters.length) = some 2 := ⟨rfl, by decide, by decide, by decide +kernel⟩
-- TalkKnotsModel.fastSet()I
def rmX6_fastSet : Room := { frames := 1, cells := 0, slots := 0, locals := 22 }
def fX6_fastSet_4 : Nat → Int32 → Int32 → kM → Option (Int32 × kM)
  | 0, _, _, _ => none
  | n + 1, x1, x2, st =>
    if (st.1 60 1) ≤ x2 then (some (x1, st)) else ((fX6_its x2 (3 : Int32) st).bind fun q2 => ((some (x1 ||| (q2.1 <<< (x2 &&& 31)))).bind fun z4 => (fX6_fastSet_4 n z4 (x2 + (1 : Int32)) q2.2)))
def fX6_fastSet (st : kM) : Option (Int32 × kM) :=
  fX6_fastSet_4 kfu (0 : Int32) (0 : Int32) st
set_option maxRecDepth 100000 in
theorem tX6_fastSet_4 {Z : kZ} (C : kC Z cX6_fastSet RX6 3 rmX6_fastSet) {res : Int32 × kM} (K : kEnd Z (some .int) (some (.int res.1)) res.2) : ∀ (n : Nat) (x1 : Int32) (x2 : Int32) (st : kM), fX6_fastSet_4 n x1 x2 st = some res → kV Z 3 4 [(0, kr Z 59), (1, .int x1), (2, .int x2)] [] st := by
  intro n
  induction n with
  | zero => intro x1 x2 st hf; cases hf
  | succ n ih =>
    intro x1 x2 st hf
    unfold fX6_fastSet_4 at hf
    refine k_iload_n C 2 dX6_fastSet_4 rfl rfl rfl ?_
    refine k_aload_n C 0 dX6_fastSet_5 rfl rfl rfl ?_
    refine g_X6_row C rfl kw_3_238 dX6_fastSet_6 rfl ?_
    refine k_iconst C (1 : Int32) dX6_fastSet_9 (by decide) rfl ?_
    refine k_iald (j := 1) C ⟨rfl, rfl⟩ (by decide) rfl dX6_fastSet_10 rfl ?_
    refine k_icmp_ge C 31 dX6_fastSet_11 rfl rfl (fun b1 => ?_) (fun b1 => ?_)
    · replace hf := kf_t hf b1
      refine k_iload_n C 1 dX6_fastSet_31 rfl rfl rfl ?_
      exact k_iret C K hf dX6_fastSet_32
    · replace hf := kf_f hf b1
      refine k_iload_n C 1 dX6_fastSet_14 rfl rfl rfl ?_
      refine k_aload_n C 0 dX6_fastSet_15 rfl rfl rfl ?_
      refine k_iload_n C 2 dX6_fastSet_16 rfl rfl rfl ?_
      refine k_iconst C (3 : Int32) dX6_fastSet_17 (by decide) rfl ?_
      obtain ⟨q2, e3, hf⟩ := kf_b hf
      refine k_callV C [.int x2, .int (3 : Int32)] (mX6_its e3) rfl (by decide) rfl kw_4_95 kw_4_97 kw_0_27 kw_1_7 kw_4_98 qX6_its rfl ⟨by decide, by decide⟩ ⟨rfl, rfl⟩ (Nat.le_of_ble_eq_true rfl) dX6_fastSet_18 rfl ?_ rfl
      refine (show kV Z 3 21 [(0, kr Z 59), (1, .int x1), (2, .int x2)] [.int q2.1, .int x1] q2.2 from ?_)
      refine k_iload_n C 2 dX6_fastSet_21 rfl rfl rfl ?_
      refine k_ishl C dX6_fastSet_22 rfl ?_
      refine k_ior C dX6_fastSet_23 rfl ?_
      obtain ⟨z4, e5, hf⟩ := kf_b hf
      refine k_topi e5 ?_
      refine k_istore_n (lv' := [(1, .int z4), (0, kr Z 59), (2, .int x2)]) C dX6_fastSet_24 rfl (by decide) rfl rfl ?_
      refine k_iinc (lv' := [(2, .int (x2 + (1 : Int32))), (1, .int z4), (0, kr Z 59)]) C (x2 + (1 : Int32)) 2 dX6_fastSet_25 rfl rfl (by decide) rfl rfl ?_
      refine k_goto C 4 dX6_fastSet_28 rfl ?_
      refine k_lv (lv' := [(0, kr Z 59), (1, .int z4), (2, .int (x2 + (1 : Int32)))]) [2, 1, 0] rfl ?_
      exact ih z4 (x2 + (1 : Int32)) q2.2  hf
set_option maxRecDepth 100000 in
theorem tX6_fastSet {Z : kZ} (C : kC Z cX6_fastSet RX6 3 rmX6_fastSet)   {st : kM} {res : Int32 × kM} (hf : fX6_fastSet st = some res) (K : kEnd Z (some .int) (some (.int res.1)) res.2) : kV Z 3 0 [(0, kr Z 59)] [] st := by
  unfold fX6_fastSet at hf
  refine k_iconst C (0 : Int32) dX6_fastSet_0 (by decide) rfl ?_
  refine k_istore_n (lv' := [(1, .int (0 : Int32)), (0, kr Z 59)]) C dX6_fastSet_1 rfl (by decide) rfl rfl ?_
  refine k_iconst C (0 : Int32) dX6_fastSet_2 (by decide) rfl ?_
  refine k_istore_n (lv' := [(2, .int (0 : Int32)), (1, .int (0 : Int32)), (0, kr Z 59)]) C dX6_fastSet_3 rfl (by decide) rfl rfl ?_
  refine k_lv (lv' := [(0, kr Z 59), (1, .int (0 : Int32)), (2, .int (0 : Int32))]) [2, 1, 0] rfl ?_
  exact tX6_fastSet_4 C K _ (0 : Int32) (0 : Int32) st hf
theorem mX6_fastSet {G : kG}   {st : kM} {res : Int32 × kM} (hf : fX6_fastSet st = some res) : kCt G yX6_fastSet cX6_fastSet 3 (some .int) rmX6_fastSet [.ref (G.2.1 59)] st (some (.int res.1)) res.2 := kMet (by decide) (Nat.le_of_ble_eq_true rfl) ⟨rfl, rfl⟩ (fun X A Q C K => tX6_fastSet C  hf K)
theorem qX6_fastSet : yX6_fastSet.cls = RX6 ∧ yX6_fastSet.cls ≠ "java/lang/invoke/MethodHandle" ∧ yX6_fastSet.cls ≠ "java/lang/invoke/VarHandle" ∧ (parseMethodDescriptor yX6_fastSet.desc).map (fun d => d.parameters.length) = some 0 := ⟨rfl, by decide, by decide, by decide +kernel⟩
-- TalkKnotsModel.upSet()I
def rmX6_upSet : Room := { frames := 1, cells := 0, slots := 0, locals := 22 }
def fX6_upSet_4 : Nat → Int32 → Int32 → kM → Option (Int32 × kM)
  | 0, _, _, _ => none
  | n + 1, x1, x2, st =>
    if (4 : Int32) ≤ x2 then (some (x1, st)) else ((fX6_ofMast x2 (1 : Int32) st).bind fun q2 => ((some (x1 ||| (q2.1 <<< (x2 &&& 31)))).bind fun z4 => (fX6_upSet_4 n z4 (x2 + (1 : Int32)) q2.2)))
def fX6_upSet (st : kM) : Option (Int32 × kM) :=
  fX6_upSet_4 kfu (0 : Int32) (0 : Int32) st
set_option maxRecDepth 100000 in
theorem tX6_upSet_4 {Z : kZ} (C : kC Z cX6_upSet RX6 3 rmX6_upSet) {res : Int32 × kM} (K : kEnd Z (some .int) (some (.int res.1)) res.2) : ∀ (n : Nat) (x1 : Int32) (x2 : Int32) (st : kM), fX6_upSet_4 n x1 x2 st = some res → kV Z 3 4 [(0, kr Z 59), (1, .int x1), (2, .int x2)] [] st := by
  intro n
  induction n with
  | zero => intro x1 x2 st hf; cases hf
  | succ n ih =>
    intro x1 x2 st hf
    unfold fX6_upSet_4 at hf
    refine k_iload_n C 2 dX6_upSet_4 rfl rfl rfl ?_
    refine k_iconst C (4 : Int32) dX6_upSet_5 (by decide) rfl ?_
    refine k_icmp_ge C 26 dX6_upSet_6 rfl rfl (fun b1 => ?_) (fun b1 => ?_)
    · replace hf := kf_t hf b1
      refine k_iload_n C 1 dX6_upSet_26 rfl rfl rfl ?_
      exact k_iret C K hf dX6_upSet_27
    · replace hf := kf_f hf b1
      refine k_iload_n C 1 dX6_upSet_9 rfl rfl rfl ?_
      refine k_aload_n C 0 dX6_upSet_10 rfl rfl rfl ?_
      refine k_iload_n C 2 dX6_upSet_11 rfl rfl rfl ?_
      refine k_iconst C (1 : Int32) dX6_upSet_12 (by decide) rfl ?_
      obtain ⟨q2, e3, hf⟩ := kf_b hf
      refine k_callV C [.int x2, .int (1 : Int32)] (mX6_ofMast e3) rfl (by decide) rfl kw_4_87 kw_4_89 kw_0_25 kw_1_7 kw_4_90 qX6_ofMast rfl ⟨by decide, by decide⟩ ⟨rfl, rfl⟩ (Nat.le_of_ble_eq_true rfl) dX6_upSet_13 rfl ?_ rfl
      refine (show kV Z 3 16 [(0, kr Z 59), (1, .int x1), (2, .int x2)] [.int q2.1, .int x1] q2.2 from ?_)
      refine k_iload_n C 2 dX6_upSet_16 rfl rfl rfl ?_
      refine k_ishl C dX6_upSet_17 rfl ?_
      refine k_ior C dX6_upSet_18 rfl ?_
      obtain ⟨z4, e5, hf⟩ := kf_b hf
      refine k_topi e5 ?_
      refine k_istore_n (lv' := [(1, .int z4), (0, kr Z 59), (2, .int x2)]) C dX6_upSet_19 rfl (by decide) rfl rfl ?_
      refine k_iinc (lv' := [(2, .int (x2 + (1 : Int32))), (1, .int z4), (0, kr Z 59)]) C (x2 + (1 : Int32)) 2 dX6_upSet_20 rfl rfl (by decide) rfl rfl ?_
      refine k_goto C 4 dX6_upSet_23 rfl ?_
      refine k_lv (lv' := [(0, kr Z 59), (1, .int z4), (2, .int (x2 + (1 : Int32)))]) [2, 1, 0] rfl ?_
      exact ih z4 (x2 + (1 : Int32)) q2.2  hf
set_option maxRecDepth 100000 in
theorem tX6_upSet {Z : kZ} (C : kC Z cX6_upSet RX6 3 rmX6_upSet)   {st : kM} {res : Int32 × kM} (hf : fX6_upSet st = some res) (K : kEnd Z (some .int) (some (.int res.1)) res.2) : kV Z 3 0 [(0, kr Z 59)] [] st := by
  unfold fX6_upSet at hf
  refine k_iconst C (0 : Int32) dX6_upSet_0 (by decide) rfl ?_
  refine k_istore_n (lv' := [(1, .int (0 : Int32)), (0, kr Z 59)]) C dX6_upSet_1 rfl (by decide) rfl rfl ?_
  refine k_iconst C (0 : Int32) dX6_upSet_2 (by decide) rfl ?_
  refine k_istore_n (lv' := [(2, .int (0 : Int32)), (1, .int (0 : Int32)), (0, kr Z 59)]) C dX6_upSet_3 rfl (by decide) rfl rfl ?_
  refine k_lv (lv' := [(0, kr Z 59), (1, .int (0 : Int32)), (2, .int (0 : Int32))]) [2, 1, 0] rfl ?_
  exact tX6_upSet_4 C K _ (0 : Int32) (0 : Int32) st hf
theorem mX6_upSet {G : kG}   {st : kM} {res : Int32 × kM} (hf : fX6_upSet st = some res) : kCt G yX6_upSet cX6_upSet 3 (some .int) rmX6_upSet [.ref (G.2.1 59)] st (some (.int res.1)) res.2 := kMet (by decide) (Nat.le_of_ble_eq_true rfl) ⟨rfl, rfl⟩ (fun X A Q C K => tX6_upSet C  hf K)
theorem qX6_upSet : yX6_upSet.cls = RX6 ∧ yX6_upSet.cls ≠ "java/lang/invoke/MethodHandle" ∧ yX6_upSet.cls ≠ "java/lang/invoke/VarHandle" ∧ (parseMethodDescriptor yX6_upSet.desc).map (fun d => d.parameters.length) = some 0 := ⟨rfl, by decide, by decide, by decide +kernel⟩
-- TalkKnotsModel.strain(I)I
def rmX6_strain : Room := { frames := 2, cells := 0, slots := 0, locals := 46 }
def fX6_strain (v1 : Int32) (st : kM) : Option (Int32 × kM) :=
  (fX6_knotsOf v1 (1 : Int32) st).bind fun q1 => ((fX6_bits q1.1 q1.2).bind fun q3 => (if q3.1 = 0 then (some ((0 : Int32), q3.2)) else ((fX6_ofMast v1 (0 : Int32) q3.2).bind fun q6 => ((fX6_blowing q6.2).bind fun q8 => (if q3.1 = 0 then none else (some (((q6.1 + ((3 : Int32) * q8.1)) / q3.1), q8.2)))))))
set_option maxRecDepth 100000 in
theorem tX6_strain {Z : kZ} (C : kC Z cX6_strain RX6 3 rmX6_strain) {v1 : Int32}  {st : kM} {res : Int32 × kM} (hf : fX6_strain v1 st = some res) (K : kEnd Z (some .int) (some (.int res.1)) res.2) : kV Z 3 0 [(0, kr Z 59), (1, .int v1)] [] st := by
  unfold fX6_strain at hf
  refine k_aload_n C 0 dX6_strain_0 rfl rfl rfl ?_
  refine k_iload_n C 1 dX6_strain_1 rfl rfl rfl ?_
  refine k_iconst C (1 : Int32) dX6_strain_2 (by decide) rfl ?_
  obtain ⟨q1, e2, hf⟩ := kf_b hf
  refine k_callV C [.int v1, .int (1 : Int32)] (mX6_knotsOf e2) rfl (by decide) rfl kw_4_91 kw_4_93 kw_0_26 kw_1_7 kw_4_94 qX6_knotsOf rfl ⟨by decide, by decide⟩ ⟨rfl, rfl⟩ (Nat.le_of_ble_eq_true rfl) dX6_strain_3 rfl ?_ rfl
  refine (show kV Z 3 6 [(0, kr Z 59), (1, .int v1)] [.int q1.1] q1.2 from ?_)
  obtain ⟨q3, e4, hf⟩ := kf_b hf
  refine k_callS C [.int q1.1] (mX6_bits e4) kw_4_103 kw_4_104 kw_1_7 kw_4_105 qX6_bits rfl ⟨by decide, by decide⟩ ⟨rfl, rfl⟩ (Nat.le_of_ble_eq_true rfl) dX6_strain_6 rfl ?_ rfl
  refine (show kV Z 3 9 [(0, kr Z 59), (1, .int v1)] [.int q3.1] q3.2 from ?_)
  refine k_istore_n (lv' := [(2, .int q3.1), (0, kr Z 59), (1, .int v1)]) C dX6_strain_9 rfl (by decide) rfl rfl ?_
  refine k_iload_n C 0 dX6_strain_10 rfl rfl rfl ?_
  refine k_if_ne C 18 dX6_strain_11 rfl rfl (fun b5 => ?_) (fun b5 => ?_)
  · replace hf := kf_f hf b5
    refine k_aload_n C 1 dX6_strain_18 rfl rfl rfl ?_
    refine k_iload_n C 2 dX6_strain_19 rfl rfl rfl ?_
    refine k_iconst C (0 : Int32) dX6_strain_20 (by decide) rfl ?_
    obtain ⟨q6, e7, hf⟩ := kf_b hf
    refine k_callV C [.int v1, .int (0 : Int32)] (mX6_ofMast e7) rfl (by decide) rfl kw_4_87 kw_4_89 kw_0_25 kw_1_7 kw_4_90 qX6_ofMast rfl ⟨by decide, by decide⟩ ⟨rfl, rfl⟩ (Nat.le_of_ble_eq_true rfl) dX6_strain_21 rfl ?_ rfl
    refine (show kV Z 3 24 [(2, .int q3.1), (0, kr Z 59), (1, .int v1)] [.int q6.1] q6.2 from ?_)
    refine k_iconst C (3 : Int32) dX6_strain_24 (by decide) rfl ?_
    refine k_aload_n C 1 dX6_strain_25 rfl rfl rfl ?_
    obtain ⟨q8, e9, hf⟩ := kf_b hf
    refine k_callV C [] (mX6_blowing e9) rfl (by decide) rfl kw_4_106 kw_4_108 kw_0_29 kw_1_7 kw_4_109 qX6_blowing rfl ⟨by decide, by decide⟩ ⟨rfl, rfl⟩ (Nat.le_of_ble_eq_true rfl) dX6_strain_26 rfl ?_ rfl
    refine (show kV Z 3 29 [(2, .int q3.1), (0, kr Z 59), (1, .int v1)] [.int q8.1, .int (3 : Int32), .int q6.1] q8.2 from ?_)
    refine k_imul C dX6_strain_29 rfl ?_
    refine k_iadd C dX6_strain_30 rfl ?_
    refine k_iload_n C 0 dX6_strain_31 rfl rfl rfl ?_
    obtain ⟨g10, hf⟩ := kf_g hf
    refine k_idiv C g10 dX6_strain_32 rfl ?_
    exact k_iret C K hf dX6_strain_33
  · replace hf := kf_t hf b5
    refine k_iconst C (0 : Int32) dX6_strain_14 (by decide) rfl ?_
    refine k_goto C 33 dX6_strain_15 rfl ?_
    exact k_iret C K hf dX6_strain_33
theorem mX6_strain {G : kG} {v1 : Int32}  {st : kM} {res : Int32 × kM} (hf : fX6_strain v1 st = some res) : kCt G yX6_strain cX6_strain 3 (some .int) rmX6_strain [.ref (G.2.1 59), .int v1] st (some (.int res.1)) res.2 := kMet (by decide) (Nat.le_of_ble_eq_true rfl) ⟨rfl, rfl⟩ (fun X A Q C K => tX6_strain C  hf K)
theorem qX6_strain : yX6_strain.cls = RX6 ∧ yX6_strain.cls ≠ "java/lang/invoke/MethodHandle" ∧ yX6_strain.cls ≠ "java/lang/invoke/VarHandle" ∧ (parseMethodDescriptor yX6_strain.desc).map (fun d => d.parameters.length) = some 1 := ⟨rfl, by decide, by decide, by decide +kernel⟩
-- TalkKnotsModel.holding(I)I
def rmX6_holding : Room := { frames := 2, cells := 0, slots := 0, locals := 46 }
def fX6_holding_33 (x1 : Int32) (x2 : Int32) (y0 : Int32) (st : kM) : Option (Int32 × kM) :=
  (fX6_blowing st).bind fun q1 => ((fX6_held (((2 : Int32) * x2) - q1.1) (0 : Int32) ((2 : Int32) * x2) q1.2).bind fun q3 => ((fX6_its x1 (0 : Int32) q3.2).bind fun q5 => (if q5.1 = (1 : Int32) then (some (y0, q5.2)) else (if q5.1 = (2 : Int32) then (some (q3.1, q5.2)) else (if q5.1 = (3 : Int32) then (some (((99 : Int32) - x2), q5.2)) else (if q5.1 = (4 : Int32) then ((fX6_its x1 (1 : Int32) q5.2).bind fun q11 => ((fX6_knotsOf q11.1 (1 : Int32) q11.2).bind fun q13 => ((fX6_bits q13.1 q13.2).bind fun q15 => (some ((y0 + ((10 : Int32) * (q15.1 - (1 : Int32)))), q15.2))))) else (if q5.1 = (5 : Int32) then (if (60 : Int32) ≤ q3.1 then (some (q3.1, q5.2)) else (some ((60 : Int32), q5.2))) else (some (((2 : Int32) * x2), q5.2)))))))))
def fX6_holding (v1 : Int32) (st : kM) : Option (Int32 × kM) :=
  (fX6_its v1 (3 : Int32) st).bind fun q1 => (if q1.1 = 0 then (some ((0 : Int32), q1.2)) else ((fX6_its v1 (2 : Int32) q1.2).bind fun q4 => (if q4.1 < (60 : Int32) then (fX6_holding_33 v1 q4.1 ((2 : Int32) * q4.1) q4.2) else (fX6_holding_33 v1 q4.1 ((3 : Int32) * q4.1) q4.2))))
set_option maxRecDepth 100000 in
theorem tX6_holding_33 {Z : kZ} (C : kC Z cX6_holding RX6 5 rmX6_holding) {res : Int32 × kM} (K : kEnd Z (some .int) (some (.int res.1)) res.2) : ∀ (x1 : Int32) (x2 : Int32) (y0 : Int32) (st : kM), fX6_holding_33 x1 x2 y0 st = some res → kV Z 5 33 [(0, kr Z 59), (1, .int x1), (2, .int x2)] [.int y0] st := by
  intro x1 x2 y0 st hf
  unfold fX6_holding_33 at hf
  refine k_istore_n (lv' := [(3, .int y0), (0, kr Z 59), (1, .int x1), (2, .int x2)]) C dX6_holding_33 rfl (by decide) rfl rfl ?_
  refine k_iconst C (2 : Int32) dX6_holding_34 (by decide) rfl ?_
  refine k_iload_n C 3 dX6_holding_35 rfl rfl rfl ?_
  refine k_imul C dX6_holding_36 rfl ?_
  refine k_aload_n C 1 dX6_holding_37 rfl rfl rfl ?_
  obtain ⟨q1, e2, hf⟩ := kf_b hf
  refine k_callV C [] (mX6_blowing e2) rfl (by decide) rfl kw_4_106 kw_4_108 kw_0_29 kw_1_7 kw_4_109 qX6_blowing rfl ⟨by decide, by decide⟩ ⟨rfl, rfl⟩ (Nat.le_of_ble_eq_true rfl) dX6_holding_38 rfl ?_ rfl
  refine (show kV Z 5 41 [(3, .int y0), (0, kr Z 59), (1, .int x1), (2, .int x2)] [.int q1.1, .int ((2 : Int32) * x2)] q1.2 from ?_)
  refine k_isub C dX6_holding_41 rfl ?_
  refine k_iconst C (0 : Int32) dX6_holding_42 (by decide) rfl ?_
  refine k_iconst C (2 : Int32) dX6_holding_43 (by decide) rfl ?_
  refine k_iload_n C 3 dX6_holding_44 rfl rfl rfl ?_
  refine k_imul C dX6_holding_45 rfl ?_
  obtain ⟨q3, e4, hf⟩ := kf_b hf
  refine k_callS C [.int (((2 : Int32) * x2) - q1.1), .int (0 : Int32), .int ((2 : Int32) * x2)] (mX6_held e4) kw_4_118 kw_4_119 kw_1_7 kw_4_120 qX6_held rfl ⟨by decide, by decide⟩ ⟨rfl, rfl⟩ (Nat.le_of_ble_eq_true rfl) dX6_holding_46 rfl ?_ rfl
  refine (show kV Z 5 49 [(3, .int y0), (0, kr Z 59), (1, .int x1), (2, .int x2)] [.int q3.1] q3.2 from ?_)
  refine k_istore (lv' := [(4, .int q3.1), (3, .int y0), (0, kr Z 59), (1, .int x1), (2, .int x2)]) C dX6_holding_49 (by decide) rfl rfl ?_
  refine k_aload_n C 2 dX6_holding_51 rfl rfl rfl ?_
  refine k_iload_n C 3 dX6_holding_52 rfl rfl rfl ?_
  refine k_iconst C (0 : Int32) dX6_holding_53 (by decide) rfl ?_
  obtain ⟨q5, e6, hf⟩ := kf_b hf
  refine k_callV C [.int x1, .int (0 : Int32)] (mX6_its e6) rfl (by decide) rfl kw_4_95 kw_4_97 kw_0_27 kw_1_7 kw_4_98 qX6_its rfl ⟨by decide, by decide⟩ ⟨rfl, rfl⟩ (Nat.le_of_ble_eq_true rfl) dX6_holding_54 rfl ?_ rfl
  refine (show kV Z 5 57 [(4, .int q3.1), (3, .int y0), (0, kr Z 59), (1, .int x1), (2, .int x2)] [.int q5.1] q5.2 from ?_)
  by_cases b7 : q5.1 = (1 : Int32)
  · replace hf := kf_t hf b7
    refine k_tabIn C 92 dX6_holding_57 (by rw [b7]; decide) (by rw [b7]; decide) (by rw [b7]; rfl) rfl ?_
    refine k_iload_n C 1 dX6_holding_92 rfl rfl rfl ?_
    exact k_iret C K hf dX6_holding_93
  · replace hf := kf_f hf b7
    by_cases b8 : q5.1 = (2 : Int32)
    · replace hf := kf_t hf b8
      refine k_tabIn C 116 dX6_holding_57 (by rw [b8]; decide) (by rw [b8]; decide) (by rw [b8]; rfl) rfl ?_
      refine k_iload C 0 dX6_holding_116 rfl rfl ?_
      exact k_iret C K hf dX6_holding_118
    · replace hf := kf_f hf b8
      by_cases b9 : q5.1 = (3 : Int32)
      · replace hf := kf_t hf b9
        refine k_tabIn C 134 dX6_holding_57 (by rw [b9]; decide) (by rw [b9]; decide) (by rw [b9]; rfl) rfl ?_
        refine k_bipush C (99 : Int32) dX6_holding_134 (by decide) rfl ?_
        refine k_iload_n C 4 dX6_holding_136 rfl rfl rfl ?_
        refine k_isub C dX6_holding_137 rfl ?_
        exact k_iret C K hf dX6_holding_138
      · replace hf := kf_f hf b9
        by_cases b10 : q5.1 = (4 : Int32)
        · replace hf := kf_t hf b10
          refine k_tabIn C 94 dX6_holding_57 (by rw [b10]; decide) (by rw [b10]; decide) (by rw [b10]; rfl) rfl ?_
          refine k_iload_n C 1 dX6_holding_94 rfl rfl rfl ?_
          refine k_bipush C (10 : Int32) dX6_holding_95 (by decide) rfl ?_
          refine k_aload_n C 2 dX6_holding_97 rfl rfl rfl ?_
          refine k_aload_n C 2 dX6_holding_98 rfl rfl rfl ?_
          refine k_iload_n C 3 dX6_holding_99 rfl rfl rfl ?_
          refine k_iconst C (1 : Int32) dX6_holding_100 (by decide) rfl ?_
          obtain ⟨q11, e12, hf⟩ := kf_b hf
          refine k_callV C [.int x1, .int (1 : Int32)] (mX6_its e12) rfl (by decide) rfl kw_4_95 kw_4_97 kw_0_27 kw_1_7 kw_4_98 qX6_its rfl ⟨by decide, by decide⟩ ⟨rfl, rfl⟩ (Nat.le_of_ble_eq_true rfl) dX6_holding_101 rfl ?_ rfl
          refine (show kV Z 5 104 [(4, .int q3.1), (3, .int y0), (0, kr Z 59), (1, .int x1), (2, .int x2)] [.int q11.1, kr Z 59, .int (10 : Int32), .int y0] q11.2 from ?_)
          refine k_iconst C (1 : Int32) dX6_holding_104 (by decide) rfl ?_
          obtain ⟨q13, e14, hf⟩ := kf_b hf
          refine k_callV C [.int q11.1, .int (1 : Int32)] (mX6_knotsOf e14) rfl (by decide) rfl kw_4_91 kw_4_93 kw_0_26 kw_1_7 kw_4_94 qX6_knotsOf rfl ⟨by decide, by decide⟩ ⟨rfl, rfl⟩ (Nat.le_of_ble_eq_true rfl) dX6_holding_105 rfl ?_ rfl
          refine (show kV Z 5 108 [(4, .int q3.1), (3, .int y0), (0, kr Z 59), (1, .int x1), (2, .int x2)] [.int q13.1, .int (10 : Int32), .int y0] q13.2 from ?_)
          obtain ⟨q15, e16, hf⟩ := kf_b hf
          refine k_callS C [.int q13.1] (mX6_bits e16) kw_4_103 kw_4_104 kw_1_7 kw_4_105 qX6_bits rfl ⟨by decide, by decide⟩ ⟨rfl, rfl⟩ (Nat.le_of_ble_eq_true rfl) dX6_holding_108 rfl ?_ rfl
          refine (show kV Z 5 111 [(4, .int q3.1), (3, .int y0), (0, kr Z 59), (1, .int x1), (2, .int x2)] [.int q15.1, .int (10 : Int32), .int y0] q15.2 from ?_)
          refine k_iconst C (1 : Int32) dX6_holding_111 (by decide) rfl ?_
          refine k_isub C dX6_holding_112 rfl ?_
          refine k_imul C dX6_holding_113 rfl ?_
          refine k_iadd C dX6_holding_114 rfl ?_
          exact k_iret C K hf dX6_holding_115
        · replace hf := kf_f hf b10
          by_cases b17 : q5.1 = (5 : Int32)
          · replace hf := kf_t hf b17
            refine k_tabIn C 119 dX6_holding_57 (by rw [b17]; decide) (by rw [b17]; decide) (by rw [b17]; rfl) rfl ?_
            refine k_iload C 0 dX6_holding_119 rfl rfl ?_
            refine k_bipush C (60 : Int32) dX6_holding_121 (by decide) rfl ?_
            refine k_icmp_ge C 131 dX6_holding_123 rfl rfl (fun b18 => ?_) (fun b18 => ?_)
            · replace hf := kf_t hf b18
              refine k_iload C 0 dX6_holding_131 rfl rfl ?_
              exact k_iret C K hf dX6_holding_133
            · replace hf := kf_f hf b18
              refine k_bipush C (60 : Int32) dX6_holding_126 (by decide) rfl ?_
              refine k_goto C 133 dX6_holding_128 rfl ?_
              exact k_iret C K hf dX6_holding_133
          · replace hf := kf_f hf b17
            have zb7 := ti_ne (1 : Int32) b7 (z := 1) rfl
            have zb8 := ti_ne (2 : Int32) b8 (z := 2) rfl
            have zb9 := ti_ne (3 : Int32) b9 (z := 3) rfl
            have zb10 := ti_ne (4 : Int32) b10 (z := 4) rfl
            have zb17 := ti_ne (5 : Int32) b17 (z := 5) rfl
            refine k_tabOut C 139 dX6_holding_57 (by omega) rfl ?_
            refine k_iconst C (2 : Int32) dX6_holding_139 (by decide) rfl ?_
            refine k_iload_n C 4 dX6_holding_140 rfl rfl rfl ?_
            refine k_imul C dX6_holding_141 rfl ?_
            exact k_iret C K hf dX6_holding_142
set_option maxRecDepth 100000 in
theorem tX6_holding {Z : kZ} (C : kC Z cX6_holding RX6 5 rmX6_holding) {v1 : Int32}  {st : kM} {res : Int32 × kM} (hf : fX6_holding v1 st = some res) (K : kEnd Z (some .int) (some (.int res.1)) res.2) : kV Z 5 0 [(0, kr Z 59), (1, .int v1)] [] st := by
  unfold fX6_holding at hf
  refine k_aload_n C 0 dX6_holding_0 rfl rfl rfl ?_
  refine k_iload_n C 1 dX6_holding_1 rfl rfl rfl ?_
  refine k_iconst C (3 : Int32) dX6_holding_2 (by decide) rfl ?_
  obtain ⟨q1, e2, hf⟩ := kf_b hf
  refine k_callV C [.int v1, .int (3 : Int32)] (mX6_its e2) rfl (by decide) rfl kw_4_95 kw_4_97 kw_0_27 kw_1_7 kw_4_98 qX6_its rfl ⟨by decide, by decide⟩ ⟨rfl, rfl⟩ (Nat.le_of_ble_eq_true rfl) dX6_holding_3 rfl ?_ rfl
  refine (show kV Z 5 6 [(0, kr Z 59), (1, .int v1)] [.int q1.1] q1.2 from ?_)
  refine k_if_ne C 11 dX6_holding_6 rfl rfl (fun b3 => ?_) (fun b3 => ?_)
  · replace hf := kf_f hf b3
    refine k_aload_n C 0 dX6_holding_11 rfl rfl rfl ?_
    refine k_iload_n C 1 dX6_holding_12 rfl rfl rfl ?_
    refine k_iconst C (2 : Int32) dX6_holding_13 (by decide) rfl ?_
    obtain ⟨q4, e5, hf⟩ := kf_b hf
    refine k_callV C [.int v1, .int (2 : Int32)] (mX6_its e5) rfl (by decide) rfl kw_4_95 kw_4_97 kw_0_27 kw_1_7 kw_4_98 qX6_its rfl ⟨by decide, by decide⟩ ⟨rfl, rfl⟩ (Nat.le_of_ble_eq_true rfl) dX6_holding_14 rfl ?_ rfl
    refine (show kV Z 5 17 [(0, kr Z 59), (1, .int v1)] [.int q4.1] q4.2 from ?_)
    refine k_istore_n (lv' := [(2, .int q4.1), (0, kr Z 59), (1, .int v1)]) C dX6_holding_17 rfl (by decide) rfl rfl ?_
    refine k_iload_n C 0 dX6_holding_18 rfl rfl rfl ?_
    refine k_bipush C (60 : Int32) dX6_holding_19 (by decide) rfl ?_
    refine k_icmp_lt C 30 dX6_holding_21 rfl rfl (fun b6 => ?_) (fun b6 => ?_)
    · replace hf := kf_t hf b6
      refine k_iconst C (2 : Int32) dX6_holding_30 (by decide) rfl ?_
      refine k_iload_n C 0 dX6_holding_31 rfl rfl rfl ?_
      refine k_imul C dX6_holding_32 rfl ?_
      refine k_lv (lv' := [(0, kr Z 59), (1, .int v1), (2, .int q4.1)]) [1, 2, 0] rfl ?_
      exact tX6_holding_33 C K v1 q4.1 ((2 : Int32) * q4.1) q4.2 hf
    · replace hf := kf_f hf b6
      refine k_iconst C (3 : Int32) dX6_holding_24 (by decide) rfl ?_
      refine k_iload_n C 0 dX6_holding_25 rfl rfl rfl ?_
      refine k_imul C dX6_holding_26 rfl ?_
      refine k_goto C 33 dX6_holding_27 rfl ?_
      refine k_lv (lv' := [(0, kr Z 59), (1, .int v1), (2, .int q4.1)]) [1, 2, 0] rfl ?_
      exact tX6_holding_33 C K v1 q4.1 ((3 : Int32) * q4.1) q4.2 hf
  · replace hf := kf_t hf b3
    refine k_iconst C (0 : Int32) dX6_holding_9 (by decide) rfl ?_
    exact k_iret C K hf dX6_holding_10
theorem mX6_holding {G : kG} {v1 : Int32}  {st : kM} {res : Int32 × kM} (hf : fX6_holding v1 st = some res) : kCt G yX6_holding cX6_holding 5 (some .int) rmX6_holding [.ref (G.2.1 59), .int v1] st (some (.int res.1)) res.2 := kMet (by decide) (Nat.le_of_ble_eq_true rfl) ⟨rfl, rfl⟩ (fun X A Q C K => tX6_holding C  hf K)
theorem qX6_holding : yX6_holding.cls = RX6 ∧ yX6_holding.cls ≠ "java/lang/invoke/MethodHandle" ∧ yX6_holding.cls ≠ "java/lang/invoke/VarHandle" ∧ (parseMethodDescriptor yX6_holding.desc).map (fun d => d.parameters.length) = some 1 := ⟨rfl, by decide, by decide, by decide +kernel⟩
-- TalkKnotsModel.settling(I)I
def rmX6_settling : Room := { frames := 1, cells := 0, slots := 0, locals := 22 }
def fX6_settling_16 (x1 : Int32) (y0 : Int32) (st : kM) : Option (Int32 × kM) :=
  (fX6_blowing st).bind fun q1 => ((some ((2 : Int32) + (q1.1 / (10 : Int32)))).bind fun z3 => ((fX6_its x1 (0 : Int32) q1.2).bind fun q5 => (if q5.1 = (1 : Int32) then (some (y0, q5.2)) else (if q5.1 = (2 : Int32) then (some (z3, q5.2)) else (if q5.1 = (3 : Int32) then (some ((-1 : Int32), q5.2)) else (if q5.1 = (4 : Int32) then (if y0 = 0 then (some ((0 : Int32), q5.2)) else (some ((y0 - (1 : Int32)), q5.2))) else (if q5.1 = (5 : Int32) then ((fX6_its x1 (4 : Int32) q5.2).bind fun q13 => (if (6 : Int32) ≤ q13.1 then (some (z3, q13.2)) else (some ((0 : Int32), q13.2)))) else (some ((2 : Int32), q5.2)))))))))
def fX6_settling (v1 : Int32) (st : kM) : Option (Int32 × kM) :=
  (fX6_its v1 (2 : Int32) st).bind fun q1 => (if q1.1 < (60 : Int32) then (fX6_settling_16 v1 (2 : Int32) q1.2) else (fX6_settling_16 v1 (0 : Int32) q1.2))
set_option maxRecDepth 100000 in
theorem tX6_settling_16 {Z : kZ} (C : kC Z cX6_settling RX6 4 rmX6_settling) {res : Int32 × kM} (K : kEnd Z (some .int) (some (.int res.1)) res.2) : ∀ (x1 : Int32) (y0 : Int32) (st : kM), fX6_settling_16 x1 y0 st = some res → kV Z 4 16 [(0, kr Z 59), (1, .int x1)] [.int y0] st := by
  intro x1 y0 st hf
  unfold fX6_settling_16 at hf
  refine k_istore_n (lv' := [(2, .int y0), (0, kr Z 59), (1, .int x1)]) C dX6_settling_16 rfl (by decide) rfl rfl ?_
  refine k_iconst C (2 : Int32) dX6_settling_17 (by decide) rfl ?_
  refine k_aload_n C 1 dX6_settling_18 rfl rfl rfl ?_
  obtain ⟨q1, e2, hf⟩ := kf_b hf
  refine k_callV C [] (mX6_blowing e2) rfl (by decide) rfl kw_4_106 kw_4_108 kw_0_29 kw_1_7 kw_4_109 qX6_blowing rfl ⟨by decide, by decide⟩ ⟨rfl, rfl⟩ (Nat.le_of_ble_eq_true rfl) dX6_settling_19 rfl ?_ rfl
  refine (show kV Z 4 22 [(2, .int y0), (0, kr Z 59), (1, .int x1)] [.int q1.1, .int (2 : Int32)] q1.2 from ?_)
  refine k_bipush C (10 : Int32) dX6_settling_22 (by decide) rfl ?_
  refine k_idiv C (by decide) dX6_settling_24 rfl ?_
  refine k_iadd C dX6_settling_25 rfl ?_
  obtain ⟨z3, e4, hf⟩ := kf_b hf
  refine k_topi e4 ?_
  refine k_istore_n (lv' := [(3, .int z3), (2, .int y0), (0, kr Z 59), (1, .int x1)]) C dX6_settling_26 rfl (by decide) rfl rfl ?_
  refine k_aload_n C 2 dX6_settling_27 rfl rfl rfl ?_
  refine k_iload_n C 3 dX6_settling_28 rfl rfl rfl ?_
  refine k_iconst C (0 : Int32) dX6_settling_29 (by decide) rfl ?_
  obtain ⟨q5, e6, hf⟩ := kf_b hf
  refine k_callV C [.int x1, .int (0 : Int32)] (mX6_its e6) rfl (by decide) rfl kw_4_95 kw_4_97 kw_0_27 kw_1_7 kw_4_98 qX6_its rfl ⟨by decide, by decide⟩ ⟨rfl, rfl⟩ (Nat.le_of_ble_eq_true rfl) dX6_settling_30 rfl ?_ rfl
  refine (show kV Z 4 33 [(3, .int z3), (2, .int y0), (0, kr Z 59), (1, .int x1)] [.int q5.1] q5.2 from ?_)
  by_cases b7 : q5.1 = (1 : Int32)
  · replace hf := kf_t hf b7
    refine k_tabIn C 68 dX6_settling_33 (by rw [b7]; decide) (by rw [b7]; decide) (by rw [b7]; rfl) rfl ?_
    refine k_iload_n C 1 dX6_settling_68 rfl rfl rfl ?_
    exact k_iret C K hf dX6_settling_69
  · replace hf := kf_f hf b7
    by_cases b8 : q5.1 = (2 : Int32)
    · replace hf := kf_t hf b8
      refine k_tabIn C 82 dX6_settling_33 (by rw [b8]; decide) (by rw [b8]; decide) (by rw [b8]; rfl) rfl ?_
      refine k_iload_n C 0 dX6_settling_82 rfl rfl rfl ?_
      exact k_iret C K hf dX6_settling_83
    · replace hf := kf_f hf b8
      by_cases b9 : q5.1 = (3 : Int32)
      · replace hf := kf_t hf b9
        refine k_tabIn C 101 dX6_settling_33 (by rw [b9]; decide) (by rw [b9]; decide) (by rw [b9]; rfl) rfl ?_
        refine k_iconst C (-1 : Int32) dX6_settling_101 (by decide) rfl ?_
        exact k_iret C K hf dX6_settling_102
      · replace hf := kf_f hf b9
        by_cases b10 : q5.1 = (4 : Int32)
        · replace hf := kf_t hf b10
          refine k_tabIn C 70 dX6_settling_33 (by rw [b10]; decide) (by rw [b10]; decide) (by rw [b10]; rfl) rfl ?_
          refine k_iload_n C 1 dX6_settling_70 rfl rfl rfl ?_
          refine k_if_ne C 78 dX6_settling_71 rfl rfl (fun b11 => ?_) (fun b11 => ?_)
          · replace hf := kf_f hf b11
            refine k_iload_n C 1 dX6_settling_78 rfl rfl rfl ?_
            refine k_iconst C (1 : Int32) dX6_settling_79 (by decide) rfl ?_
            refine k_isub C dX6_settling_80 rfl ?_
            exact k_iret C K hf dX6_settling_81
          · replace hf := kf_t hf b11
            refine k_iconst C (0 : Int32) dX6_settling_74 (by decide) rfl ?_
            refine k_goto C 81 dX6_settling_75 rfl ?_
            exact k_iret C K hf dX6_settling_81
        · replace hf := kf_f hf b10
          by_cases b12 : q5.1 = (5 : Int32)
          · replace hf := kf_t hf b12
            refine k_tabIn C 84 dX6_settling_33 (by rw [b12]; decide) (by rw [b12]; decide) (by rw [b12]; rfl) rfl ?_
            refine k_aload_n C 2 dX6_settling_84 rfl rfl rfl ?_
            refine k_iload_n C 3 dX6_settling_85 rfl rfl rfl ?_
            refine k_iconst C (4 : Int32) dX6_settling_86 (by decide) rfl ?_
            obtain ⟨q13, e14, hf⟩ := kf_b hf
            refine k_callV C [.int x1, .int (4 : Int32)] (mX6_its e14) rfl (by decide) rfl kw_4_95 kw_4_97 kw_0_27 kw_1_7 kw_4_98 qX6_its rfl ⟨by decide, by decide⟩ ⟨rfl, rfl⟩ (Nat.le_of_ble_eq_true rfl) dX6_settling_87 rfl ?_ rfl
            refine (show kV Z 4 90 [(3, .int z3), (2, .int y0), (0, kr Z 59), (1, .int x1)] [.int q13.1] q13.2 from ?_)
            refine k_bipush C (6 : Int32) dX6_settling_90 (by decide) rfl ?_
            refine k_icmp_ge C 99 dX6_settling_92 rfl rfl (fun b15 => ?_) (fun b15 => ?_)
            · replace hf := kf_t hf b15
              refine k_iload_n C 0 dX6_settling_99 rfl rfl rfl ?_
              exact k_iret C K hf dX6_settling_100
            · replace hf := kf_f hf b15
              refine k_iconst C (0 : Int32) dX6_settling_95 (by decide) rfl ?_
              refine k_goto C 100 dX6_settling_96 rfl ?_
              exact k_iret C K hf dX6_settling_100
          · replace hf := kf_f hf b12
            have zb7 := ti_ne (1 : Int32) b7 (z := 1) rfl
            have zb8 := ti_ne (2 : Int32) b8 (z := 2) rfl
            have zb9 := ti_ne (3 : Int32) b9 (z := 3) rfl
            have zb10 := ti_ne (4 : Int32) b10 (z := 4) rfl
            have zb12 := ti_ne (5 : Int32) b12 (z := 5) rfl
            refine k_tabOut C 103 dX6_settling_33 (by omega) rfl ?_
            refine k_iconst C (2 : Int32) dX6_settling_103 (by decide) rfl ?_
            exact k_iret C K hf dX6_settling_104
set_option maxRecDepth 100000 in
theorem tX6_settling {Z : kZ} (C : kC Z cX6_settling RX6 4 rmX6_settling) {v1 : Int32}  {st : kM} {res : Int32 × kM} (hf : fX6_settling v1 st = some res) (K : kEnd Z (some .int) (some (.int res.1)) res.2) : kV Z 4 0 [(0, kr Z 59), (1, .int v1)] [] st := by
  unfold fX6_settling at hf
  refine k_aload_n C 0 dX6_settling_0 rfl rfl rfl ?_
  refine k_iload_n C 1 dX6_settling_1 rfl rfl rfl ?_
  refine k_iconst C (2 : Int32) dX6_settling_2 (by decide) rfl ?_
  obtain ⟨q1, e2, hf⟩ := kf_b hf
  refine k_callV C [.int v1, .int (2 : Int32)] (mX6_its e2) rfl (by decide) rfl kw_4_95 kw_4_97 kw_0_27 kw_1_7 kw_4_98 qX6_its rfl ⟨by decide, by decide⟩ ⟨rfl, rfl⟩ (Nat.le_of_ble_eq_true rfl) dX6_settling_3 rfl ?_ rfl
  refine (show kV Z 4 6 [(0, kr Z 59), (1, .int v1)] [.int q1.1] q1.2 from ?_)
  refine k_bipush C (60 : Int32) dX6_settling_6 (by decide) rfl ?_
  refine k_icmp_lt C 15 dX6_settling_8 rfl rfl (fun b3 => ?_) (fun b3 => ?_)
  · replace hf := kf_t hf b3
    refine k_iconst C (2 : Int32) dX6_settling_15 (by decide) rfl ?_
    exact tX6_settling_16 C K v1 (2 : Int32) q1.2 hf
  · replace hf := kf_f hf b3
    refine k_iconst C (0 : Int32) dX6_settling_11 (by decide) rfl ?_
    refine k_goto C 16 dX6_settling_12 rfl ?_
    exact tX6_settling_16 C K v1 (0 : Int32) q1.2 hf
theorem mX6_settling {G : kG} {v1 : Int32}  {st : kM} {res : Int32 × kM} (hf : fX6_settling v1 st = some res) : kCt G yX6_settling cX6_settling 4 (some .int) rmX6_settling [.ref (G.2.1 59), .int v1] st (some (.int res.1)) res.2 := kMet (by decide) (Nat.le_of_ble_eq_true rfl) ⟨rfl, rfl⟩ (fun X A Q C K => tX6_settling C  hf K)
theorem qX6_settling : yX6_settling.cls = RX6 ∧ yX6_settling.cls ≠ "java/lang/invoke/MethodHandle" ∧ yX6_settling.cls ≠ "java/lang/invoke/VarHandle" ∧ (parseMethodDescriptor yX6_settling.desc).map (fun d => d.parameters.length) = some 1 := ⟨rfl, by decide, by decide, by decide +kernel⟩
-- TalkKnotsModel.teasing(I)I
def rmX6_teasing : Room := { frames := 1, cells := 0, slots := 0, locals := 22 }
def fX6_teasing (v1 : Int32) (st : kM) : Option (Int32 × kM) :=
  (fX6_its v1 (0 : Int32) st).bind fun q1 => (if q1.1 = (1 : Int32) then (some ((30 : Int32), q1.2)) else (if q1.1 = (2 : Int32) then (some ((10 : Int32), q1.2)) else (if q1.1 = (3 : Int32) then (some ((-20 : Int32), q1.2)) else (if q1.1 = (4 : Int32) then (some ((30 : Int32), q1.2)) else (if q1.1 = (5 : Int32) then ((fX6_its v1 (2 : Int32) q1.2).bind fun q8 => (if q8.1 < (90 : Int32) then (some ((10 : Int32), q8.2)) else (some ((0 : Int32), q8.2)))) else (some ((15 : Int32), q1.2)))))))
set_option maxRecDepth 100000 in
theorem tX6_teasing {Z : kZ} (C : kC Z cX6_teasing RX6 2 rmX6_teasing) {v1 : Int32}  {st : kM} {res : Int32 × kM} (hf : fX6_teasing v1 st = some res) (K : kEnd Z (some .int) (some (.int res.1)) res.2) : kV Z 2 0 [(0, kr Z 59), (1, .int v1)] [] st := by
  unfold fX6_teasing at hf
  refine k_aload_n C 0 dX6_teasing_0 rfl rfl rfl ?_
  refine k_iload_n C 1 dX6_teasing_1 rfl rfl rfl ?_
  refine k_iconst C (0 : Int32) dX6_teasing_2 (by decide) rfl ?_
  obtain ⟨q1, e2, hf⟩ := kf_b hf
  refine k_callV C [.int v1, .int (0 : Int32)] (mX6_its e2) rfl (by decide) rfl kw_4_95 kw_4_97 kw_0_27 kw_1_7 kw_4_98 qX6_its rfl ⟨by decide, by decide⟩ ⟨rfl, rfl⟩ (Nat.le_of_ble_eq_true rfl) dX6_teasing_3 rfl ?_ rfl
  refine (show kV Z 2 6 [(0, kr Z 59), (1, .int v1)] [.int q1.1] q1.2 from ?_)
  by_cases b3 : q1.1 = (1 : Int32)
  · replace hf := kf_t hf b3
    refine k_tabIn C 40 dX6_teasing_6 (by rw [b3]; decide) (by rw [b3]; decide) (by rw [b3]; rfl) rfl ?_
    refine k_bipush C (30 : Int32) dX6_teasing_40 (by decide) rfl ?_
    exact k_iret C K hf dX6_teasing_42
  · replace hf := kf_f hf b3
    by_cases b4 : q1.1 = (2 : Int32)
    · replace hf := kf_t hf b4
      refine k_tabIn C 43 dX6_teasing_6 (by rw [b4]; decide) (by rw [b4]; decide) (by rw [b4]; rfl) rfl ?_
      refine k_bipush C (10 : Int32) dX6_teasing_43 (by decide) rfl ?_
      exact k_iret C K hf dX6_teasing_45
    · replace hf := kf_f hf b4
      by_cases b5 : q1.1 = (3 : Int32)
      · replace hf := kf_t hf b5
        refine k_tabIn C 64 dX6_teasing_6 (by rw [b5]; decide) (by rw [b5]; decide) (by rw [b5]; rfl) rfl ?_
        refine k_bipush C (-20 : Int32) dX6_teasing_64 (by decide) rfl ?_
        exact k_iret C K hf dX6_teasing_66
      · replace hf := kf_f hf b5
        by_cases b6 : q1.1 = (4 : Int32)
        · replace hf := kf_t hf b6
          refine k_tabIn C 40 dX6_teasing_6 (by rw [b6]; decide) (by rw [b6]; decide) (by rw [b6]; rfl) rfl ?_
          refine k_bipush C (30 : Int32) dX6_teasing_40 (by decide) rfl ?_
          exact k_iret C K hf dX6_teasing_42
        · replace hf := kf_f hf b6
          by_cases b7 : q1.1 = (5 : Int32)
          · replace hf := kf_t hf b7
            refine k_tabIn C 46 dX6_teasing_6 (by rw [b7]; decide) (by rw [b7]; decide) (by rw [b7]; rfl) rfl ?_
            refine k_aload_n C 0 dX6_teasing_46 rfl rfl rfl ?_
            refine k_iload_n C 1 dX6_teasing_47 rfl rfl rfl ?_
            refine k_iconst C (2 : Int32) dX6_teasing_48 (by decide) rfl ?_
            obtain ⟨q8, e9, hf⟩ := kf_b hf
            refine k_callV C [.int v1, .int (2 : Int32)] (mX6_its e9) rfl (by decide) rfl kw_4_95 kw_4_97 kw_0_27 kw_1_7 kw_4_98 qX6_its rfl ⟨by decide, by decide⟩ ⟨rfl, rfl⟩ (Nat.le_of_ble_eq_true rfl) dX6_teasing_49 rfl ?_ rfl
            refine (show kV Z 2 52 [(0, kr Z 59), (1, .int v1)] [.int q8.1] q8.2 from ?_)
            refine k_bipush C (90 : Int32) dX6_teasing_52 (by decide) rfl ?_
            refine k_icmp_lt C 61 dX6_teasing_54 rfl rfl (fun b10 => ?_) (fun b10 => ?_)
            · replace hf := kf_t hf b10
              refine k_bipush C (10 : Int32) dX6_teasing_61 (by decide) rfl ?_
              exact k_iret C K hf dX6_teasing_63
            · replace hf := kf_f hf b10
              refine k_iconst C (0 : Int32) dX6_teasing_57 (by decide) rfl ?_
              refine k_goto C 63 dX6_teasing_58 rfl ?_
              exact k_iret C K hf dX6_teasing_63
          · replace hf := kf_f hf b7
            have zb3 := ti_ne (1 : Int32) b3 (z := 1) rfl
            have zb4 := ti_ne (2 : Int32) b4 (z := 2) rfl
            have zb5 := ti_ne (3 : Int32) b5 (z := 3) rfl
            have zb6 := ti_ne (4 : Int32) b6 (z := 4) rfl
            have zb7 := ti_ne (5 : Int32) b7 (z := 5) rfl
            refine k_tabOut C 67 dX6_teasing_6 (by omega) rfl ?_
            refine k_bipush C (15 : Int32) dX6_teasing_67 (by decide) rfl ?_
            exact k_iret C K hf dX6_teasing_69
theorem mX6_teasing {G : kG} {v1 : Int32}  {st : kM} {res : Int32 × kM} (hf : fX6_teasing v1 st = some res) : kCt G yX6_teasing cX6_teasing 2 (some .int) rmX6_teasing [.ref (G.2.1 59), .int v1] st (some (.int res.1)) res.2 := kMet (by decide) (Nat.le_of_ble_eq_true rfl) ⟨rfl, rfl⟩ (fun X A Q C K => tX6_teasing C  hf K)
theorem qX6_teasing : yX6_teasing.cls = RX6 ∧ yX6_teasing.cls ≠ "java/lang/invoke/MethodHandle" ∧ yX6_teasing.cls ≠ "java/lang/invoke/VarHandle" ∧ (parseMethodDescriptor yX6_teasing.desc).map (fun d => d.parameters.length) = some 1 := ⟨rfl, by decide, by decide, by decide +kernel⟩
