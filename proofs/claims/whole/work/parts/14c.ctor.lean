theorem df_X0 : ∀ j, j < 5 → defaultValue (tyX0 j) = vp_V [.int 0, .int 0, .int 0, .int 0, .int 0] j := fun j hj => by match j, hj with
  | 0, _ => rfl
  | 1, _ => rfl
  | 2, _ => rfl
  | 3, _ => rfl
  | 4, _ => rfl
  | j + 5, h => omega
theorem df_X1 : ∀ j, j < 3 → defaultValue (tyX1 j) = vp_V [.int 0, .int 0, .null] j := fun j hj => by match j, hj with
  | 0, _ => rfl
  | 1, _ => rfl
  | 2, _ => rfl
  | j + 3, h => omega
theorem df_X2 : ∀ j, j < 2 → defaultValue (tyX2 j) = vp_V [.null, .int 0] j := fun j hj => by match j, hj with
  | 0, _ => rfl
  | 1, _ => rfl
  | j + 2, h => omega
theorem df_X3 : ∀ j, j < 7 → defaultValue (tyX3 j) = vp_V [.null, .null, .int 0, .int 0, .int 0, .int 0, .int 0] j := fun j hj => by match j, hj with
  | 0, _ => rfl
  | 1, _ => rfl
  | 2, _ => rfl
  | 3, _ => rfl
  | 4, _ => rfl
  | 5, _ => rfl
  | 6, _ => rfl
  | j + 7, h => omega
theorem df_X4 : ∀ j, j < 7 → defaultValue (tyX4 j) = vp_V [.int 0, .int 0, .int 0, .null, .null, .null, .null] j := fun j hj => by match j, hj with
  | 0, _ => rfl
  | 1, _ => rfl
  | 2, _ => rfl
  | 3, _ => rfl
  | 4, _ => rfl
  | 5, _ => rfl
  | 6, _ => rfl
  | j + 7, h => omega
theorem df_X5 : ∀ j, j < 8 → defaultValue (tyX5 j) = vp_V [.null, .null, .null, .int 0, .null, .null, .null, .null] j := fun j hj => by match j, hj with
  | 0, _ => rfl
  | 1, _ => rfl
  | 2, _ => rfl
  | 3, _ => rfl
  | 4, _ => rfl
  | 5, _ => rfl
  | 6, _ => rfl
  | 7, _ => rfl
  | j + 8, h => omega
theorem df_X6 : ∀ j, j < 19 → defaultValue (tyX6 j) = vp_V [.null, .null, .null, .null, .null, .int 0, .int 0, .int 0, .int 0, .long 0, .int 0, .int 0, .null, .null, .null, .null, .null, .null, .int 0] j := fun j hj => by match j, hj with
  | 0, _ => rfl
  | 1, _ => rfl
  | 2, _ => rfl
  | 3, _ => rfl
  | 4, _ => rfl
  | 5, _ => rfl
  | 6, _ => rfl
  | 7, _ => rfl
  | 8, _ => rfl
  | 9, _ => rfl
  | 10, _ => rfl
  | 11, _ => rfl
  | 12, _ => rfl
  | 13, _ => rfl
  | 14, _ => rfl
  | 15, _ => rfl
  | 16, _ => rfl
  | 17, _ => rfl
  | 18, _ => rfl
  | j + 19, h => omega
def ruX6_puts1 : Room := { frames := 0, cells := 0, slots := 0, locals := 0 }
theorem mU6_puts1 {G : kG} {h0 r : Nat} {m what v i : Int32} {fs : List Value} {f : Nat → Int32} (hfs : fs[0]? = some (.ref r)) (hi : (14 : Int32) + 2 * m + what = i) (hin : ¬ (i < 0 ∨ 72 ≤ i.toNatClampNeg)) : kCu G yX6_puts1 cX6_puts1 4 ruX6_puts1 [.ref h0, .int m, .int what, .int v] [(h0, .inr (6, fs)), (r, .inl (G.2.2.1 0, 72, .inl f))] (fun w => w = [(h0, .inr (6, fs)), (r, .inl (G.2.2.1 0, 72, .inl (upd f i.toNatClampNeg v)))]) 0 0 := by
  refine kMetU (by decide) (Nat.le_of_ble_eq_true rfl) (fun X A Q C hin0 K => ?_)
  refine i_aload_n C 0 dX6_puts1_0 rfl rfl ?_
  refine i_get (j := 0) C 0 rfl rfl inK6 (by decide) kw_3_238 hfs dX6_puts1_1 ?_
  refine i_bipush C (14 : Int32) dX6_puts1_4 (by decide) ?_
  refine i_iconst C (2 : Int32) dX6_puts1_6 (by decide) ?_
  refine i_iload_n C 1 dX6_puts1_7 rfl rfl ?_
  refine i_imul C _ rfl dX6_puts1_8 ?_
  refine i_iadd C _ rfl dX6_puts1_9 ?_
  refine i_iload_n C 2 dX6_puts1_10 rfl rfl ?_
  refine i_iadd C i hi dX6_puts1_11 ?_
  refine i_iload_n C 3 dX6_puts1_12 rfl rfl ?_
  refine i_iast (ws' := [(h0, .inr (6, fs)), (r, .inl (G.2.2.1 0, 72, .inl (upd f i.toNatClampNeg v)))]) C 1 rfl hin dX6_puts1_13 rfl ?_
  exact K _ _ _ rfl dX6_puts1_14
def ruX0_init : Room := { frames := 1, cells := 0, slots := 0, locals := 20 }
set_option maxRecDepth 100000 in
set_option maxHeartbeats 4000000 in
theorem mUX0_init {G : kG} {h0 : Nat} : kCu G yX0_init cX0_init 1 ruX0_init [.ref h0] [(h0, .inr (0, [.int 0, .int 0, .int 0, .int 0, .int 0]))] (fun w => w = [(h0, .inr (0, [.int 0, .int 0, .int 50, .int 0, .int 1]))]) 0 0 := by
  refine kMetU (by decide) (Nat.le_of_ble_eq_true rfl) (fun X A Q C hin0 K => ?_)
  have hin := hin0 rfl
  refine i_aload_n C 0 dX0_init_0 rfl rfl ?_
  refine i_obj C kw_1_35 kw_1_21 kw_1_22 ⟨by decide, by decide⟩ (Nat.le_of_ble_eq_true rfl) dX0_init_1 ?_
  refine i_aload_n C 0 dX0_init_4 rfl rfl ?_
  refine i_iconst C (0 : Int32) dX0_init_5 (by decide) ?_
  refine i_put (j := 0) (ty := .int) (ty0 := tyX0) (ws' := [(h0, .inr (0, [.int (0 : Int32), .int 0, .int 0, .int 0, .int 0]))]) C 0 rfl rfl inK0 tyX0_ok nmX0 (by decide) kw_1_36 rfl (by decide +kernel) rfl rfl (Nat.le_of_ble_eq_true rfl) dX0_init_6 rfl ?_
  refine i_aload_n C 0 dX0_init_9 rfl rfl ?_
  refine i_iconst C (0 : Int32) dX0_init_10 (by decide) ?_
  refine i_put (j := 1) (ty := .int) (ty0 := tyX0) (ws' := [(h0, .inr (0, [.int (0 : Int32), .int (0 : Int32), .int 0, .int 0, .int 0]))]) C 0 rfl rfl inK0 tyX0_ok nmX0 (by decide) kw_1_38 rfl (by decide +kernel) rfl rfl (Nat.le_of_ble_eq_true rfl) dX0_init_11 rfl ?_
  refine i_aload_n C 0 dX0_init_14 rfl rfl ?_
  refine i_bipush C (50 : Int32) dX0_init_15 (by decide) ?_
  refine i_put (j := 2) (ty := .int) (ty0 := tyX0) (ws' := [(h0, .inr (0, [.int (0 : Int32), .int (0 : Int32), .int (50 : Int32), .int 0, .int 0]))]) C 0 rfl rfl inK0 tyX0_ok nmX0 (by decide) kw_1_41 rfl (by decide +kernel) rfl rfl (Nat.le_of_ble_eq_true rfl) dX0_init_17 rfl ?_
  refine i_aload_n C 0 dX0_init_20 rfl rfl ?_
  refine i_iconst C (0 : Int32) dX0_init_21 (by decide) ?_
  refine i_put (j := 3) (ty := .int) (ty0 := tyX0) (ws' := [(h0, .inr (0, [.int (0 : Int32), .int (0 : Int32), .int (50 : Int32), .int (0 : Int32), .int 0]))]) C 0 rfl rfl inK0 tyX0_ok nmX0 (by decide) kw_1_45 rfl (by decide +kernel) rfl rfl (Nat.le_of_ble_eq_true rfl) dX0_init_22 rfl ?_
  refine i_aload_n C 0 dX0_init_25 rfl rfl ?_
  refine i_iconst C (1 : Int32) dX0_init_26 (by decide) ?_
  refine i_put (j := 4) (ty := .boolean) (ty0 := tyX0) (ws' := [(h0, .inr (0, [.int (0 : Int32), .int (0 : Int32), .int (50 : Int32), .int (0 : Int32), .int (1 : Int32)]))]) C 0 rfl rfl inK0 tyX0_ok nmX0 (by decide) kw_1_48 rfl (by decide +kernel) rfl rfl (Nat.le_of_ble_eq_true rfl) dX0_init_27 rfl ?_
  exact K _ _ _ rfl dX0_init_30
def ruX1_init : Room := { frames := 1, cells := 1, slots := 40, locals := 20 }
set_option maxRecDepth 100000 in
set_option maxHeartbeats 4000000 in
theorem mUX1_init {G : kG} {h0 : Nat} : kCu G yX1_init cX1_init 1 ruX1_init [.ref h0] [(h0, .inr (1, [.int 0, .int 0, .null]))] (fun w => ∃ a1 : Nat, w = [(h0, .inr (1, [.int 0, .int 0, .ref a1])), (a1, .inl (G.2.2.1 1, 40, .inr (.inl (fun _ => 0))))]) 1 40 := by
  refine kMetU (by decide) (Nat.le_of_ble_eq_true rfl) (fun X A Q C hin0 K => ?_)
  have hin := hin0 rfl
  refine i_aload_n C 0 dX1_init_0 rfl rfl ?_
  refine i_obj C kw_1_145 kw_1_21 kw_1_22 ⟨by decide, by decide⟩ (Nat.le_of_ble_eq_true rfl) dX1_init_1 ?_
  refine i_aload_n C 0 dX1_init_4 rfl rfl ?_
  refine i_iconst C (0 : Int32) dX1_init_5 (by decide) ?_
  refine i_put (j := 0) (ty := .int) (ty0 := tyX1) (ws' := [(h0, .inr (1, [.int (0 : Int32), .int 0, .null]))]) C 0 rfl rfl inK1 tyX1_ok nmX1 (by decide) kw_1_146 rfl (by decide +kernel) rfl rfl (Nat.le_of_ble_eq_true rfl) dX1_init_6 rfl ?_
  refine i_aload_n C 0 dX1_init_9 rfl rfl ?_
  refine i_iconst C (0 : Int32) dX1_init_10 (by decide) ?_
  refine i_put (j := 1) (ty := .int) (ty0 := tyX1) (ws' := [(h0, .inr (1, [.int (0 : Int32), .int (0 : Int32), .null]))]) C 0 rfl rfl inK1 tyX1_ok nmX1 (by decide) kw_1_148 rfl (by decide +kernel) rfl rfl (Nat.le_of_ble_eq_true rfl) dX1_init_11 rfl ?_
  refine i_aload_n C 0 dX1_init_14 rfl rfl ?_
  refine i_bipush C (40 : Int32) dX1_init_15 (by decide) ?_
  refine i_newJ C kw_1_159 (by decide) rfl (by decide) ⟨by decide, by decide⟩ dX1_init_17 (fun q1 => ?_)
  refine i_ws (ws' := [(h0, .inr (1, [.int (0 : Int32), .int (0 : Int32), .null])), (q1, .inl (G.2.2.1 1, 40, .inr (.inl (fun _ => 0))))]) rfl ?_
  refine i_putF (j := 2) (ty := tyX1 2) (ty0 := tyX1) (ws' := [(h0, .inr (1, [.int (0 : Int32), .int (0 : Int32), .ref q1])), (q1, .inl (G.2.2.1 1, 40, .inr (.inl (fun _ => 0))))]) C hin 0 rfl rfl inK1 tyX1_ok nmX1 (by decide) kw_1_150 rfl rfl (by decide +kernel) rfl rfl (Nat.le_of_ble_eq_true rfl) dX1_init_19 rfl ?_
  exact K _ _ _ ⟨_, rfl⟩ dX1_init_22
def ruX2_init : Room := { frames := 1, cells := 1, slots := 120, locals := 20 }
set_option maxRecDepth 100000 in
set_option maxHeartbeats 4000000 in
theorem mUX2_init {G : kG} {h0 : Nat} : kCu G yX2_init cX2_init 1 ruX2_init [.ref h0] [(h0, .inr (2, [.null, .int 0]))] (fun w => ∃ a1 : Nat, w = [(h0, .inr (2, [.ref a1, .int 0])), (a1, .inl (G.2.2.1 0, 120, .inl (fun _ => 0)))]) 1 120 := by
  refine kMetU (by decide) (Nat.le_of_ble_eq_true rfl) (fun X A Q C hin0 K => ?_)
  have hin := hin0 rfl
  refine i_aload_n C 0 dX2_init_0 rfl rfl ?_
  refine i_obj C kw_1_101 kw_1_21 kw_1_22 ⟨by decide, by decide⟩ (Nat.le_of_ble_eq_true rfl) dX2_init_1 ?_
  refine i_aload_n C 0 dX2_init_4 rfl rfl ?_
  refine i_bipush C (120 : Int32) dX2_init_5 (by decide) ?_
  refine i_newI C kw_1_63 (by decide) rfl (by decide) ⟨by decide, by decide⟩ dX2_init_7 (fun q1 => ?_)
  refine i_ws (ws' := [(h0, .inr (2, [.null, .int 0])), (q1, .inl (G.2.2.1 0, 120, .inl (fun _ => 0)))]) rfl ?_
  refine i_putF (j := 0) (ty := tyX2 0) (ty0 := tyX2) (ws' := [(h0, .inr (2, [.ref q1, .int 0])), (q1, .inl (G.2.2.1 0, 120, .inl (fun _ => 0)))]) C hin 0 rfl rfl inK2 tyX2_ok nmX2 (by decide) kw_1_102 rfl rfl (by decide +kernel) rfl rfl (Nat.le_of_ble_eq_true rfl) dX2_init_9 rfl ?_
  refine i_aload_n C 0 dX2_init_12 rfl rfl ?_
  refine i_iconst C (0 : Int32) dX2_init_13 (by decide) ?_
  refine i_put (j := 1) (ty := .int) (ty0 := tyX2) (ws' := [(h0, .inr (2, [.ref q1, .int (0 : Int32)])), (q1, .inl (G.2.2.1 0, 120, .inl (fun _ => 0)))]) C 0 rfl rfl inK2 tyX2_ok nmX2 (by decide) kw_1_103 rfl (by decide +kernel) rfl rfl (Nat.le_of_ble_eq_true rfl) dX2_init_14 rfl ?_
  exact K _ _ _ ⟨_, rfl⟩ dX2_init_17
def ruX3_init : Room := { frames := 1, cells := 0, slots := 0, locals := 20 }
set_option maxRecDepth 100000 in
set_option maxHeartbeats 4000000 in
theorem mUX3_init {G : kG} {h0 h1 h2 : Nat} : kCu G yX3_init cX3_init 3 ruX3_init [.ref h0, .ref h1, .ref h2] [(h0, .inr (3, [.null, .null, .int 0, .int 0, .int 0, .int 0, .int 0]))] (fun w => w = [(h0, .inr (3, [.ref h1, .ref h2, .int 0, .int 0, .int 0, .int 0, .int 0]))]) 0 0 := by
  refine kMetU (by decide) (Nat.le_of_ble_eq_true rfl) (fun X A Q C hin0 K => ?_)
  have hin := hin0 rfl
  refine i_aload_n C 0 dX3_init_0 rfl rfl ?_
  refine i_obj C kw_1_116 kw_1_21 kw_1_22 ⟨by decide, by decide⟩ (Nat.le_of_ble_eq_true rfl) dX3_init_1 ?_
  refine i_aload_n C 0 dX3_init_4 rfl rfl ?_
  refine i_iconst C (0 : Int32) dX3_init_5 (by decide) ?_
  refine i_put (j := 2) (ty := .int) (ty0 := tyX3) (ws' := [(h0, .inr (3, [.null, .null, .int (0 : Int32), .int 0, .int 0, .int 0, .int 0]))]) C 0 rfl rfl inK3 tyX3_ok nmX3 (by decide) kw_1_119 rfl (by decide +kernel) rfl rfl (Nat.le_of_ble_eq_true rfl) dX3_init_6 rfl ?_
  refine i_aload_n C 0 dX3_init_9 rfl rfl ?_
  refine i_iconst C (0 : Int32) dX3_init_10 (by decide) ?_
  refine i_put (j := 3) (ty := .int) (ty0 := tyX3) (ws' := [(h0, .inr (3, [.null, .null, .int (0 : Int32), .int (0 : Int32), .int 0, .int 0, .int 0]))]) C 0 rfl rfl inK3 tyX3_ok nmX3 (by decide) kw_1_120 rfl (by decide +kernel) rfl rfl (Nat.le_of_ble_eq_true rfl) dX3_init_11 rfl ?_
  refine i_aload_n C 0 dX3_init_14 rfl rfl ?_
  refine i_iconst C (0 : Int32) dX3_init_15 (by decide) ?_
  refine i_put (j := 4) (ty := .int) (ty0 := tyX3) (ws' := [(h0, .inr (3, [.null, .null, .int (0 : Int32), .int (0 : Int32), .int (0 : Int32), .int 0, .int 0]))]) C 0 rfl rfl inK3 tyX3_ok nmX3 (by decide) kw_1_121 rfl (by decide +kernel) rfl rfl (Nat.le_of_ble_eq_true rfl) dX3_init_16 rfl ?_
  refine i_aload_n C 0 dX3_init_19 rfl rfl ?_
  refine i_iconst C (0 : Int32) dX3_init_20 (by decide) ?_
  refine i_put (j := 5) (ty := .int) (ty0 := tyX3) (ws' := [(h0, .inr (3, [.null, .null, .int (0 : Int32), .int (0 : Int32), .int (0 : Int32), .int (0 : Int32), .int 0]))]) C 0 rfl rfl inK3 tyX3_ok nmX3 (by decide) kw_1_122 rfl (by decide +kernel) rfl rfl (Nat.le_of_ble_eq_true rfl) dX3_init_21 rfl ?_
  refine i_aload_n C 0 dX3_init_24 rfl rfl ?_
  refine i_iconst C (0 : Int32) dX3_init_25 (by decide) ?_
  refine i_put (j := 6) (ty := .int) (ty0 := tyX3) (ws' := [(h0, .inr (3, [.null, .null, .int (0 : Int32), .int (0 : Int32), .int (0 : Int32), .int (0 : Int32), .int (0 : Int32)]))]) C 0 rfl rfl inK3 tyX3_ok nmX3 (by decide) kw_1_123 rfl (by decide +kernel) rfl rfl (Nat.le_of_ble_eq_true rfl) dX3_init_26 rfl ?_
  refine i_aload_n C 0 dX3_init_29 rfl rfl ?_
  refine i_aload_n C 1 dX3_init_30 rfl rfl ?_
  refine i_putF (j := 0) (ty := tyX3 0) (ty0 := tyX3) (ws' := [(h0, .inr (3, [.ref h1, .null, .int (0 : Int32), .int (0 : Int32), .int (0 : Int32), .int (0 : Int32), .int (0 : Int32)]))]) C hin 0 rfl rfl inK3 tyX3_ok nmX3 (by decide) kw_1_117 rfl rfl (by decide +kernel) rfl rfl (Nat.le_of_ble_eq_true rfl) dX3_init_31 rfl ?_
  refine i_aload_n C 0 dX3_init_34 rfl rfl ?_
  refine i_aload_n C 2 dX3_init_35 rfl rfl ?_
  refine i_putF (j := 1) (ty := tyX3 1) (ty0 := tyX3) (ws' := [(h0, .inr (3, [.ref h1, .ref h2, .int (0 : Int32), .int (0 : Int32), .int (0 : Int32), .int (0 : Int32), .int (0 : Int32)]))]) C hin 0 rfl rfl inK3 tyX3_ok nmX3 (by decide) kw_1_118 rfl rfl (by decide +kernel) rfl rfl (Nat.le_of_ble_eq_true rfl) dX3_init_36 rfl ?_
  exact K _ _ _ rfl dX3_init_39
def ruX4_init : Room := { frames := 2, cells := 14, slots := 80, locals := 40 }
set_option maxRecDepth 100000 in
set_option maxHeartbeats 4000000 in
theorem mUX4_init {G : kG} {h0 : Nat} : kCu G yX4_init cX4_init 2 ruX4_init [.ref h0] [(h0, .inr (4, [.int 0, .int 0, .int 0, .null, .null, .null, .null]))] (fun w => ∃ a : Nat → Nat, a 0 = h0 ∧ w = u_yd G a) 14 80 := by
  refine kMetU (by decide) (Nat.le_of_ble_eq_true rfl) (fun X A Q C hin0 K => ?_)
  have hin := hin0 rfl
  refine i_aload_n C 0 dX4_init_0 rfl rfl ?_
  refine i_obj C kw_1_28 kw_1_21 kw_1_22 ⟨by decide, by decide⟩ (Nat.le_of_ble_eq_true rfl) dX4_init_1 ?_
  refine i_aload_n C 0 dX4_init_4 rfl rfl ?_
  refine i_iconst C (0 : Int32) dX4_init_5 (by decide) ?_
  refine i_put (j := 0) (ty := .int) (ty0 := tyX4) (ws' := [(h0, .inr (4, [.int (0 : Int32), .int 0, .int 0, .null, .null, .null, .null]))]) C 0 rfl rfl inK4 tyX4_ok nmX4 (by decide) kw_1_64 rfl (by decide +kernel) rfl rfl (Nat.le_of_ble_eq_true rfl) dX4_init_6 rfl ?_
  refine i_aload_n C 0 dX4_init_9 rfl rfl ?_
  refine i_iconst C (0 : Int32) dX4_init_10 (by decide) ?_
  refine i_put (j := 1) (ty := .int) (ty0 := tyX4) (ws' := [(h0, .inr (4, [.int (0 : Int32), .int (0 : Int32), .int 0, .null, .null, .null, .null]))]) C 0 rfl rfl inK4 tyX4_ok nmX4 (by decide) kw_1_66 rfl (by decide +kernel) rfl rfl (Nat.le_of_ble_eq_true rfl) dX4_init_11 rfl ?_
  refine i_aload_n C 0 dX4_init_14 rfl rfl ?_
  refine i_bipush C (15 : Int32) dX4_init_15 (by decide) ?_
  refine i_put (j := 2) (ty := .int) (ty0 := tyX4) (ws' := [(h0, .inr (4, [.int (0 : Int32), .int (0 : Int32), .int (15 : Int32), .null, .null, .null, .null]))]) C 0 rfl rfl inK4 tyX4_ok nmX4 (by decide) kw_1_69 rfl (by decide +kernel) rfl rfl (Nat.le_of_ble_eq_true rfl) dX4_init_17 rfl ?_
  refine i_aload_n C 0 dX4_init_20 rfl rfl ?_
  refine i_bipush C (12 : Int32) dX4_init_21 (by decide) ?_
  refine i_newI C kw_1_63 (by decide) rfl (by decide) ⟨by decide, by decide⟩ dX4_init_23 (fun q1 => ?_)
  refine i_ws (ws' := [(h0, .inr (4, [.int (0 : Int32), .int (0 : Int32), .int (15 : Int32), .null, .null, .null, .null])), (q1, .inl (G.2.2.1 0, 12, .inl (fun _ => 0)))]) rfl ?_
  refine i_putF (j := 3) (ty := tyX4 3) (ty0 := tyX4) (ws' := [(h0, .inr (4, [.int (0 : Int32), .int (0 : Int32), .int (15 : Int32), .ref q1, .null, .null, .null])), (q1, .inl (G.2.2.1 0, 12, .inl (fun _ => 0)))]) C hin 0 rfl rfl inK4 tyX4_ok nmX4 (by decide) kw_1_71 rfl rfl (by decide +kernel) rfl rfl (Nat.le_of_ble_eq_true rfl) dX4_init_25 rfl ?_
  refine i_aload_n C 0 dX4_init_28 rfl rfl ?_
  refine i_iconst C (4 : Int32) dX4_init_29 (by decide) ?_
  refine i_newI C kw_1_63 (by decide) rfl (by decide) ⟨by decide, by decide⟩ dX4_init_30 (fun q2 => ?_)
  refine i_ws (ws' := [(h0, .inr (4, [.int (0 : Int32), .int (0 : Int32), .int (15 : Int32), .ref q1, .null, .null, .null])), (q1, .inl (G.2.2.1 0, 12, .inl (fun _ => 0))), (q2, .inl (G.2.2.1 0, 4, .inl (fun _ => 0)))]) rfl ?_
  refine i_putF (j := 4) (ty := tyX4 4) (ty0 := tyX4) (ws' := [(h0, .inr (4, [.int (0 : Int32), .int (0 : Int32), .int (15 : Int32), .ref q1, .ref q2, .null, .null])), (q1, .inl (G.2.2.1 0, 12, .inl (fun _ => 0))), (q2, .inl (G.2.2.1 0, 4, .inl (fun _ => 0)))]) C hin 0 rfl rfl inK4 tyX4_ok nmX4 (by decide) kw_1_74 rfl rfl (by decide +kernel) rfl rfl (Nat.le_of_ble_eq_true rfl) dX4_init_32 rfl ?_
  refine i_aload_n C 0 dX4_init_35 rfl rfl ?_
  refine i_bipush C (10 : Int32) dX4_init_36 (by decide) ?_
  refine i_newQ (CN := "TalkKnots$Knot") C 2 rfl (by decide) C.2.2.2.2.2.2.2.2.1 kw_1_29 (by decide) rfl (by decide) ⟨by decide, by decide⟩ dX4_init_38 (fun q3 => ?_)
  refine i_ws (ws' := [(h0, .inr (4, [.int (0 : Int32), .int (0 : Int32), .int (15 : Int32), .ref q1, .ref q2, .null, .null])), (q1, .inl (G.2.2.1 0, 12, .inl (fun _ => 0))), (q2, .inl (G.2.2.1 0, 4, .inl (fun _ => 0))), (q3, .inl (G.2.2.1 2, 10, .inr (.inr (.inr (.inr (fun _ => none))))))]) rfl ?_
  refine i_putF (j := 5) (ty := tyX4 5) (ty0 := tyX4) (ws' := [(h0, .inr (4, [.int (0 : Int32), .int (0 : Int32), .int (15 : Int32), .ref q1, .ref q2, .ref q3, .null])), (q1, .inl (G.2.2.1 0, 12, .inl (fun _ => 0))), (q2, .inl (G.2.2.1 0, 4, .inl (fun _ => 0))), (q3, .inl (G.2.2.1 2, 10, .inr (.inr (.inr (.inr (fun _ => none))))))]) C hin 0 rfl rfl inK4 tyX4_ok nmX4 (by decide) kw_1_77 rfl rfl (by decide +kernel) rfl rfl (Nat.le_of_ble_eq_true rfl) dX4_init_41 rfl ?_
  refine i_aload_n C 0 dX4_init_44 rfl rfl ?_
  refine i_iconst C (4 : Int32) dX4_init_45 (by decide) ?_
  refine i_newI C kw_1_63 (by decide) rfl (by decide) ⟨by decide, by decide⟩ dX4_init_46 (fun q4 => ?_)
  refine i_ws (ws' := [(h0, .inr (4, [.int (0 : Int32), .int (0 : Int32), .int (15 : Int32), .ref q1, .ref q2, .ref q3, .null])), (q1, .inl (G.2.2.1 0, 12, .inl (fun _ => 0))), (q2, .inl (G.2.2.1 0, 4, .inl (fun _ => 0))), (q3, .inl (G.2.2.1 2, 10, .inr (.inr (.inr (.inr (fun _ => none)))))), (q4, .inl (G.2.2.1 0, 4, .inl (fun _ => 0)))]) rfl ?_
  refine i_putF (j := 6) (ty := tyX4 6) (ty0 := tyX4) (ws' := [(h0, .inr (4, [.int (0 : Int32), .int (0 : Int32), .int (15 : Int32), .ref q1, .ref q2, .ref q3, .ref q4])), (q1, .inl (G.2.2.1 0, 12, .inl (fun _ => 0))), (q2, .inl (G.2.2.1 0, 4, .inl (fun _ => 0))), (q3, .inl (G.2.2.1 2, 10, .inr (.inr (.inr (.inr (fun _ => none)))))), (q4, .inl (G.2.2.1 0, 4, .inl (fun _ => 0)))]) C hin 0 rfl rfl inK4 tyX4_ok nmX4 (by decide) kw_1_80 rfl rfl (by decide +kernel) rfl rfl (Nat.le_of_ble_eq_true rfl) dX4_init_48 rfl ?_
  refine i_iconst C (0 : Int32) dX4_init_51 (by decide) ?_
  refine i_istore_n (lv' := [(1, .int (0 : Int32)), (0, .ref h0)]) C dX4_init_52 rfl (by decide) rfl ?_
  refine i_iload_n C 0 dX4_init_53 rfl rfl ?_
  refine i_bipush C (12 : Int32) dX4_init_54 (by decide) ?_
  refine i_geF C 78 dX4_init_56 rfl (by decide) ?_
  refine i_aload_n C 1 dX4_init_59 rfl rfl ?_
  refine i_get (j := 3) C 0 rfl rfl inK4 (by decide) kw_1_71 rfl dX4_init_60 ?_
  refine i_iload_n C 0 dX4_init_63 rfl rfl ?_
  refine i_bipush C (7 : Int32) dX4_init_64 (by decide) ?_
  refine i_iload_n C 0 dX4_init_66 rfl rfl ?_
  refine i_imul C (0 : Int32) (by decide) dX4_init_67 ?_
  refine i_bipush C (30 : Int32) dX4_init_68 (by decide) ?_
  refine i_irem C (0 : Int32) (by decide) (by decide) dX4_init_70 ?_
  refine i_iast (ws' := [(h0, .inr (4, [.int (0 : Int32), .int (0 : Int32), .int (15 : Int32), .ref q1, .ref q2, .ref q3, .ref q4])), (q1, .inl (G.2.2.1 0, 12, .inl (upd (fun _ => 0) 0 0))), (q2, .inl (G.2.2.1 0, 4, .inl (fun _ => 0))), (q3, .inl (G.2.2.1 2, 10, .inr (.inr (.inr (.inr (fun _ => none)))))), (q4, .inl (G.2.2.1 0, 4, .inl (fun _ => 0)))]) C 1 rfl (by decide) dX4_init_71 rfl ?_
  refine i_iinc (lv' := [(1, .int (1 : Int32)), (0, .ref h0)]) C (1 : Int32) 0 dX4_init_72 rfl (by decide) (by decide) rfl ?_
  refine i_goto C 53 dX4_init_75 rfl ?_
  refine i_iload_n C 0 dX4_init_53 rfl rfl ?_
  refine i_bipush C (12 : Int32) dX4_init_54 (by decide) ?_
  refine i_geF C 78 dX4_init_56 rfl (by decide) ?_
  refine i_aload_n C 1 dX4_init_59 rfl rfl ?_
  refine i_get (j := 3) C 0 rfl rfl inK4 (by decide) kw_1_71 rfl dX4_init_60 ?_
  refine i_iload_n C 0 dX4_init_63 rfl rfl ?_
  refine i_bipush C (7 : Int32) dX4_init_64 (by decide) ?_
  refine i_iload_n C 0 dX4_init_66 rfl rfl ?_
  refine i_imul C (7 : Int32) (by decide) dX4_init_67 ?_
  refine i_bipush C (30 : Int32) dX4_init_68 (by decide) ?_
  refine i_irem C (7 : Int32) (by decide) (by decide) dX4_init_70 ?_
  refine i_iast (ws' := [(h0, .inr (4, [.int (0 : Int32), .int (0 : Int32), .int (15 : Int32), .ref q1, .ref q2, .ref q3, .ref q4])), (q1, .inl (G.2.2.1 0, 12, .inl (upd (upd (fun _ => 0) 0 0) 1 7))), (q2, .inl (G.2.2.1 0, 4, .inl (fun _ => 0))), (q3, .inl (G.2.2.1 2, 10, .inr (.inr (.inr (.inr (fun _ => none)))))), (q4, .inl (G.2.2.1 0, 4, .inl (fun _ => 0)))]) C 1 rfl (by decide) dX4_init_71 rfl ?_
  refine i_iinc (lv' := [(1, .int (2 : Int32)), (0, .ref h0)]) C (2 : Int32) 0 dX4_init_72 rfl (by decide) (by decide) rfl ?_
  refine i_goto C 53 dX4_init_75 rfl ?_
  refine i_iload_n C 0 dX4_init_53 rfl rfl ?_
  refine i_bipush C (12 : Int32) dX4_init_54 (by decide) ?_
  refine i_geF C 78 dX4_init_56 rfl (by decide) ?_
  refine i_aload_n C 1 dX4_init_59 rfl rfl ?_
  refine i_get (j := 3) C 0 rfl rfl inK4 (by decide) kw_1_71 rfl dX4_init_60 ?_
  refine i_iload_n C 0 dX4_init_63 rfl rfl ?_
  refine i_bipush C (7 : Int32) dX4_init_64 (by decide) ?_
  refine i_iload_n C 0 dX4_init_66 rfl rfl ?_
  refine i_imul C (14 : Int32) (by decide) dX4_init_67 ?_
  refine i_bipush C (30 : Int32) dX4_init_68 (by decide) ?_
  refine i_irem C (14 : Int32) (by decide) (by decide) dX4_init_70 ?_
  refine i_iast (ws' := [(h0, .inr (4, [.int (0 : Int32), .int (0 : Int32), .int (15 : Int32), .ref q1, .ref q2, .ref q3, .ref q4])), (q1, .inl (G.2.2.1 0, 12, .inl (upd (upd (upd (fun _ => 0) 0 0) 1 7) 2 14))), (q2, .inl (G.2.2.1 0, 4, .inl (fun _ => 0))), (q3, .inl (G.2.2.1 2, 10, .inr (.inr (.inr (.inr (fun _ => none)))))), (q4, .inl (G.2.2.1 0, 4, .inl (fun _ => 0)))]) C 1 rfl (by decide) dX4_init_71 rfl ?_
  refine i_iinc (lv' := [(1, .int (3 : Int32)), (0, .ref h0)]) C (3 : Int32) 0 dX4_init_72 rfl (by decide) (by decide) rfl ?_
  refine i_goto C 53 dX4_init_75 rfl ?_
  refine i_iload_n C 0 dX4_init_53 rfl rfl ?_
  refine i_bipush C (12 : Int32) dX4_init_54 (by decide) ?_
  refine i_geF C 78 dX4_init_56 rfl (by decide) ?_
  refine i_aload_n C 1 dX4_init_59 rfl rfl ?_
  refine i_get (j := 3) C 0 rfl rfl inK4 (by decide) kw_1_71 rfl dX4_init_60 ?_
  refine i_iload_n C 0 dX4_init_63 rfl rfl ?_
  refine i_bipush C (7 : Int32) dX4_init_64 (by decide) ?_
  refine i_iload_n C 0 dX4_init_66 rfl rfl ?_
  refine i_imul C (21 : Int32) (by decide) dX4_init_67 ?_
  refine i_bipush C (30 : Int32) dX4_init_68 (by decide) ?_
  refine i_irem C (21 : Int32) (by decide) (by decide) dX4_init_70 ?_
  refine i_iast (ws' := [(h0, .inr (4, [.int (0 : Int32), .int (0 : Int32), .int (15 : Int32), .ref q1, .ref q2, .ref q3, .ref q4])), (q1, .inl (G.2.2.1 0, 12, .inl (upd (upd (upd (upd (fun _ => 0) 0 0) 1 7) 2 14) 3 21))), (q2, .inl (G.2.2.1 0, 4, .inl (fun _ => 0))), (q3, .inl (G.2.2.1 2, 10, .inr (.inr (.inr (.inr (fun _ => none)))))), (q4, .inl (G.2.2.1 0, 4, .inl (fun _ => 0)))]) C 1 rfl (by decide) dX4_init_71 rfl ?_
  refine i_iinc (lv' := [(1, .int (4 : Int32)), (0, .ref h0)]) C (4 : Int32) 0 dX4_init_72 rfl (by decide) (by decide) rfl ?_
  refine i_goto C 53 dX4_init_75 rfl ?_
  refine i_iload_n C 0 dX4_init_53 rfl rfl ?_
  refine i_bipush C (12 : Int32) dX4_init_54 (by decide) ?_
  refine i_geF C 78 dX4_init_56 rfl (by decide) ?_
  refine i_aload_n C 1 dX4_init_59 rfl rfl ?_
  refine i_get (j := 3) C 0 rfl rfl inK4 (by decide) kw_1_71 rfl dX4_init_60 ?_
  refine i_iload_n C 0 dX4_init_63 rfl rfl ?_
  refine i_bipush C (7 : Int32) dX4_init_64 (by decide) ?_
  refine i_iload_n C 0 dX4_init_66 rfl rfl ?_
  refine i_imul C (28 : Int32) (by decide) dX4_init_67 ?_
  refine i_bipush C (30 : Int32) dX4_init_68 (by decide) ?_
  refine i_irem C (28 : Int32) (by decide) (by decide) dX4_init_70 ?_
  refine i_iast (ws' := [(h0, .inr (4, [.int (0 : Int32), .int (0 : Int32), .int (15 : Int32), .ref q1, .ref q2, .ref q3, .ref q4])), (q1, .inl (G.2.2.1 0, 12, .inl (upd (upd (upd (upd (upd (fun _ => 0) 0 0) 1 7) 2 14) 3 21) 4 28))), (q2, .inl (G.2.2.1 0, 4, .inl (fun _ => 0))), (q3, .inl (G.2.2.1 2, 10, .inr (.inr (.inr (.inr (fun _ => none)))))), (q4, .inl (G.2.2.1 0, 4, .inl (fun _ => 0)))]) C 1 rfl (by decide) dX4_init_71 rfl ?_
  refine i_iinc (lv' := [(1, .int (5 : Int32)), (0, .ref h0)]) C (5 : Int32) 0 dX4_init_72 rfl (by decide) (by decide) rfl ?_
  refine i_goto C 53 dX4_init_75 rfl ?_
  refine i_iload_n C 0 dX4_init_53 rfl rfl ?_
  refine i_bipush C (12 : Int32) dX4_init_54 (by decide) ?_
  refine i_geF C 78 dX4_init_56 rfl (by decide) ?_
  refine i_aload_n C 1 dX4_init_59 rfl rfl ?_
  refine i_get (j := 3) C 0 rfl rfl inK4 (by decide) kw_1_71 rfl dX4_init_60 ?_
  refine i_iload_n C 0 dX4_init_63 rfl rfl ?_
  refine i_bipush C (7 : Int32) dX4_init_64 (by decide) ?_
  refine i_iload_n C 0 dX4_init_66 rfl rfl ?_
  refine i_imul C (35 : Int32) (by decide) dX4_init_67 ?_
  refine i_bipush C (30 : Int32) dX4_init_68 (by decide) ?_
  refine i_irem C (5 : Int32) (by decide) (by decide) dX4_init_70 ?_
  refine i_iast (ws' := [(h0, .inr (4, [.int (0 : Int32), .int (0 : Int32), .int (15 : Int32), .ref q1, .ref q2, .ref q3, .ref q4])), (q1, .inl (G.2.2.1 0, 12, .inl (upd (upd (upd (upd (upd (upd (fun _ => 0) 0 0) 1 7) 2 14) 3 21) 4 28) 5 5))), (q2, .inl (G.2.2.1 0, 4, .inl (fun _ => 0))), (q3, .inl (G.2.2.1 2, 10, .inr (.inr (.inr (.inr (fun _ => none)))))), (q4, .inl (G.2.2.1 0, 4, .inl (fun _ => 0)))]) C 1 rfl (by decide) dX4_init_71 rfl ?_
  refine i_iinc (lv' := [(1, .int (6 : Int32)), (0, .ref h0)]) C (6 : Int32) 0 dX4_init_72 rfl (by decide) (by decide) rfl ?_
  refine i_goto C 53 dX4_init_75 rfl ?_
  refine i_iload_n C 0 dX4_init_53 rfl rfl ?_
  refine i_bipush C (12 : Int32) dX4_init_54 (by decide) ?_
  refine i_geF C 78 dX4_init_56 rfl (by decide) ?_
  refine i_aload_n C 1 dX4_init_59 rfl rfl ?_
  refine i_get (j := 3) C 0 rfl rfl inK4 (by decide) kw_1_71 rfl dX4_init_60 ?_
  refine i_iload_n C 0 dX4_init_63 rfl rfl ?_
  refine i_bipush C (7 : Int32) dX4_init_64 (by decide) ?_
  refine i_iload_n C 0 dX4_init_66 rfl rfl ?_
  refine i_imul C (42 : Int32) (by decide) dX4_init_67 ?_
  refine i_bipush C (30 : Int32) dX4_init_68 (by decide) ?_
  refine i_irem C (12 : Int32) (by decide) (by decide) dX4_init_70 ?_
  refine i_iast (ws' := [(h0, .inr (4, [.int (0 : Int32), .int (0 : Int32), .int (15 : Int32), .ref q1, .ref q2, .ref q3, .ref q4])), (q1, .inl (G.2.2.1 0, 12, .inl (upd (upd (upd (upd (upd (upd (upd (fun _ => 0) 0 0) 1 7) 2 14) 3 21) 4 28) 5 5) 6 12))), (q2, .inl (G.2.2.1 0, 4, .inl (fun _ => 0))), (q3, .inl (G.2.2.1 2, 10, .inr (.inr (.inr (.inr (fun _ => none)))))), (q4, .inl (G.2.2.1 0, 4, .inl (fun _ => 0)))]) C 1 rfl (by decide) dX4_init_71 rfl ?_
  refine i_iinc (lv' := [(1, .int (7 : Int32)), (0, .ref h0)]) C (7 : Int32) 0 dX4_init_72 rfl (by decide) (by decide) rfl ?_
  refine i_goto C 53 dX4_init_75 rfl ?_
  refine i_iload_n C 0 dX4_init_53 rfl rfl ?_
  refine i_bipush C (12 : Int32) dX4_init_54 (by decide) ?_
  refine i_geF C 78 dX4_init_56 rfl (by decide) ?_
  refine i_aload_n C 1 dX4_init_59 rfl rfl ?_
  refine i_get (j := 3) C 0 rfl rfl inK4 (by decide) kw_1_71 rfl dX4_init_60 ?_
  refine i_iload_n C 0 dX4_init_63 rfl rfl ?_
  refine i_bipush C (7 : Int32) dX4_init_64 (by decide) ?_
  refine i_iload_n C 0 dX4_init_66 rfl rfl ?_
  refine i_imul C (49 : Int32) (by decide) dX4_init_67 ?_
  refine i_bipush C (30 : Int32) dX4_init_68 (by decide) ?_
  refine i_irem C (19 : Int32) (by decide) (by decide) dX4_init_70 ?_
  refine i_iast (ws' := [(h0, .inr (4, [.int (0 : Int32), .int (0 : Int32), .int (15 : Int32), .ref q1, .ref q2, .ref q3, .ref q4])), (q1, .inl (G.2.2.1 0, 12, .inl (upd (upd (upd (upd (upd (upd (upd (upd (fun _ => 0) 0 0) 1 7) 2 14) 3 21) 4 28) 5 5) 6 12) 7 19))), (q2, .inl (G.2.2.1 0, 4, .inl (fun _ => 0))), (q3, .inl (G.2.2.1 2, 10, .inr (.inr (.inr (.inr (fun _ => none)))))), (q4, .inl (G.2.2.1 0, 4, .inl (fun _ => 0)))]) C 1 rfl (by decide) dX4_init_71 rfl ?_
  refine i_iinc (lv' := [(1, .int (8 : Int32)), (0, .ref h0)]) C (8 : Int32) 0 dX4_init_72 rfl (by decide) (by decide) rfl ?_
  refine i_goto C 53 dX4_init_75 rfl ?_
  refine i_iload_n C 0 dX4_init_53 rfl rfl ?_
  refine i_bipush C (12 : Int32) dX4_init_54 (by decide) ?_
  refine i_geF C 78 dX4_init_56 rfl (by decide) ?_
  refine i_aload_n C 1 dX4_init_59 rfl rfl ?_
  refine i_get (j := 3) C 0 rfl rfl inK4 (by decide) kw_1_71 rfl dX4_init_60 ?_
  refine i_iload_n C 0 dX4_init_63 rfl rfl ?_
  refine i_bipush C (7 : Int32) dX4_init_64 (by decide) ?_
  refine i_iload_n C 0 dX4_init_66 rfl rfl ?_
  refine i_imul C (56 : Int32) (by decide) dX4_init_67 ?_
  refine i_bipush C (30 : Int32) dX4_init_68 (by decide) ?_
  refine i_irem C (26 : Int32) (by decide) (by decide) dX4_init_70 ?_
  refine i_iast (ws' := [(h0, .inr (4, [.int (0 : Int32), .int (0 : Int32), .int (15 : Int32), .ref q1, .ref q2, .ref q3, .ref q4])), (q1, .inl (G.2.2.1 0, 12, .inl (upd (upd (upd (upd (upd (upd (upd (upd (upd (fun _ => 0) 0 0) 1 7) 2 14) 3 21) 4 28) 5 5) 6 12) 7 19) 8 26))), (q2, .inl (G.2.2.1 0, 4, .inl (fun _ => 0))), (q3, .inl (G.2.2.1 2, 10, .inr (.inr (.inr (.inr (fun _ => none)))))), (q4, .inl (G.2.2.1 0, 4, .inl (fun _ => 0)))]) C 1 rfl (by decide) dX4_init_71 rfl ?_
  refine i_iinc (lv' := [(1, .int (9 : Int32)), (0, .ref h0)]) C (9 : Int32) 0 dX4_init_72 rfl (by decide) (by decide) rfl ?_
  refine i_goto C 53 dX4_init_75 rfl ?_
  refine i_iload_n C 0 dX4_init_53 rfl rfl ?_
  refine i_bipush C (12 : Int32) dX4_init_54 (by decide) ?_
  refine i_geF C 78 dX4_init_56 rfl (by decide) ?_
  refine i_aload_n C 1 dX4_init_59 rfl rfl ?_
  refine i_get (j := 3) C 0 rfl rfl inK4 (by decide) kw_1_71 rfl dX4_init_60 ?_
  refine i_iload_n C 0 dX4_init_63 rfl rfl ?_
  refine i_bipush C (7 : Int32) dX4_init_64 (by decide) ?_
  refine i_iload_n C 0 dX4_init_66 rfl rfl ?_
  refine i_imul C (63 : Int32) (by decide) dX4_init_67 ?_
  refine i_bipush C (30 : Int32) dX4_init_68 (by decide) ?_
  refine i_irem C (3 : Int32) (by decide) (by decide) dX4_init_70 ?_
  refine i_iast (ws' := [(h0, .inr (4, [.int (0 : Int32), .int (0 : Int32), .int (15 : Int32), .ref q1, .ref q2, .ref q3, .ref q4])), (q1, .inl (G.2.2.1 0, 12, .inl (upd (upd (upd (upd (upd (upd (upd (upd (upd (upd (fun _ => 0) 0 0) 1 7) 2 14) 3 21) 4 28) 5 5) 6 12) 7 19) 8 26) 9 3))), (q2, .inl (G.2.2.1 0, 4, .inl (fun _ => 0))), (q3, .inl (G.2.2.1 2, 10, .inr (.inr (.inr (.inr (fun _ => none)))))), (q4, .inl (G.2.2.1 0, 4, .inl (fun _ => 0)))]) C 1 rfl (by decide) dX4_init_71 rfl ?_
  refine i_iinc (lv' := [(1, .int (10 : Int32)), (0, .ref h0)]) C (10 : Int32) 0 dX4_init_72 rfl (by decide) (by decide) rfl ?_
  refine i_goto C 53 dX4_init_75 rfl ?_
  refine i_iload_n C 0 dX4_init_53 rfl rfl ?_
  refine i_bipush C (12 : Int32) dX4_init_54 (by decide) ?_
  refine i_geF C 78 dX4_init_56 rfl (by decide) ?_
  refine i_aload_n C 1 dX4_init_59 rfl rfl ?_
  refine i_get (j := 3) C 0 rfl rfl inK4 (by decide) kw_1_71 rfl dX4_init_60 ?_
  refine i_iload_n C 0 dX4_init_63 rfl rfl ?_
  refine i_bipush C (7 : Int32) dX4_init_64 (by decide) ?_
  refine i_iload_n C 0 dX4_init_66 rfl rfl ?_
  refine i_imul C (70 : Int32) (by decide) dX4_init_67 ?_
  refine i_bipush C (30 : Int32) dX4_init_68 (by decide) ?_
  refine i_irem C (10 : Int32) (by decide) (by decide) dX4_init_70 ?_
  refine i_iast (ws' := [(h0, .inr (4, [.int (0 : Int32), .int (0 : Int32), .int (15 : Int32), .ref q1, .ref q2, .ref q3, .ref q4])), (q1, .inl (G.2.2.1 0, 12, .inl (upd (upd (upd (upd (upd (upd (upd (upd (upd (upd (upd (fun _ => 0) 0 0) 1 7) 2 14) 3 21) 4 28) 5 5) 6 12) 7 19) 8 26) 9 3) 10 10))), (q2, .inl (G.2.2.1 0, 4, .inl (fun _ => 0))), (q3, .inl (G.2.2.1 2, 10, .inr (.inr (.inr (.inr (fun _ => none)))))), (q4, .inl (G.2.2.1 0, 4, .inl (fun _ => 0)))]) C 1 rfl (by decide) dX4_init_71 rfl ?_
  refine i_iinc (lv' := [(1, .int (11 : Int32)), (0, .ref h0)]) C (11 : Int32) 0 dX4_init_72 rfl (by decide) (by decide) rfl ?_
  refine i_goto C 53 dX4_init_75 rfl ?_
  refine i_iload_n C 0 dX4_init_53 rfl rfl ?_
  refine i_bipush C (12 : Int32) dX4_init_54 (by decide) ?_
  refine i_geF C 78 dX4_init_56 rfl (by decide) ?_
  refine i_aload_n C 1 dX4_init_59 rfl rfl ?_
  refine i_get (j := 3) C 0 rfl rfl inK4 (by decide) kw_1_71 rfl dX4_init_60 ?_
  refine i_iload_n C 0 dX4_init_63 rfl rfl ?_
  refine i_bipush C (7 : Int32) dX4_init_64 (by decide) ?_
  refine i_iload_n C 0 dX4_init_66 rfl rfl ?_
  refine i_imul C (77 : Int32) (by decide) dX4_init_67 ?_
  refine i_bipush C (30 : Int32) dX4_init_68 (by decide) ?_
  refine i_irem C (17 : Int32) (by decide) (by decide) dX4_init_70 ?_
  refine i_iast (ws' := [(h0, .inr (4, [.int (0 : Int32), .int (0 : Int32), .int (15 : Int32), .ref q1, .ref q2, .ref q3, .ref q4])), (q1, .inl (G.2.2.1 0, 12, .inl (upd (upd (upd (upd (upd (upd (upd (upd (upd (upd (upd (upd (fun _ => 0) 0 0) 1 7) 2 14) 3 21) 4 28) 5 5) 6 12) 7 19) 8 26) 9 3) 10 10) 11 17))), (q2, .inl (G.2.2.1 0, 4, .inl (fun _ => 0))), (q3, .inl (G.2.2.1 2, 10, .inr (.inr (.inr (.inr (fun _ => none)))))), (q4, .inl (G.2.2.1 0, 4, .inl (fun _ => 0)))]) C 1 rfl (by decide) dX4_init_71 rfl ?_
  refine i_iinc (lv' := [(1, .int (12 : Int32)), (0, .ref h0)]) C (12 : Int32) 0 dX4_init_72 rfl (by decide) (by decide) rfl ?_
  refine i_goto C 53 dX4_init_75 rfl ?_
  refine i_iload_n C 0 dX4_init_53 rfl rfl ?_
  refine i_bipush C (12 : Int32) dX4_init_54 (by decide) ?_
  refine i_geT C 78 dX4_init_56 rfl (by decide) ?_
  refine i_iconst C (0 : Int32) dX4_init_78 (by decide) ?_
  refine i_istore_n (lv' := [(1, .int (0 : Int32)), (0, .ref h0)]) C dX4_init_79 rfl (by decide) rfl ?_
  refine i_iload_n C 0 dX4_init_80 rfl rfl ?_
  refine i_iconst C (4 : Int32) dX4_init_81 (by decide) ?_
  refine i_geF C 99 dX4_init_82 rfl (by decide) ?_
  refine i_aload_n C 1 dX4_init_85 rfl rfl ?_
  refine i_get (j := 4) C 0 rfl rfl inK4 (by decide) kw_1_74 rfl dX4_init_86 ?_
  refine i_iload_n C 0 dX4_init_89 rfl rfl ?_
  refine i_bipush C (100 : Int32) dX4_init_90 (by decide) ?_
  refine i_iast (ws' := [(h0, .inr (4, [.int (0 : Int32), .int (0 : Int32), .int (15 : Int32), .ref q1, .ref q2, .ref q3, .ref q4])), (q1, .inl (G.2.2.1 0, 12, .inl (upd (upd (upd (upd (upd (upd (upd (upd (upd (upd (upd (upd (fun _ => 0) 0 0) 1 7) 2 14) 3 21) 4 28) 5 5) 6 12) 7 19) 8 26) 9 3) 10 10) 11 17))), (q2, .inl (G.2.2.1 0, 4, .inl (upd (fun _ => 0) 0 100))), (q3, .inl (G.2.2.1 2, 10, .inr (.inr (.inr (.inr (fun _ => none)))))), (q4, .inl (G.2.2.1 0, 4, .inl (fun _ => 0)))]) C 2 rfl (by decide) dX4_init_92 rfl ?_
  refine i_iinc (lv' := [(1, .int (1 : Int32)), (0, .ref h0)]) C (1 : Int32) 0 dX4_init_93 rfl (by decide) (by decide) rfl ?_
  refine i_goto C 80 dX4_init_96 rfl ?_
  refine i_iload_n C 0 dX4_init_80 rfl rfl ?_
  refine i_iconst C (4 : Int32) dX4_init_81 (by decide) ?_
  refine i_geF C 99 dX4_init_82 rfl (by decide) ?_
  refine i_aload_n C 1 dX4_init_85 rfl rfl ?_
  refine i_get (j := 4) C 0 rfl rfl inK4 (by decide) kw_1_74 rfl dX4_init_86 ?_
  refine i_iload_n C 0 dX4_init_89 rfl rfl ?_
  refine i_bipush C (100 : Int32) dX4_init_90 (by decide) ?_
  refine i_iast (ws' := [(h0, .inr (4, [.int (0 : Int32), .int (0 : Int32), .int (15 : Int32), .ref q1, .ref q2, .ref q3, .ref q4])), (q1, .inl (G.2.2.1 0, 12, .inl (upd (upd (upd (upd (upd (upd (upd (upd (upd (upd (upd (upd (fun _ => 0) 0 0) 1 7) 2 14) 3 21) 4 28) 5 5) 6 12) 7 19) 8 26) 9 3) 10 10) 11 17))), (q2, .inl (G.2.2.1 0, 4, .inl (upd (upd (fun _ => 0) 0 100) 1 100))), (q3, .inl (G.2.2.1 2, 10, .inr (.inr (.inr (.inr (fun _ => none)))))), (q4, .inl (G.2.2.1 0, 4, .inl (fun _ => 0)))]) C 2 rfl (by decide) dX4_init_92 rfl ?_
  refine i_iinc (lv' := [(1, .int (2 : Int32)), (0, .ref h0)]) C (2 : Int32) 0 dX4_init_93 rfl (by decide) (by decide) rfl ?_
  refine i_goto C 80 dX4_init_96 rfl ?_
  refine i_iload_n C 0 dX4_init_80 rfl rfl ?_
  refine i_iconst C (4 : Int32) dX4_init_81 (by decide) ?_
  refine i_geF C 99 dX4_init_82 rfl (by decide) ?_
  refine i_aload_n C 1 dX4_init_85 rfl rfl ?_
  refine i_get (j := 4) C 0 rfl rfl inK4 (by decide) kw_1_74 rfl dX4_init_86 ?_
  refine i_iload_n C 0 dX4_init_89 rfl rfl ?_
  refine i_bipush C (100 : Int32) dX4_init_90 (by decide) ?_
  refine i_iast (ws' := [(h0, .inr (4, [.int (0 : Int32), .int (0 : Int32), .int (15 : Int32), .ref q1, .ref q2, .ref q3, .ref q4])), (q1, .inl (G.2.2.1 0, 12, .inl (upd (upd (upd (upd (upd (upd (upd (upd (upd (upd (upd (upd (fun _ => 0) 0 0) 1 7) 2 14) 3 21) 4 28) 5 5) 6 12) 7 19) 8 26) 9 3) 10 10) 11 17))), (q2, .inl (G.2.2.1 0, 4, .inl (upd (upd (upd (fun _ => 0) 0 100) 1 100) 2 100))), (q3, .inl (G.2.2.1 2, 10, .inr (.inr (.inr (.inr (fun _ => none)))))), (q4, .inl (G.2.2.1 0, 4, .inl (fun _ => 0)))]) C 2 rfl (by decide) dX4_init_92 rfl ?_
  refine i_iinc (lv' := [(1, .int (3 : Int32)), (0, .ref h0)]) C (3 : Int32) 0 dX4_init_93 rfl (by decide) (by decide) rfl ?_
  refine i_goto C 80 dX4_init_96 rfl ?_
  refine i_iload_n C 0 dX4_init_80 rfl rfl ?_
  refine i_iconst C (4 : Int32) dX4_init_81 (by decide) ?_
  refine i_geF C 99 dX4_init_82 rfl (by decide) ?_
  refine i_aload_n C 1 dX4_init_85 rfl rfl ?_
  refine i_get (j := 4) C 0 rfl rfl inK4 (by decide) kw_1_74 rfl dX4_init_86 ?_
  refine i_iload_n C 0 dX4_init_89 rfl rfl ?_
  refine i_bipush C (100 : Int32) dX4_init_90 (by decide) ?_
  refine i_iast (ws' := [(h0, .inr (4, [.int (0 : Int32), .int (0 : Int32), .int (15 : Int32), .ref q1, .ref q2, .ref q3, .ref q4])), (q1, .inl (G.2.2.1 0, 12, .inl (upd (upd (upd (upd (upd (upd (upd (upd (upd (upd (upd (upd (fun _ => 0) 0 0) 1 7) 2 14) 3 21) 4 28) 5 5) 6 12) 7 19) 8 26) 9 3) 10 10) 11 17))), (q2, .inl (G.2.2.1 0, 4, .inl (upd (upd (upd (upd (fun _ => 0) 0 100) 1 100) 2 100) 3 100))), (q3, .inl (G.2.2.1 2, 10, .inr (.inr (.inr (.inr (fun _ => none)))))), (q4, .inl (G.2.2.1 0, 4, .inl (fun _ => 0)))]) C 2 rfl (by decide) dX4_init_92 rfl ?_
  refine i_iinc (lv' := [(1, .int (4 : Int32)), (0, .ref h0)]) C (4 : Int32) 0 dX4_init_93 rfl (by decide) (by decide) rfl ?_
  refine i_goto C 80 dX4_init_96 rfl ?_
  refine i_iload_n C 0 dX4_init_80 rfl rfl ?_
  refine i_iconst C (4 : Int32) dX4_init_81 (by decide) ?_
  refine i_geT C 99 dX4_init_82 rfl (by decide) ?_
  refine i_iconst C (0 : Int32) dX4_init_99 (by decide) ?_
  refine i_istore_n (lv' := [(1, .int (0 : Int32)), (0, .ref h0)]) C dX4_init_100 rfl (by decide) rfl ?_
  refine i_iload_n C 0 dX4_init_101 rfl rfl ?_
  refine i_bipush C (10 : Int32) dX4_init_102 (by decide) ?_
  refine i_geF C 126 dX4_init_104 rfl (by decide) ?_
  refine i_aload_n C 1 dX4_init_107 rfl rfl ?_
  refine i_get (j := 5) C 0 rfl rfl inK4 (by decide) kw_1_77 rfl dX4_init_108 ?_
  refine i_iload_n C 0 dX4_init_111 rfl rfl ?_
  refine i_new (kk := 0) (ty0 := tyX0) (fs := [.int 0, .int 0, .int 0, .int 0, .int 0]) C rfl inK0 tyX0_ok kw_1_29 kw_1_31 kw_1_3 (fun j hj => df_X0 j hj) ⟨by decide, by decide⟩ dX4_init_112 (fun q5 => ?_)
  refine i_ws (ws' := [(h0, .inr (4, [.int (0 : Int32), .int (0 : Int32), .int (15 : Int32), .ref q1, .ref q2, .ref q3, .ref q4])), (q1, .inl (G.2.2.1 0, 12, .inl (upd (upd (upd (upd (upd (upd (upd (upd (upd (upd (upd (upd (fun _ => 0) 0 0) 1 7) 2 14) 3 21) 4 28) 5 5) 6 12) 7 19) 8 26) 9 3) 10 10) 11 17))), (q2, .inl (G.2.2.1 0, 4, .inl (upd (upd (upd (upd (fun _ => 0) 0 100) 1 100) 2 100) 3 100))), (q3, .inl (G.2.2.1 2, 10, .inr (.inr (.inr (.inr (fun _ => none)))))), (q4, .inl (G.2.2.1 0, 4, .inl (fun _ => 0))), (q5, .inr (0, [.int 0, .int 0, .int 0, .int 0, .int 0]))]) rfl ?_
  refine i_dup C dX4_init_115 rfl ?_
  refine i_callI (n := 0) (wr := [(h0, .inr (4, [.int (0 : Int32), .int (0 : Int32), .int (15 : Int32), .ref q1, .ref q2, .ref q3, .ref q4])), (q1, .inl (G.2.2.1 0, 12, .inl (upd (upd (upd (upd (upd (upd (upd (upd (upd (upd (upd (upd (fun _ => 0) 0 0) 1 7) 2 14) 3 21) 4 28) 5 5) 6 12) 7 19) 8 26) 9 3) 10 10) 11 17))), (q2, .inl (G.2.2.1 0, 4, .inl (upd (upd (upd (upd (fun _ => 0) 0 100) 1 100) 2 100) 3 100))), (q3, .inl (G.2.2.1 2, 10, .inr (.inr (.inr (.inr (fun _ => none)))))), (q4, .inl (G.2.2.1 0, 4, .inl (fun _ => 0)))]) C [] (mUX0_init (h0 := q5)) [5] [0, 1, 2, 3, 4] rfl rfl (by decide) (by decide) (by decide) kw_1_32 kw_1_33 kw_1_3 kw_1_34 rfl ⟨by decide, by decide, by decide +kernel⟩ rfl ⟨by decide, by decide⟩ ⟨rfl, rfl⟩ ⟨by decide, by decide⟩ (Nat.le_of_ble_eq_true rfl) dX4_init_116 rfl (fun w1 hB => ?_)
  subst hB
  refine i_ws (ws' := [(h0, .inr (4, [.int (0 : Int32), .int (0 : Int32), .int (15 : Int32), .ref q1, .ref q2, .ref q3, .ref q4])), (q1, .inl (G.2.2.1 0, 12, .inl (upd (upd (upd (upd (upd (upd (upd (upd (upd (upd (upd (upd (fun _ => 0) 0 0) 1 7) 2 14) 3 21) 4 28) 5 5) 6 12) 7 19) 8 26) 9 3) 10 10) 11 17))), (q2, .inl (G.2.2.1 0, 4, .inl (upd (upd (upd (upd (fun _ => 0) 0 100) 1 100) 2 100) 3 100))), (q3, .inl (G.2.2.1 2, 10, .inr (.inr (.inr (.inr (fun _ => none)))))), (q4, .inl (G.2.2.1 0, 4, .inl (fun _ => 0))), (q5, .inr (0, [.int 0, .int 0, .int 50, .int 0, .int 1]))]) rfl ?_
  refine i_astq (r := (RX0, TX0, 5)) (ws' := [(h0, .inr (4, [.int (0 : Int32), .int (0 : Int32), .int (15 : Int32), .ref q1, .ref q2, .ref q3, .ref q4])), (q1, .inl (G.2.2.1 0, 12, .inl (upd (upd (upd (upd (upd (upd (upd (upd (upd (upd (upd (upd (fun _ => 0) 0 0) 1 7) 2 14) 3 21) 4 28) 5 5) 6 12) 7 19) 8 26) 9 3) 10 10) 11 17))), (q2, .inl (G.2.2.1 0, 4, .inl (upd (upd (upd (upd (fun _ => 0) 0 100) 1 100) 2 100) 3 100))), (q3, .inl (G.2.2.1 2, 10, .inr (.inr (.inr (.inr (va_up (fun _ => none) 0 (some q5))))))), (q4, .inl (G.2.2.1 0, 4, .inl (fun _ => 0))), (q5, .inr (0, [.int 0, .int 0, .int 50, .int 0, .int 1]))]) C 3 2 5 rfl rfl rfl rfl (by decide) dX4_init_119 rfl ?_
  refine i_iinc (lv' := [(1, .int (1 : Int32)), (0, .ref h0)]) C (1 : Int32) 0 dX4_init_120 rfl (by decide) (by decide) rfl ?_
  refine i_goto C 101 dX4_init_123 rfl ?_
  refine i_iload_n C 0 dX4_init_101 rfl rfl ?_
  refine i_bipush C (10 : Int32) dX4_init_102 (by decide) ?_
  refine i_geF C 126 dX4_init_104 rfl (by decide) ?_
  refine i_aload_n C 1 dX4_init_107 rfl rfl ?_
  refine i_get (j := 5) C 0 rfl rfl inK4 (by decide) kw_1_77 rfl dX4_init_108 ?_
  refine i_iload_n C 0 dX4_init_111 rfl rfl ?_
  refine i_new (kk := 0) (ty0 := tyX0) (fs := [.int 0, .int 0, .int 0, .int 0, .int 0]) C rfl inK0 tyX0_ok kw_1_29 kw_1_31 kw_1_3 (fun j hj => df_X0 j hj) ⟨by decide, by decide⟩ dX4_init_112 (fun q6 => ?_)
  refine i_ws (ws' := [(h0, .inr (4, [.int (0 : Int32), .int (0 : Int32), .int (15 : Int32), .ref q1, .ref q2, .ref q3, .ref q4])), (q1, .inl (G.2.2.1 0, 12, .inl (upd (upd (upd (upd (upd (upd (upd (upd (upd (upd (upd (upd (fun _ => 0) 0 0) 1 7) 2 14) 3 21) 4 28) 5 5) 6 12) 7 19) 8 26) 9 3) 10 10) 11 17))), (q2, .inl (G.2.2.1 0, 4, .inl (upd (upd (upd (upd (fun _ => 0) 0 100) 1 100) 2 100) 3 100))), (q3, .inl (G.2.2.1 2, 10, .inr (.inr (.inr (.inr (va_up (fun _ => none) 0 (some q5))))))), (q4, .inl (G.2.2.1 0, 4, .inl (fun _ => 0))), (q5, .inr (0, [.int 0, .int 0, .int 50, .int 0, .int 1])), (q6, .inr (0, [.int 0, .int 0, .int 0, .int 0, .int 0]))]) rfl ?_
  refine i_dup C dX4_init_115 rfl ?_
  refine i_callI (n := 0) (wr := [(h0, .inr (4, [.int (0 : Int32), .int (0 : Int32), .int (15 : Int32), .ref q1, .ref q2, .ref q3, .ref q4])), (q1, .inl (G.2.2.1 0, 12, .inl (upd (upd (upd (upd (upd (upd (upd (upd (upd (upd (upd (upd (fun _ => 0) 0 0) 1 7) 2 14) 3 21) 4 28) 5 5) 6 12) 7 19) 8 26) 9 3) 10 10) 11 17))), (q2, .inl (G.2.2.1 0, 4, .inl (upd (upd (upd (upd (fun _ => 0) 0 100) 1 100) 2 100) 3 100))), (q3, .inl (G.2.2.1 2, 10, .inr (.inr (.inr (.inr (va_up (fun _ => none) 0 (some q5))))))), (q4, .inl (G.2.2.1 0, 4, .inl (fun _ => 0))), (q5, .inr (0, [.int 0, .int 0, .int 50, .int 0, .int 1]))]) C [] (mUX0_init (h0 := q6)) [6] [0, 1, 2, 3, 4, 5] rfl rfl (by decide) (by decide) (by decide) kw_1_32 kw_1_33 kw_1_3 kw_1_34 rfl ⟨by decide, by decide, by decide +kernel⟩ rfl ⟨by decide, by decide⟩ ⟨rfl, rfl⟩ ⟨by decide, by decide⟩ (Nat.le_of_ble_eq_true rfl) dX4_init_116 rfl (fun w1 hB => ?_)
  subst hB
  refine i_ws (ws' := [(h0, .inr (4, [.int (0 : Int32), .int (0 : Int32), .int (15 : Int32), .ref q1, .ref q2, .ref q3, .ref q4])), (q1, .inl (G.2.2.1 0, 12, .inl (upd (upd (upd (upd (upd (upd (upd (upd (upd (upd (upd (upd (fun _ => 0) 0 0) 1 7) 2 14) 3 21) 4 28) 5 5) 6 12) 7 19) 8 26) 9 3) 10 10) 11 17))), (q2, .inl (G.2.2.1 0, 4, .inl (upd (upd (upd (upd (fun _ => 0) 0 100) 1 100) 2 100) 3 100))), (q3, .inl (G.2.2.1 2, 10, .inr (.inr (.inr (.inr (va_up (fun _ => none) 0 (some q5))))))), (q4, .inl (G.2.2.1 0, 4, .inl (fun _ => 0))), (q5, .inr (0, [.int 0, .int 0, .int 50, .int 0, .int 1])), (q6, .inr (0, [.int 0, .int 0, .int 50, .int 0, .int 1]))]) rfl ?_
  refine i_astq (r := (RX0, TX0, 5)) (ws' := [(h0, .inr (4, [.int (0 : Int32), .int (0 : Int32), .int (15 : Int32), .ref q1, .ref q2, .ref q3, .ref q4])), (q1, .inl (G.2.2.1 0, 12, .inl (upd (upd (upd (upd (upd (upd (upd (upd (upd (upd (upd (upd (fun _ => 0) 0 0) 1 7) 2 14) 3 21) 4 28) 5 5) 6 12) 7 19) 8 26) 9 3) 10 10) 11 17))), (q2, .inl (G.2.2.1 0, 4, .inl (upd (upd (upd (upd (fun _ => 0) 0 100) 1 100) 2 100) 3 100))), (q3, .inl (G.2.2.1 2, 10, .inr (.inr (.inr (.inr (va_up (va_up (fun _ => none) 0 (some q5)) 1 (some q6))))))), (q4, .inl (G.2.2.1 0, 4, .inl (fun _ => 0))), (q5, .inr (0, [.int 0, .int 0, .int 50, .int 0, .int 1])), (q6, .inr (0, [.int 0, .int 0, .int 50, .int 0, .int 1]))]) C 3 2 6 rfl rfl rfl rfl (by decide) dX4_init_119 rfl ?_
  refine i_iinc (lv' := [(1, .int (2 : Int32)), (0, .ref h0)]) C (2 : Int32) 0 dX4_init_120 rfl (by decide) (by decide) rfl ?_
  refine i_goto C 101 dX4_init_123 rfl ?_
  refine i_iload_n C 0 dX4_init_101 rfl rfl ?_
  refine i_bipush C (10 : Int32) dX4_init_102 (by decide) ?_
  refine i_geF C 126 dX4_init_104 rfl (by decide) ?_
  refine i_aload_n C 1 dX4_init_107 rfl rfl ?_
  refine i_get (j := 5) C 0 rfl rfl inK4 (by decide) kw_1_77 rfl dX4_init_108 ?_
  refine i_iload_n C 0 dX4_init_111 rfl rfl ?_
  refine i_new (kk := 0) (ty0 := tyX0) (fs := [.int 0, .int 0, .int 0, .int 0, .int 0]) C rfl inK0 tyX0_ok kw_1_29 kw_1_31 kw_1_3 (fun j hj => df_X0 j hj) ⟨by decide, by decide⟩ dX4_init_112 (fun q7 => ?_)
  refine i_ws (ws' := [(h0, .inr (4, [.int (0 : Int32), .int (0 : Int32), .int (15 : Int32), .ref q1, .ref q2, .ref q3, .ref q4])), (q1, .inl (G.2.2.1 0, 12, .inl (upd (upd (upd (upd (upd (upd (upd (upd (upd (upd (upd (upd (fun _ => 0) 0 0) 1 7) 2 14) 3 21) 4 28) 5 5) 6 12) 7 19) 8 26) 9 3) 10 10) 11 17))), (q2, .inl (G.2.2.1 0, 4, .inl (upd (upd (upd (upd (fun _ => 0) 0 100) 1 100) 2 100) 3 100))), (q3, .inl (G.2.2.1 2, 10, .inr (.inr (.inr (.inr (va_up (va_up (fun _ => none) 0 (some q5)) 1 (some q6))))))), (q4, .inl (G.2.2.1 0, 4, .inl (fun _ => 0))), (q5, .inr (0, [.int 0, .int 0, .int 50, .int 0, .int 1])), (q6, .inr (0, [.int 0, .int 0, .int 50, .int 0, .int 1])), (q7, .inr (0, [.int 0, .int 0, .int 0, .int 0, .int 0]))]) rfl ?_
  refine i_dup C dX4_init_115 rfl ?_
  refine i_callI (n := 0) (wr := [(h0, .inr (4, [.int (0 : Int32), .int (0 : Int32), .int (15 : Int32), .ref q1, .ref q2, .ref q3, .ref q4])), (q1, .inl (G.2.2.1 0, 12, .inl (upd (upd (upd (upd (upd (upd (upd (upd (upd (upd (upd (upd (fun _ => 0) 0 0) 1 7) 2 14) 3 21) 4 28) 5 5) 6 12) 7 19) 8 26) 9 3) 10 10) 11 17))), (q2, .inl (G.2.2.1 0, 4, .inl (upd (upd (upd (upd (fun _ => 0) 0 100) 1 100) 2 100) 3 100))), (q3, .inl (G.2.2.1 2, 10, .inr (.inr (.inr (.inr (va_up (va_up (fun _ => none) 0 (some q5)) 1 (some q6))))))), (q4, .inl (G.2.2.1 0, 4, .inl (fun _ => 0))), (q5, .inr (0, [.int 0, .int 0, .int 50, .int 0, .int 1])), (q6, .inr (0, [.int 0, .int 0, .int 50, .int 0, .int 1]))]) C [] (mUX0_init (h0 := q7)) [7] [0, 1, 2, 3, 4, 5, 6] rfl rfl (by decide) (by decide) (by decide) kw_1_32 kw_1_33 kw_1_3 kw_1_34 rfl ⟨by decide, by decide, by decide +kernel⟩ rfl ⟨by decide, by decide⟩ ⟨rfl, rfl⟩ ⟨by decide, by decide⟩ (Nat.le_of_ble_eq_true rfl) dX4_init_116 rfl (fun w1 hB => ?_)
  subst hB
  refine i_ws (ws' := [(h0, .inr (4, [.int (0 : Int32), .int (0 : Int32), .int (15 : Int32), .ref q1, .ref q2, .ref q3, .ref q4])), (q1, .inl (G.2.2.1 0, 12, .inl (upd (upd (upd (upd (upd (upd (upd (upd (upd (upd (upd (upd (fun _ => 0) 0 0) 1 7) 2 14) 3 21) 4 28) 5 5) 6 12) 7 19) 8 26) 9 3) 10 10) 11 17))), (q2, .inl (G.2.2.1 0, 4, .inl (upd (upd (upd (upd (fun _ => 0) 0 100) 1 100) 2 100) 3 100))), (q3, .inl (G.2.2.1 2, 10, .inr (.inr (.inr (.inr (va_up (va_up (fun _ => none) 0 (some q5)) 1 (some q6))))))), (q4, .inl (G.2.2.1 0, 4, .inl (fun _ => 0))), (q5, .inr (0, [.int 0, .int 0, .int 50, .int 0, .int 1])), (q6, .inr (0, [.int 0, .int 0, .int 50, .int 0, .int 1])), (q7, .inr (0, [.int 0, .int 0, .int 50, .int 0, .int 1]))]) rfl ?_
  refine i_astq (r := (RX0, TX0, 5)) (ws' := [(h0, .inr (4, [.int (0 : Int32), .int (0 : Int32), .int (15 : Int32), .ref q1, .ref q2, .ref q3, .ref q4])), (q1, .inl (G.2.2.1 0, 12, .inl (upd (upd (upd (upd (upd (upd (upd (upd (upd (upd (upd (upd (fun _ => 0) 0 0) 1 7) 2 14) 3 21) 4 28) 5 5) 6 12) 7 19) 8 26) 9 3) 10 10) 11 17))), (q2, .inl (G.2.2.1 0, 4, .inl (upd (upd (upd (upd (fun _ => 0) 0 100) 1 100) 2 100) 3 100))), (q3, .inl (G.2.2.1 2, 10, .inr (.inr (.inr (.inr (va_up (va_up (va_up (fun _ => none) 0 (some q5)) 1 (some q6)) 2 (some q7))))))), (q4, .inl (G.2.2.1 0, 4, .inl (fun _ => 0))), (q5, .inr (0, [.int 0, .int 0, .int 50, .int 0, .int 1])), (q6, .inr (0, [.int 0, .int 0, .int 50, .int 0, .int 1])), (q7, .inr (0, [.int 0, .int 0, .int 50, .int 0, .int 1]))]) C 3 2 7 rfl rfl rfl rfl (by decide) dX4_init_119 rfl ?_
  refine i_iinc (lv' := [(1, .int (3 : Int32)), (0, .ref h0)]) C (3 : Int32) 0 dX4_init_120 rfl (by decide) (by decide) rfl ?_
  refine i_goto C 101 dX4_init_123 rfl ?_
  refine i_iload_n C 0 dX4_init_101 rfl rfl ?_
  refine i_bipush C (10 : Int32) dX4_init_102 (by decide) ?_
  refine i_geF C 126 dX4_init_104 rfl (by decide) ?_
  refine i_aload_n C 1 dX4_init_107 rfl rfl ?_
  refine i_get (j := 5) C 0 rfl rfl inK4 (by decide) kw_1_77 rfl dX4_init_108 ?_
  refine i_iload_n C 0 dX4_init_111 rfl rfl ?_
  refine i_new (kk := 0) (ty0 := tyX0) (fs := [.int 0, .int 0, .int 0, .int 0, .int 0]) C rfl inK0 tyX0_ok kw_1_29 kw_1_31 kw_1_3 (fun j hj => df_X0 j hj) ⟨by decide, by decide⟩ dX4_init_112 (fun q8 => ?_)
  refine i_ws (ws' := [(h0, .inr (4, [.int (0 : Int32), .int (0 : Int32), .int (15 : Int32), .ref q1, .ref q2, .ref q3, .ref q4])), (q1, .inl (G.2.2.1 0, 12, .inl (upd (upd (upd (upd (upd (upd (upd (upd (upd (upd (upd (upd (fun _ => 0) 0 0) 1 7) 2 14) 3 21) 4 28) 5 5) 6 12) 7 19) 8 26) 9 3) 10 10) 11 17))), (q2, .inl (G.2.2.1 0, 4, .inl (upd (upd (upd (upd (fun _ => 0) 0 100) 1 100) 2 100) 3 100))), (q3, .inl (G.2.2.1 2, 10, .inr (.inr (.inr (.inr (va_up (va_up (va_up (fun _ => none) 0 (some q5)) 1 (some q6)) 2 (some q7))))))), (q4, .inl (G.2.2.1 0, 4, .inl (fun _ => 0))), (q5, .inr (0, [.int 0, .int 0, .int 50, .int 0, .int 1])), (q6, .inr (0, [.int 0, .int 0, .int 50, .int 0, .int 1])), (q7, .inr (0, [.int 0, .int 0, .int 50, .int 0, .int 1])), (q8, .inr (0, [.int 0, .int 0, .int 0, .int 0, .int 0]))]) rfl ?_
  refine i_dup C dX4_init_115 rfl ?_
  refine i_callI (n := 0) (wr := [(h0, .inr (4, [.int (0 : Int32), .int (0 : Int32), .int (15 : Int32), .ref q1, .ref q2, .ref q3, .ref q4])), (q1, .inl (G.2.2.1 0, 12, .inl (upd (upd (upd (upd (upd (upd (upd (upd (upd (upd (upd (upd (fun _ => 0) 0 0) 1 7) 2 14) 3 21) 4 28) 5 5) 6 12) 7 19) 8 26) 9 3) 10 10) 11 17))), (q2, .inl (G.2.2.1 0, 4, .inl (upd (upd (upd (upd (fun _ => 0) 0 100) 1 100) 2 100) 3 100))), (q3, .inl (G.2.2.1 2, 10, .inr (.inr (.inr (.inr (va_up (va_up (va_up (fun _ => none) 0 (some q5)) 1 (some q6)) 2 (some q7))))))), (q4, .inl (G.2.2.1 0, 4, .inl (fun _ => 0))), (q5, .inr (0, [.int 0, .int 0, .int 50, .int 0, .int 1])), (q6, .inr (0, [.int 0, .int 0, .int 50, .int 0, .int 1])), (q7, .inr (0, [.int 0, .int 0, .int 50, .int 0, .int 1]))]) C [] (mUX0_init (h0 := q8)) [8] [0, 1, 2, 3, 4, 5, 6, 7] rfl rfl (by decide) (by decide) (by decide) kw_1_32 kw_1_33 kw_1_3 kw_1_34 rfl ⟨by decide, by decide, by decide +kernel⟩ rfl ⟨by decide, by decide⟩ ⟨rfl, rfl⟩ ⟨by decide, by decide⟩ (Nat.le_of_ble_eq_true rfl) dX4_init_116 rfl (fun w1 hB => ?_)
  subst hB
  refine i_ws (ws' := [(h0, .inr (4, [.int (0 : Int32), .int (0 : Int32), .int (15 : Int32), .ref q1, .ref q2, .ref q3, .ref q4])), (q1, .inl (G.2.2.1 0, 12, .inl (upd (upd (upd (upd (upd (upd (upd (upd (upd (upd (upd (upd (fun _ => 0) 0 0) 1 7) 2 14) 3 21) 4 28) 5 5) 6 12) 7 19) 8 26) 9 3) 10 10) 11 17))), (q2, .inl (G.2.2.1 0, 4, .inl (upd (upd (upd (upd (fun _ => 0) 0 100) 1 100) 2 100) 3 100))), (q3, .inl (G.2.2.1 2, 10, .inr (.inr (.inr (.inr (va_up (va_up (va_up (fun _ => none) 0 (some q5)) 1 (some q6)) 2 (some q7))))))), (q4, .inl (G.2.2.1 0, 4, .inl (fun _ => 0))), (q5, .inr (0, [.int 0, .int 0, .int 50, .int 0, .int 1])), (q6, .inr (0, [.int 0, .int 0, .int 50, .int 0, .int 1])), (q7, .inr (0, [.int 0, .int 0, .int 50, .int 0, .int 1])), (q8, .inr (0, [.int 0, .int 0, .int 50, .int 0, .int 1]))]) rfl ?_
  refine i_astq (r := (RX0, TX0, 5)) (ws' := [(h0, .inr (4, [.int (0 : Int32), .int (0 : Int32), .int (15 : Int32), .ref q1, .ref q2, .ref q3, .ref q4])), (q1, .inl (G.2.2.1 0, 12, .inl (upd (upd (upd (upd (upd (upd (upd (upd (upd (upd (upd (upd (fun _ => 0) 0 0) 1 7) 2 14) 3 21) 4 28) 5 5) 6 12) 7 19) 8 26) 9 3) 10 10) 11 17))), (q2, .inl (G.2.2.1 0, 4, .inl (upd (upd (upd (upd (fun _ => 0) 0 100) 1 100) 2 100) 3 100))), (q3, .inl (G.2.2.1 2, 10, .inr (.inr (.inr (.inr (va_up (va_up (va_up (va_up (fun _ => none) 0 (some q5)) 1 (some q6)) 2 (some q7)) 3 (some q8))))))), (q4, .inl (G.2.2.1 0, 4, .inl (fun _ => 0))), (q5, .inr (0, [.int 0, .int 0, .int 50, .int 0, .int 1])), (q6, .inr (0, [.int 0, .int 0, .int 50, .int 0, .int 1])), (q7, .inr (0, [.int 0, .int 0, .int 50, .int 0, .int 1])), (q8, .inr (0, [.int 0, .int 0, .int 50, .int 0, .int 1]))]) C 3 2 8 rfl rfl rfl rfl (by decide) dX4_init_119 rfl ?_
  refine i_iinc (lv' := [(1, .int (4 : Int32)), (0, .ref h0)]) C (4 : Int32) 0 dX4_init_120 rfl (by decide) (by decide) rfl ?_
  refine i_goto C 101 dX4_init_123 rfl ?_
  refine i_iload_n C 0 dX4_init_101 rfl rfl ?_
  refine i_bipush C (10 : Int32) dX4_init_102 (by decide) ?_
  refine i_geF C 126 dX4_init_104 rfl (by decide) ?_
  refine i_aload_n C 1 dX4_init_107 rfl rfl ?_
  refine i_get (j := 5) C 0 rfl rfl inK4 (by decide) kw_1_77 rfl dX4_init_108 ?_
  refine i_iload_n C 0 dX4_init_111 rfl rfl ?_
  refine i_new (kk := 0) (ty0 := tyX0) (fs := [.int 0, .int 0, .int 0, .int 0, .int 0]) C rfl inK0 tyX0_ok kw_1_29 kw_1_31 kw_1_3 (fun j hj => df_X0 j hj) ⟨by decide, by decide⟩ dX4_init_112 (fun q9 => ?_)
  refine i_ws (ws' := [(h0, .inr (4, [.int (0 : Int32), .int (0 : Int32), .int (15 : Int32), .ref q1, .ref q2, .ref q3, .ref q4])), (q1, .inl (G.2.2.1 0, 12, .inl (upd (upd (upd (upd (upd (upd (upd (upd (upd (upd (upd (upd (fun _ => 0) 0 0) 1 7) 2 14) 3 21) 4 28) 5 5) 6 12) 7 19) 8 26) 9 3) 10 10) 11 17))), (q2, .inl (G.2.2.1 0, 4, .inl (upd (upd (upd (upd (fun _ => 0) 0 100) 1 100) 2 100) 3 100))), (q3, .inl (G.2.2.1 2, 10, .inr (.inr (.inr (.inr (va_up (va_up (va_up (va_up (fun _ => none) 0 (some q5)) 1 (some q6)) 2 (some q7)) 3 (some q8))))))), (q4, .inl (G.2.2.1 0, 4, .inl (fun _ => 0))), (q5, .inr (0, [.int 0, .int 0, .int 50, .int 0, .int 1])), (q6, .inr (0, [.int 0, .int 0, .int 50, .int 0, .int 1])), (q7, .inr (0, [.int 0, .int 0, .int 50, .int 0, .int 1])), (q8, .inr (0, [.int 0, .int 0, .int 50, .int 0, .int 1])), (q9, .inr (0, [.int 0, .int 0, .int 0, .int 0, .int 0]))]) rfl ?_
  refine i_dup C dX4_init_115 rfl ?_
  refine i_callI (n := 0) (wr := [(h0, .inr (4, [.int (0 : Int32), .int (0 : Int32), .int (15 : Int32), .ref q1, .ref q2, .ref q3, .ref q4])), (q1, .inl (G.2.2.1 0, 12, .inl (upd (upd (upd (upd (upd (upd (upd (upd (upd (upd (upd (upd (fun _ => 0) 0 0) 1 7) 2 14) 3 21) 4 28) 5 5) 6 12) 7 19) 8 26) 9 3) 10 10) 11 17))), (q2, .inl (G.2.2.1 0, 4, .inl (upd (upd (upd (upd (fun _ => 0) 0 100) 1 100) 2 100) 3 100))), (q3, .inl (G.2.2.1 2, 10, .inr (.inr (.inr (.inr (va_up (va_up (va_up (va_up (fun _ => none) 0 (some q5)) 1 (some q6)) 2 (some q7)) 3 (some q8))))))), (q4, .inl (G.2.2.1 0, 4, .inl (fun _ => 0))), (q5, .inr (0, [.int 0, .int 0, .int 50, .int 0, .int 1])), (q6, .inr (0, [.int 0, .int 0, .int 50, .int 0, .int 1])), (q7, .inr (0, [.int 0, .int 0, .int 50, .int 0, .int 1])), (q8, .inr (0, [.int 0, .int 0, .int 50, .int 0, .int 1]))]) C [] (mUX0_init (h0 := q9)) [9] [0, 1, 2, 3, 4, 5, 6, 7, 8] rfl rfl (by decide) (by decide) (by decide) kw_1_32 kw_1_33 kw_1_3 kw_1_34 rfl ⟨by decide, by decide, by decide +kernel⟩ rfl ⟨by decide, by decide⟩ ⟨rfl, rfl⟩ ⟨by decide, by decide⟩ (Nat.le_of_ble_eq_true rfl) dX4_init_116 rfl (fun w1 hB => ?_)
  subst hB
  refine i_ws (ws' := [(h0, .inr (4, [.int (0 : Int32), .int (0 : Int32), .int (15 : Int32), .ref q1, .ref q2, .ref q3, .ref q4])), (q1, .inl (G.2.2.1 0, 12, .inl (upd (upd (upd (upd (upd (upd (upd (upd (upd (upd (upd (upd (fun _ => 0) 0 0) 1 7) 2 14) 3 21) 4 28) 5 5) 6 12) 7 19) 8 26) 9 3) 10 10) 11 17))), (q2, .inl (G.2.2.1 0, 4, .inl (upd (upd (upd (upd (fun _ => 0) 0 100) 1 100) 2 100) 3 100))), (q3, .inl (G.2.2.1 2, 10, .inr (.inr (.inr (.inr (va_up (va_up (va_up (va_up (fun _ => none) 0 (some q5)) 1 (some q6)) 2 (some q7)) 3 (some q8))))))), (q4, .inl (G.2.2.1 0, 4, .inl (fun _ => 0))), (q5, .inr (0, [.int 0, .int 0, .int 50, .int 0, .int 1])), (q6, .inr (0, [.int 0, .int 0, .int 50, .int 0, .int 1])), (q7, .inr (0, [.int 0, .int 0, .int 50, .int 0, .int 1])), (q8, .inr (0, [.int 0, .int 0, .int 50, .int 0, .int 1])), (q9, .inr (0, [.int 0, .int 0, .int 50, .int 0, .int 1]))]) rfl ?_
  refine i_astq (r := (RX0, TX0, 5)) (ws' := [(h0, .inr (4, [.int (0 : Int32), .int (0 : Int32), .int (15 : Int32), .ref q1, .ref q2, .ref q3, .ref q4])), (q1, .inl (G.2.2.1 0, 12, .inl (upd (upd (upd (upd (upd (upd (upd (upd (upd (upd (upd (upd (fun _ => 0) 0 0) 1 7) 2 14) 3 21) 4 28) 5 5) 6 12) 7 19) 8 26) 9 3) 10 10) 11 17))), (q2, .inl (G.2.2.1 0, 4, .inl (upd (upd (upd (upd (fun _ => 0) 0 100) 1 100) 2 100) 3 100))), (q3, .inl (G.2.2.1 2, 10, .inr (.inr (.inr (.inr (va_up (va_up (va_up (va_up (va_up (fun _ => none) 0 (some q5)) 1 (some q6)) 2 (some q7)) 3 (some q8)) 4 (some q9))))))), (q4, .inl (G.2.2.1 0, 4, .inl (fun _ => 0))), (q5, .inr (0, [.int 0, .int 0, .int 50, .int 0, .int 1])), (q6, .inr (0, [.int 0, .int 0, .int 50, .int 0, .int 1])), (q7, .inr (0, [.int 0, .int 0, .int 50, .int 0, .int 1])), (q8, .inr (0, [.int 0, .int 0, .int 50, .int 0, .int 1])), (q9, .inr (0, [.int 0, .int 0, .int 50, .int 0, .int 1]))]) C 3 2 9 rfl rfl rfl rfl (by decide) dX4_init_119 rfl ?_
  refine i_iinc (lv' := [(1, .int (5 : Int32)), (0, .ref h0)]) C (5 : Int32) 0 dX4_init_120 rfl (by decide) (by decide) rfl ?_
  refine i_goto C 101 dX4_init_123 rfl ?_
  refine i_iload_n C 0 dX4_init_101 rfl rfl ?_
  refine i_bipush C (10 : Int32) dX4_init_102 (by decide) ?_
  refine i_geF C 126 dX4_init_104 rfl (by decide) ?_
  refine i_aload_n C 1 dX4_init_107 rfl rfl ?_
  refine i_get (j := 5) C 0 rfl rfl inK4 (by decide) kw_1_77 rfl dX4_init_108 ?_
  refine i_iload_n C 0 dX4_init_111 rfl rfl ?_
  refine i_new (kk := 0) (ty0 := tyX0) (fs := [.int 0, .int 0, .int 0, .int 0, .int 0]) C rfl inK0 tyX0_ok kw_1_29 kw_1_31 kw_1_3 (fun j hj => df_X0 j hj) ⟨by decide, by decide⟩ dX4_init_112 (fun q10 => ?_)
  refine i_ws (ws' := [(h0, .inr (4, [.int (0 : Int32), .int (0 : Int32), .int (15 : Int32), .ref q1, .ref q2, .ref q3, .ref q4])), (q1, .inl (G.2.2.1 0, 12, .inl (upd (upd (upd (upd (upd (upd (upd (upd (upd (upd (upd (upd (fun _ => 0) 0 0) 1 7) 2 14) 3 21) 4 28) 5 5) 6 12) 7 19) 8 26) 9 3) 10 10) 11 17))), (q2, .inl (G.2.2.1 0, 4, .inl (upd (upd (upd (upd (fun _ => 0) 0 100) 1 100) 2 100) 3 100))), (q3, .inl (G.2.2.1 2, 10, .inr (.inr (.inr (.inr (va_up (va_up (va_up (va_up (va_up (fun _ => none) 0 (some q5)) 1 (some q6)) 2 (some q7)) 3 (some q8)) 4 (some q9))))))), (q4, .inl (G.2.2.1 0, 4, .inl (fun _ => 0))), (q5, .inr (0, [.int 0, .int 0, .int 50, .int 0, .int 1])), (q6, .inr (0, [.int 0, .int 0, .int 50, .int 0, .int 1])), (q7, .inr (0, [.int 0, .int 0, .int 50, .int 0, .int 1])), (q8, .inr (0, [.int 0, .int 0, .int 50, .int 0, .int 1])), (q9, .inr (0, [.int 0, .int 0, .int 50, .int 0, .int 1])), (q10, .inr (0, [.int 0, .int 0, .int 0, .int 0, .int 0]))]) rfl ?_
  refine i_dup C dX4_init_115 rfl ?_
  refine i_callI (n := 0) (wr := [(h0, .inr (4, [.int (0 : Int32), .int (0 : Int32), .int (15 : Int32), .ref q1, .ref q2, .ref q3, .ref q4])), (q1, .inl (G.2.2.1 0, 12, .inl (upd (upd (upd (upd (upd (upd (upd (upd (upd (upd (upd (upd (fun _ => 0) 0 0) 1 7) 2 14) 3 21) 4 28) 5 5) 6 12) 7 19) 8 26) 9 3) 10 10) 11 17))), (q2, .inl (G.2.2.1 0, 4, .inl (upd (upd (upd (upd (fun _ => 0) 0 100) 1 100) 2 100) 3 100))), (q3, .inl (G.2.2.1 2, 10, .inr (.inr (.inr (.inr (va_up (va_up (va_up (va_up (va_up (fun _ => none) 0 (some q5)) 1 (some q6)) 2 (some q7)) 3 (some q8)) 4 (some q9))))))), (q4, .inl (G.2.2.1 0, 4, .inl (fun _ => 0))), (q5, .inr (0, [.int 0, .int 0, .int 50, .int 0, .int 1])), (q6, .inr (0, [.int 0, .int 0, .int 50, .int 0, .int 1])), (q7, .inr (0, [.int 0, .int 0, .int 50, .int 0, .int 1])), (q8, .inr (0, [.int 0, .int 0, .int 50, .int 0, .int 1])), (q9, .inr (0, [.int 0, .int 0, .int 50, .int 0, .int 1]))]) C [] (mUX0_init (h0 := q10)) [10] [0, 1, 2, 3, 4, 5, 6, 7, 8, 9] rfl rfl (by decide) (by decide) (by decide) kw_1_32 kw_1_33 kw_1_3 kw_1_34 rfl ⟨by decide, by decide, by decide +kernel⟩ rfl ⟨by decide, by decide⟩ ⟨rfl, rfl⟩ ⟨by decide, by decide⟩ (Nat.le_of_ble_eq_true rfl) dX4_init_116 rfl (fun w1 hB => ?_)
  subst hB
  refine i_ws (ws' := [(h0, .inr (4, [.int (0 : Int32), .int (0 : Int32), .int (15 : Int32), .ref q1, .ref q2, .ref q3, .ref q4])), (q1, .inl (G.2.2.1 0, 12, .inl (upd (upd (upd (upd (upd (upd (upd (upd (upd (upd (upd (upd (fun _ => 0) 0 0) 1 7) 2 14) 3 21) 4 28) 5 5) 6 12) 7 19) 8 26) 9 3) 10 10) 11 17))), (q2, .inl (G.2.2.1 0, 4, .inl (upd (upd (upd (upd (fun _ => 0) 0 100) 1 100) 2 100) 3 100))), (q3, .inl (G.2.2.1 2, 10, .inr (.inr (.inr (.inr (va_up (va_up (va_up (va_up (va_up (fun _ => none) 0 (some q5)) 1 (some q6)) 2 (some q7)) 3 (some q8)) 4 (some q9))))))), (q4, .inl (G.2.2.1 0, 4, .inl (fun _ => 0))), (q5, .inr (0, [.int 0, .int 0, .int 50, .int 0, .int 1])), (q6, .inr (0, [.int 0, .int 0, .int 50, .int 0, .int 1])), (q7, .inr (0, [.int 0, .int 0, .int 50, .int 0, .int 1])), (q8, .inr (0, [.int 0, .int 0, .int 50, .int 0, .int 1])), (q9, .inr (0, [.int 0, .int 0, .int 50, .int 0, .int 1])), (q10, .inr (0, [.int 0, .int 0, .int 50, .int 0, .int 1]))]) rfl ?_
  refine i_astq (r := (RX0, TX0, 5)) (ws' := [(h0, .inr (4, [.int (0 : Int32), .int (0 : Int32), .int (15 : Int32), .ref q1, .ref q2, .ref q3, .ref q4])), (q1, .inl (G.2.2.1 0, 12, .inl (upd (upd (upd (upd (upd (upd (upd (upd (upd (upd (upd (upd (fun _ => 0) 0 0) 1 7) 2 14) 3 21) 4 28) 5 5) 6 12) 7 19) 8 26) 9 3) 10 10) 11 17))), (q2, .inl (G.2.2.1 0, 4, .inl (upd (upd (upd (upd (fun _ => 0) 0 100) 1 100) 2 100) 3 100))), (q3, .inl (G.2.2.1 2, 10, .inr (.inr (.inr (.inr (va_up (va_up (va_up (va_up (va_up (va_up (fun _ => none) 0 (some q5)) 1 (some q6)) 2 (some q7)) 3 (some q8)) 4 (some q9)) 5 (some q10))))))), (q4, .inl (G.2.2.1 0, 4, .inl (fun _ => 0))), (q5, .inr (0, [.int 0, .int 0, .int 50, .int 0, .int 1])), (q6, .inr (0, [.int 0, .int 0, .int 50, .int 0, .int 1])), (q7, .inr (0, [.int 0, .int 0, .int 50, .int 0, .int 1])), (q8, .inr (0, [.int 0, .int 0, .int 50, .int 0, .int 1])), (q9, .inr (0, [.int 0, .int 0, .int 50, .int 0, .int 1])), (q10, .inr (0, [.int 0, .int 0, .int 50, .int 0, .int 1]))]) C 3 2 10 rfl rfl rfl rfl (by decide) dX4_init_119 rfl ?_
  refine i_iinc (lv' := [(1, .int (6 : Int32)), (0, .ref h0)]) C (6 : Int32) 0 dX4_init_120 rfl (by decide) (by decide) rfl ?_
  refine i_goto C 101 dX4_init_123 rfl ?_
  refine i_iload_n C 0 dX4_init_101 rfl rfl ?_
  refine i_bipush C (10 : Int32) dX4_init_102 (by decide) ?_
  refine i_geF C 126 dX4_init_104 rfl (by decide) ?_
  refine i_aload_n C 1 dX4_init_107 rfl rfl ?_
  refine i_get (j := 5) C 0 rfl rfl inK4 (by decide) kw_1_77 rfl dX4_init_108 ?_
  refine i_iload_n C 0 dX4_init_111 rfl rfl ?_
  refine i_new (kk := 0) (ty0 := tyX0) (fs := [.int 0, .int 0, .int 0, .int 0, .int 0]) C rfl inK0 tyX0_ok kw_1_29 kw_1_31 kw_1_3 (fun j hj => df_X0 j hj) ⟨by decide, by decide⟩ dX4_init_112 (fun q11 => ?_)
  refine i_ws (ws' := [(h0, .inr (4, [.int (0 : Int32), .int (0 : Int32), .int (15 : Int32), .ref q1, .ref q2, .ref q3, .ref q4])), (q1, .inl (G.2.2.1 0, 12, .inl (upd (upd (upd (upd (upd (upd (upd (upd (upd (upd (upd (upd (fun _ => 0) 0 0) 1 7) 2 14) 3 21) 4 28) 5 5) 6 12) 7 19) 8 26) 9 3) 10 10) 11 17))), (q2, .inl (G.2.2.1 0, 4, .inl (upd (upd (upd (upd (fun _ => 0) 0 100) 1 100) 2 100) 3 100))), (q3, .inl (G.2.2.1 2, 10, .inr (.inr (.inr (.inr (va_up (va_up (va_up (va_up (va_up (va_up (fun _ => none) 0 (some q5)) 1 (some q6)) 2 (some q7)) 3 (some q8)) 4 (some q9)) 5 (some q10))))))), (q4, .inl (G.2.2.1 0, 4, .inl (fun _ => 0))), (q5, .inr (0, [.int 0, .int 0, .int 50, .int 0, .int 1])), (q6, .inr (0, [.int 0, .int 0, .int 50, .int 0, .int 1])), (q7, .inr (0, [.int 0, .int 0, .int 50, .int 0, .int 1])), (q8, .inr (0, [.int 0, .int 0, .int 50, .int 0, .int 1])), (q9, .inr (0, [.int 0, .int 0, .int 50, .int 0, .int 1])), (q10, .inr (0, [.int 0, .int 0, .int 50, .int 0, .int 1])), (q11, .inr (0, [.int 0, .int 0, .int 0, .int 0, .int 0]))]) rfl ?_
  refine i_dup C dX4_init_115 rfl ?_
  refine i_callI (n := 0) (wr := [(h0, .inr (4, [.int (0 : Int32), .int (0 : Int32), .int (15 : Int32), .ref q1, .ref q2, .ref q3, .ref q4])), (q1, .inl (G.2.2.1 0, 12, .inl (upd (upd (upd (upd (upd (upd (upd (upd (upd (upd (upd (upd (fun _ => 0) 0 0) 1 7) 2 14) 3 21) 4 28) 5 5) 6 12) 7 19) 8 26) 9 3) 10 10) 11 17))), (q2, .inl (G.2.2.1 0, 4, .inl (upd (upd (upd (upd (fun _ => 0) 0 100) 1 100) 2 100) 3 100))), (q3, .inl (G.2.2.1 2, 10, .inr (.inr (.inr (.inr (va_up (va_up (va_up (va_up (va_up (va_up (fun _ => none) 0 (some q5)) 1 (some q6)) 2 (some q7)) 3 (some q8)) 4 (some q9)) 5 (some q10))))))), (q4, .inl (G.2.2.1 0, 4, .inl (fun _ => 0))), (q5, .inr (0, [.int 0, .int 0, .int 50, .int 0, .int 1])), (q6, .inr (0, [.int 0, .int 0, .int 50, .int 0, .int 1])), (q7, .inr (0, [.int 0, .int 0, .int 50, .int 0, .int 1])), (q8, .inr (0, [.int 0, .int 0, .int 50, .int 0, .int 1])), (q9, .inr (0, [.int 0, .int 0, .int 50, .int 0, .int 1])), (q10, .inr (0, [.int 0, .int 0, .int 50, .int 0, .int 1]))]) C [] (mUX0_init (h0 := q11)) [11] [0, 1, 2, 3, 4, 5, 6, 7, 8, 9, 10] rfl rfl (by decide) (by decide) (by decide) kw_1_32 kw_1_33 kw_1_3 kw_1_34 rfl ⟨by decide, by decide, by decide +kernel⟩ rfl ⟨by decide, by decide⟩ ⟨rfl, rfl⟩ ⟨by decide, by decide⟩ (Nat.le_of_ble_eq_true rfl) dX4_init_116 rfl (fun w1 hB => ?_)
  subst hB
  refine i_ws (ws' := [(h0, .inr (4, [.int (0 : Int32), .int (0 : Int32), .int (15 : Int32), .ref q1, .ref q2, .ref q3, .ref q4])), (q1, .inl (G.2.2.1 0, 12, .inl (upd (upd (upd (upd (upd (upd (upd (upd (upd (upd (upd (upd (fun _ => 0) 0 0) 1 7) 2 14) 3 21) 4 28) 5 5) 6 12) 7 19) 8 26) 9 3) 10 10) 11 17))), (q2, .inl (G.2.2.1 0, 4, .inl (upd (upd (upd (upd (fun _ => 0) 0 100) 1 100) 2 100) 3 100))), (q3, .inl (G.2.2.1 2, 10, .inr (.inr (.inr (.inr (va_up (va_up (va_up (va_up (va_up (va_up (fun _ => none) 0 (some q5)) 1 (some q6)) 2 (some q7)) 3 (some q8)) 4 (some q9)) 5 (some q10))))))), (q4, .inl (G.2.2.1 0, 4, .inl (fun _ => 0))), (q5, .inr (0, [.int 0, .int 0, .int 50, .int 0, .int 1])), (q6, .inr (0, [.int 0, .int 0, .int 50, .int 0, .int 1])), (q7, .inr (0, [.int 0, .int 0, .int 50, .int 0, .int 1])), (q8, .inr (0, [.int 0, .int 0, .int 50, .int 0, .int 1])), (q9, .inr (0, [.int 0, .int 0, .int 50, .int 0, .int 1])), (q10, .inr (0, [.int 0, .int 0, .int 50, .int 0, .int 1])), (q11, .inr (0, [.int 0, .int 0, .int 50, .int 0, .int 1]))]) rfl ?_
  refine i_astq (r := (RX0, TX0, 5)) (ws' := [(h0, .inr (4, [.int (0 : Int32), .int (0 : Int32), .int (15 : Int32), .ref q1, .ref q2, .ref q3, .ref q4])), (q1, .inl (G.2.2.1 0, 12, .inl (upd (upd (upd (upd (upd (upd (upd (upd (upd (upd (upd (upd (fun _ => 0) 0 0) 1 7) 2 14) 3 21) 4 28) 5 5) 6 12) 7 19) 8 26) 9 3) 10 10) 11 17))), (q2, .inl (G.2.2.1 0, 4, .inl (upd (upd (upd (upd (fun _ => 0) 0 100) 1 100) 2 100) 3 100))), (q3, .inl (G.2.2.1 2, 10, .inr (.inr (.inr (.inr (va_up (va_up (va_up (va_up (va_up (va_up (va_up (fun _ => none) 0 (some q5)) 1 (some q6)) 2 (some q7)) 3 (some q8)) 4 (some q9)) 5 (some q10)) 6 (some q11))))))), (q4, .inl (G.2.2.1 0, 4, .inl (fun _ => 0))), (q5, .inr (0, [.int 0, .int 0, .int 50, .int 0, .int 1])), (q6, .inr (0, [.int 0, .int 0, .int 50, .int 0, .int 1])), (q7, .inr (0, [.int 0, .int 0, .int 50, .int 0, .int 1])), (q8, .inr (0, [.int 0, .int 0, .int 50, .int 0, .int 1])), (q9, .inr (0, [.int 0, .int 0, .int 50, .int 0, .int 1])), (q10, .inr (0, [.int 0, .int 0, .int 50, .int 0, .int 1])), (q11, .inr (0, [.int 0, .int 0, .int 50, .int 0, .int 1]))]) C 3 2 11 rfl rfl rfl rfl (by decide) dX4_init_119 rfl ?_
  refine i_iinc (lv' := [(1, .int (7 : Int32)), (0, .ref h0)]) C (7 : Int32) 0 dX4_init_120 rfl (by decide) (by decide) rfl ?_
  refine i_goto C 101 dX4_init_123 rfl ?_
  refine i_iload_n C 0 dX4_init_101 rfl rfl ?_
  refine i_bipush C (10 : Int32) dX4_init_102 (by decide) ?_
  refine i_geF C 126 dX4_init_104 rfl (by decide) ?_
  refine i_aload_n C 1 dX4_init_107 rfl rfl ?_
  refine i_get (j := 5) C 0 rfl rfl inK4 (by decide) kw_1_77 rfl dX4_init_108 ?_
  refine i_iload_n C 0 dX4_init_111 rfl rfl ?_
  refine i_new (kk := 0) (ty0 := tyX0) (fs := [.int 0, .int 0, .int 0, .int 0, .int 0]) C rfl inK0 tyX0_ok kw_1_29 kw_1_31 kw_1_3 (fun j hj => df_X0 j hj) ⟨by decide, by decide⟩ dX4_init_112 (fun q12 => ?_)
  refine i_ws (ws' := [(h0, .inr (4, [.int (0 : Int32), .int (0 : Int32), .int (15 : Int32), .ref q1, .ref q2, .ref q3, .ref q4])), (q1, .inl (G.2.2.1 0, 12, .inl (upd (upd (upd (upd (upd (upd (upd (upd (upd (upd (upd (upd (fun _ => 0) 0 0) 1 7) 2 14) 3 21) 4 28) 5 5) 6 12) 7 19) 8 26) 9 3) 10 10) 11 17))), (q2, .inl (G.2.2.1 0, 4, .inl (upd (upd (upd (upd (fun _ => 0) 0 100) 1 100) 2 100) 3 100))), (q3, .inl (G.2.2.1 2, 10, .inr (.inr (.inr (.inr (va_up (va_up (va_up (va_up (va_up (va_up (va_up (fun _ => none) 0 (some q5)) 1 (some q6)) 2 (some q7)) 3 (some q8)) 4 (some q9)) 5 (some q10)) 6 (some q11))))))), (q4, .inl (G.2.2.1 0, 4, .inl (fun _ => 0))), (q5, .inr (0, [.int 0, .int 0, .int 50, .int 0, .int 1])), (q6, .inr (0, [.int 0, .int 0, .int 50, .int 0, .int 1])), (q7, .inr (0, [.int 0, .int 0, .int 50, .int 0, .int 1])), (q8, .inr (0, [.int 0, .int 0, .int 50, .int 0, .int 1])), (q9, .inr (0, [.int 0, .int 0, .int 50, .int 0, .int 1])), (q10, .inr (0, [.int 0, .int 0, .int 50, .int 0, .int 1])), (q11, .inr (0, [.int 0, .int 0, .int 50, .int 0, .int 1])), (q12, .inr (0, [.int 0, .int 0, .int 0, .int 0, .int 0]))]) rfl ?_
  refine i_dup C dX4_init_115 rfl ?_
  refine i_callI (n := 0) (wr := [(h0, .inr (4, [.int (0 : Int32), .int (0 : Int32), .int (15 : Int32), .ref q1, .ref q2, .ref q3, .ref q4])), (q1, .inl (G.2.2.1 0, 12, .inl (upd (upd (upd (upd (upd (upd (upd (upd (upd (upd (upd (upd (fun _ => 0) 0 0) 1 7) 2 14) 3 21) 4 28) 5 5) 6 12) 7 19) 8 26) 9 3) 10 10) 11 17))), (q2, .inl (G.2.2.1 0, 4, .inl (upd (upd (upd (upd (fun _ => 0) 0 100) 1 100) 2 100) 3 100))), (q3, .inl (G.2.2.1 2, 10, .inr (.inr (.inr (.inr (va_up (va_up (va_up (va_up (va_up (va_up (va_up (fun _ => none) 0 (some q5)) 1 (some q6)) 2 (some q7)) 3 (some q8)) 4 (some q9)) 5 (some q10)) 6 (some q11))))))), (q4, .inl (G.2.2.1 0, 4, .inl (fun _ => 0))), (q5, .inr (0, [.int 0, .int 0, .int 50, .int 0, .int 1])), (q6, .inr (0, [.int 0, .int 0, .int 50, .int 0, .int 1])), (q7, .inr (0, [.int 0, .int 0, .int 50, .int 0, .int 1])), (q8, .inr (0, [.int 0, .int 0, .int 50, .int 0, .int 1])), (q9, .inr (0, [.int 0, .int 0, .int 50, .int 0, .int 1])), (q10, .inr (0, [.int 0, .int 0, .int 50, .int 0, .int 1])), (q11, .inr (0, [.int 0, .int 0, .int 50, .int 0, .int 1]))]) C [] (mUX0_init (h0 := q12)) [12] [0, 1, 2, 3, 4, 5, 6, 7, 8, 9, 10, 11] rfl rfl (by decide) (by decide) (by decide) kw_1_32 kw_1_33 kw_1_3 kw_1_34 rfl ⟨by decide, by decide, by decide +kernel⟩ rfl ⟨by decide, by decide⟩ ⟨rfl, rfl⟩ ⟨by decide, by decide⟩ (Nat.le_of_ble_eq_true rfl) dX4_init_116 rfl (fun w1 hB => ?_)
  subst hB
  refine i_ws (ws' := [(h0, .inr (4, [.int (0 : Int32), .int (0 : Int32), .int (15 : Int32), .ref q1, .ref q2, .ref q3, .ref q4])), (q1, .inl (G.2.2.1 0, 12, .inl (upd (upd (upd (upd (upd (upd (upd (upd (upd (upd (upd (upd (fun _ => 0) 0 0) 1 7) 2 14) 3 21) 4 28) 5 5) 6 12) 7 19) 8 26) 9 3) 10 10) 11 17))), (q2, .inl (G.2.2.1 0, 4, .inl (upd (upd (upd (upd (fun _ => 0) 0 100) 1 100) 2 100) 3 100))), (q3, .inl (G.2.2.1 2, 10, .inr (.inr (.inr (.inr (va_up (va_up (va_up (va_up (va_up (va_up (va_up (fun _ => none) 0 (some q5)) 1 (some q6)) 2 (some q7)) 3 (some q8)) 4 (some q9)) 5 (some q10)) 6 (some q11))))))), (q4, .inl (G.2.2.1 0, 4, .inl (fun _ => 0))), (q5, .inr (0, [.int 0, .int 0, .int 50, .int 0, .int 1])), (q6, .inr (0, [.int 0, .int 0, .int 50, .int 0, .int 1])), (q7, .inr (0, [.int 0, .int 0, .int 50, .int 0, .int 1])), (q8, .inr (0, [.int 0, .int 0, .int 50, .int 0, .int 1])), (q9, .inr (0, [.int 0, .int 0, .int 50, .int 0, .int 1])), (q10, .inr (0, [.int 0, .int 0, .int 50, .int 0, .int 1])), (q11, .inr (0, [.int 0, .int 0, .int 50, .int 0, .int 1])), (q12, .inr (0, [.int 0, .int 0, .int 50, .int 0, .int 1]))]) rfl ?_
  refine i_astq (r := (RX0, TX0, 5)) (ws' := [(h0, .inr (4, [.int (0 : Int32), .int (0 : Int32), .int (15 : Int32), .ref q1, .ref q2, .ref q3, .ref q4])), (q1, .inl (G.2.2.1 0, 12, .inl (upd (upd (upd (upd (upd (upd (upd (upd (upd (upd (upd (upd (fun _ => 0) 0 0) 1 7) 2 14) 3 21) 4 28) 5 5) 6 12) 7 19) 8 26) 9 3) 10 10) 11 17))), (q2, .inl (G.2.2.1 0, 4, .inl (upd (upd (upd (upd (fun _ => 0) 0 100) 1 100) 2 100) 3 100))), (q3, .inl (G.2.2.1 2, 10, .inr (.inr (.inr (.inr (va_up (va_up (va_up (va_up (va_up (va_up (va_up (va_up (fun _ => none) 0 (some q5)) 1 (some q6)) 2 (some q7)) 3 (some q8)) 4 (some q9)) 5 (some q10)) 6 (some q11)) 7 (some q12))))))), (q4, .inl (G.2.2.1 0, 4, .inl (fun _ => 0))), (q5, .inr (0, [.int 0, .int 0, .int 50, .int 0, .int 1])), (q6, .inr (0, [.int 0, .int 0, .int 50, .int 0, .int 1])), (q7, .inr (0, [.int 0, .int 0, .int 50, .int 0, .int 1])), (q8, .inr (0, [.int 0, .int 0, .int 50, .int 0, .int 1])), (q9, .inr (0, [.int 0, .int 0, .int 50, .int 0, .int 1])), (q10, .inr (0, [.int 0, .int 0, .int 50, .int 0, .int 1])), (q11, .inr (0, [.int 0, .int 0, .int 50, .int 0, .int 1])), (q12, .inr (0, [.int 0, .int 0, .int 50, .int 0, .int 1]))]) C 3 2 12 rfl rfl rfl rfl (by decide) dX4_init_119 rfl ?_
  refine i_iinc (lv' := [(1, .int (8 : Int32)), (0, .ref h0)]) C (8 : Int32) 0 dX4_init_120 rfl (by decide) (by decide) rfl ?_
  refine i_goto C 101 dX4_init_123 rfl ?_
  refine i_iload_n C 0 dX4_init_101 rfl rfl ?_
  refine i_bipush C (10 : Int32) dX4_init_102 (by decide) ?_
  refine i_geF C 126 dX4_init_104 rfl (by decide) ?_
  refine i_aload_n C 1 dX4_init_107 rfl rfl ?_
  refine i_get (j := 5) C 0 rfl rfl inK4 (by decide) kw_1_77 rfl dX4_init_108 ?_
  refine i_iload_n C 0 dX4_init_111 rfl rfl ?_
  refine i_new (kk := 0) (ty0 := tyX0) (fs := [.int 0, .int 0, .int 0, .int 0, .int 0]) C rfl inK0 tyX0_ok kw_1_29 kw_1_31 kw_1_3 (fun j hj => df_X0 j hj) ⟨by decide, by decide⟩ dX4_init_112 (fun q13 => ?_)
  refine i_ws (ws' := [(h0, .inr (4, [.int (0 : Int32), .int (0 : Int32), .int (15 : Int32), .ref q1, .ref q2, .ref q3, .ref q4])), (q1, .inl (G.2.2.1 0, 12, .inl (upd (upd (upd (upd (upd (upd (upd (upd (upd (upd (upd (upd (fun _ => 0) 0 0) 1 7) 2 14) 3 21) 4 28) 5 5) 6 12) 7 19) 8 26) 9 3) 10 10) 11 17))), (q2, .inl (G.2.2.1 0, 4, .inl (upd (upd (upd (upd (fun _ => 0) 0 100) 1 100) 2 100) 3 100))), (q3, .inl (G.2.2.1 2, 10, .inr (.inr (.inr (.inr (va_up (va_up (va_up (va_up (va_up (va_up (va_up (va_up (fun _ => none) 0 (some q5)) 1 (some q6)) 2 (some q7)) 3 (some q8)) 4 (some q9)) 5 (some q10)) 6 (some q11)) 7 (some q12))))))), (q4, .inl (G.2.2.1 0, 4, .inl (fun _ => 0))), (q5, .inr (0, [.int 0, .int 0, .int 50, .int 0, .int 1])), (q6, .inr (0, [.int 0, .int 0, .int 50, .int 0, .int 1])), (q7, .inr (0, [.int 0, .int 0, .int 50, .int 0, .int 1])), (q8, .inr (0, [.int 0, .int 0, .int 50, .int 0, .int 1])), (q9, .inr (0, [.int 0, .int 0, .int 50, .int 0, .int 1])), (q10, .inr (0, [.int 0, .int 0, .int 50, .int 0, .int 1])), (q11, .inr (0, [.int 0, .int 0, .int 50, .int 0, .int 1])), (q12, .inr (0, [.int 0, .int 0, .int 50, .int 0, .int 1])), (q13, .inr (0, [.int 0, .int 0, .int 0, .int 0, .int 0]))]) rfl ?_
  refine i_dup C dX4_init_115 rfl ?_
  refine i_callI (n := 0) (wr := [(h0, .inr (4, [.int (0 : Int32), .int (0 : Int32), .int (15 : Int32), .ref q1, .ref q2, .ref q3, .ref q4])), (q1, .inl (G.2.2.1 0, 12, .inl (upd (upd (upd (upd (upd (upd (upd (upd (upd (upd (upd (upd (fun _ => 0) 0 0) 1 7) 2 14) 3 21) 4 28) 5 5) 6 12) 7 19) 8 26) 9 3) 10 10) 11 17))), (q2, .inl (G.2.2.1 0, 4, .inl (upd (upd (upd (upd (fun _ => 0) 0 100) 1 100) 2 100) 3 100))), (q3, .inl (G.2.2.1 2, 10, .inr (.inr (.inr (.inr (va_up (va_up (va_up (va_up (va_up (va_up (va_up (va_up (fun _ => none) 0 (some q5)) 1 (some q6)) 2 (some q7)) 3 (some q8)) 4 (some q9)) 5 (some q10)) 6 (some q11)) 7 (some q12))))))), (q4, .inl (G.2.2.1 0, 4, .inl (fun _ => 0))), (q5, .inr (0, [.int 0, .int 0, .int 50, .int 0, .int 1])), (q6, .inr (0, [.int 0, .int 0, .int 50, .int 0, .int 1])), (q7, .inr (0, [.int 0, .int 0, .int 50, .int 0, .int 1])), (q8, .inr (0, [.int 0, .int 0, .int 50, .int 0, .int 1])), (q9, .inr (0, [.int 0, .int 0, .int 50, .int 0, .int 1])), (q10, .inr (0, [.int 0, .int 0, .int 50, .int 0, .int 1])), (q11, .inr (0, [.int 0, .int 0, .int 50, .int 0, .int 1])), (q12, .inr (0, [.int 0, .int 0, .int 50, .int 0, .int 1]))]) C [] (mUX0_init (h0 := q13)) [13] [0, 1, 2, 3, 4, 5, 6, 7, 8, 9, 10, 11, 12] rfl rfl (by decide) (by decide) (by decide) kw_1_32 kw_1_33 kw_1_3 kw_1_34 rfl ⟨by decide, by decide, by decide +kernel⟩ rfl ⟨by decide, by decide⟩ ⟨rfl, rfl⟩ ⟨by decide, by decide⟩ (Nat.le_of_ble_eq_true rfl) dX4_init_116 rfl (fun w1 hB => ?_)
  subst hB
  refine i_ws (ws' := [(h0, .inr (4, [.int (0 : Int32), .int (0 : Int32), .int (15 : Int32), .ref q1, .ref q2, .ref q3, .ref q4])), (q1, .inl (G.2.2.1 0, 12, .inl (upd (upd (upd (upd (upd (upd (upd (upd (upd (upd (upd (upd (fun _ => 0) 0 0) 1 7) 2 14) 3 21) 4 28) 5 5) 6 12) 7 19) 8 26) 9 3) 10 10) 11 17))), (q2, .inl (G.2.2.1 0, 4, .inl (upd (upd (upd (upd (fun _ => 0) 0 100) 1 100) 2 100) 3 100))), (q3, .inl (G.2.2.1 2, 10, .inr (.inr (.inr (.inr (va_up (va_up (va_up (va_up (va_up (va_up (va_up (va_up (fun _ => none) 0 (some q5)) 1 (some q6)) 2 (some q7)) 3 (some q8)) 4 (some q9)) 5 (some q10)) 6 (some q11)) 7 (some q12))))))), (q4, .inl (G.2.2.1 0, 4, .inl (fun _ => 0))), (q5, .inr (0, [.int 0, .int 0, .int 50, .int 0, .int 1])), (q6, .inr (0, [.int 0, .int 0, .int 50, .int 0, .int 1])), (q7, .inr (0, [.int 0, .int 0, .int 50, .int 0, .int 1])), (q8, .inr (0, [.int 0, .int 0, .int 50, .int 0, .int 1])), (q9, .inr (0, [.int 0, .int 0, .int 50, .int 0, .int 1])), (q10, .inr (0, [.int 0, .int 0, .int 50, .int 0, .int 1])), (q11, .inr (0, [.int 0, .int 0, .int 50, .int 0, .int 1])), (q12, .inr (0, [.int 0, .int 0, .int 50, .int 0, .int 1])), (q13, .inr (0, [.int 0, .int 0, .int 50, .int 0, .int 1]))]) rfl ?_
  refine i_astq (r := (RX0, TX0, 5)) (ws' := [(h0, .inr (4, [.int (0 : Int32), .int (0 : Int32), .int (15 : Int32), .ref q1, .ref q2, .ref q3, .ref q4])), (q1, .inl (G.2.2.1 0, 12, .inl (upd (upd (upd (upd (upd (upd (upd (upd (upd (upd (upd (upd (fun _ => 0) 0 0) 1 7) 2 14) 3 21) 4 28) 5 5) 6 12) 7 19) 8 26) 9 3) 10 10) 11 17))), (q2, .inl (G.2.2.1 0, 4, .inl (upd (upd (upd (upd (fun _ => 0) 0 100) 1 100) 2 100) 3 100))), (q3, .inl (G.2.2.1 2, 10, .inr (.inr (.inr (.inr (va_up (va_up (va_up (va_up (va_up (va_up (va_up (va_up (va_up (fun _ => none) 0 (some q5)) 1 (some q6)) 2 (some q7)) 3 (some q8)) 4 (some q9)) 5 (some q10)) 6 (some q11)) 7 (some q12)) 8 (some q13))))))), (q4, .inl (G.2.2.1 0, 4, .inl (fun _ => 0))), (q5, .inr (0, [.int 0, .int 0, .int 50, .int 0, .int 1])), (q6, .inr (0, [.int 0, .int 0, .int 50, .int 0, .int 1])), (q7, .inr (0, [.int 0, .int 0, .int 50, .int 0, .int 1])), (q8, .inr (0, [.int 0, .int 0, .int 50, .int 0, .int 1])), (q9, .inr (0, [.int 0, .int 0, .int 50, .int 0, .int 1])), (q10, .inr (0, [.int 0, .int 0, .int 50, .int 0, .int 1])), (q11, .inr (0, [.int 0, .int 0, .int 50, .int 0, .int 1])), (q12, .inr (0, [.int 0, .int 0, .int 50, .int 0, .int 1])), (q13, .inr (0, [.int 0, .int 0, .int 50, .int 0, .int 1]))]) C 3 2 13 rfl rfl rfl rfl (by decide) dX4_init_119 rfl ?_
  refine i_iinc (lv' := [(1, .int (9 : Int32)), (0, .ref h0)]) C (9 : Int32) 0 dX4_init_120 rfl (by decide) (by decide) rfl ?_
  refine i_goto C 101 dX4_init_123 rfl ?_
  refine i_iload_n C 0 dX4_init_101 rfl rfl ?_
  refine i_bipush C (10 : Int32) dX4_init_102 (by decide) ?_
  refine i_geF C 126 dX4_init_104 rfl (by decide) ?_
  refine i_aload_n C 1 dX4_init_107 rfl rfl ?_
  refine i_get (j := 5) C 0 rfl rfl inK4 (by decide) kw_1_77 rfl dX4_init_108 ?_
  refine i_iload_n C 0 dX4_init_111 rfl rfl ?_
  refine i_new (kk := 0) (ty0 := tyX0) (fs := [.int 0, .int 0, .int 0, .int 0, .int 0]) C rfl inK0 tyX0_ok kw_1_29 kw_1_31 kw_1_3 (fun j hj => df_X0 j hj) ⟨by decide, by decide⟩ dX4_init_112 (fun q14 => ?_)
  refine i_ws (ws' := [(h0, .inr (4, [.int (0 : Int32), .int (0 : Int32), .int (15 : Int32), .ref q1, .ref q2, .ref q3, .ref q4])), (q1, .inl (G.2.2.1 0, 12, .inl (upd (upd (upd (upd (upd (upd (upd (upd (upd (upd (upd (upd (fun _ => 0) 0 0) 1 7) 2 14) 3 21) 4 28) 5 5) 6 12) 7 19) 8 26) 9 3) 10 10) 11 17))), (q2, .inl (G.2.2.1 0, 4, .inl (upd (upd (upd (upd (fun _ => 0) 0 100) 1 100) 2 100) 3 100))), (q3, .inl (G.2.2.1 2, 10, .inr (.inr (.inr (.inr (va_up (va_up (va_up (va_up (va_up (va_up (va_up (va_up (va_up (fun _ => none) 0 (some q5)) 1 (some q6)) 2 (some q7)) 3 (some q8)) 4 (some q9)) 5 (some q10)) 6 (some q11)) 7 (some q12)) 8 (some q13))))))), (q4, .inl (G.2.2.1 0, 4, .inl (fun _ => 0))), (q5, .inr (0, [.int 0, .int 0, .int 50, .int 0, .int 1])), (q6, .inr (0, [.int 0, .int 0, .int 50, .int 0, .int 1])), (q7, .inr (0, [.int 0, .int 0, .int 50, .int 0, .int 1])), (q8, .inr (0, [.int 0, .int 0, .int 50, .int 0, .int 1])), (q9, .inr (0, [.int 0, .int 0, .int 50, .int 0, .int 1])), (q10, .inr (0, [.int 0, .int 0, .int 50, .int 0, .int 1])), (q11, .inr (0, [.int 0, .int 0, .int 50, .int 0, .int 1])), (q12, .inr (0, [.int 0, .int 0, .int 50, .int 0, .int 1])), (q13, .inr (0, [.int 0, .int 0, .int 50, .int 0, .int 1])), (q14, .inr (0, [.int 0, .int 0, .int 0, .int 0, .int 0]))]) rfl ?_
  refine i_dup C dX4_init_115 rfl ?_
  refine i_callI (n := 0) (wr := [(h0, .inr (4, [.int (0 : Int32), .int (0 : Int32), .int (15 : Int32), .ref q1, .ref q2, .ref q3, .ref q4])), (q1, .inl (G.2.2.1 0, 12, .inl (upd (upd (upd (upd (upd (upd (upd (upd (upd (upd (upd (upd (fun _ => 0) 0 0) 1 7) 2 14) 3 21) 4 28) 5 5) 6 12) 7 19) 8 26) 9 3) 10 10) 11 17))), (q2, .inl (G.2.2.1 0, 4, .inl (upd (upd (upd (upd (fun _ => 0) 0 100) 1 100) 2 100) 3 100))), (q3, .inl (G.2.2.1 2, 10, .inr (.inr (.inr (.inr (va_up (va_up (va_up (va_up (va_up (va_up (va_up (va_up (va_up (fun _ => none) 0 (some q5)) 1 (some q6)) 2 (some q7)) 3 (some q8)) 4 (some q9)) 5 (some q10)) 6 (some q11)) 7 (some q12)) 8 (some q13))))))), (q4, .inl (G.2.2.1 0, 4, .inl (fun _ => 0))), (q5, .inr (0, [.int 0, .int 0, .int 50, .int 0, .int 1])), (q6, .inr (0, [.int 0, .int 0, .int 50, .int 0, .int 1])), (q7, .inr (0, [.int 0, .int 0, .int 50, .int 0, .int 1])), (q8, .inr (0, [.int 0, .int 0, .int 50, .int 0, .int 1])), (q9, .inr (0, [.int 0, .int 0, .int 50, .int 0, .int 1])), (q10, .inr (0, [.int 0, .int 0, .int 50, .int 0, .int 1])), (q11, .inr (0, [.int 0, .int 0, .int 50, .int 0, .int 1])), (q12, .inr (0, [.int 0, .int 0, .int 50, .int 0, .int 1])), (q13, .inr (0, [.int 0, .int 0, .int 50, .int 0, .int 1]))]) C [] (mUX0_init (h0 := q14)) [14] [0, 1, 2, 3, 4, 5, 6, 7, 8, 9, 10, 11, 12, 13] rfl rfl (by decide) (by decide) (by decide) kw_1_32 kw_1_33 kw_1_3 kw_1_34 rfl ⟨by decide, by decide, by decide +kernel⟩ rfl ⟨by decide, by decide⟩ ⟨rfl, rfl⟩ ⟨by decide, by decide⟩ (Nat.le_of_ble_eq_true rfl) dX4_init_116 rfl (fun w1 hB => ?_)
  subst hB
  refine i_ws (ws' := [(h0, .inr (4, [.int (0 : Int32), .int (0 : Int32), .int (15 : Int32), .ref q1, .ref q2, .ref q3, .ref q4])), (q1, .inl (G.2.2.1 0, 12, .inl (upd (upd (upd (upd (upd (upd (upd (upd (upd (upd (upd (upd (fun _ => 0) 0 0) 1 7) 2 14) 3 21) 4 28) 5 5) 6 12) 7 19) 8 26) 9 3) 10 10) 11 17))), (q2, .inl (G.2.2.1 0, 4, .inl (upd (upd (upd (upd (fun _ => 0) 0 100) 1 100) 2 100) 3 100))), (q3, .inl (G.2.2.1 2, 10, .inr (.inr (.inr (.inr (va_up (va_up (va_up (va_up (va_up (va_up (va_up (va_up (va_up (fun _ => none) 0 (some q5)) 1 (some q6)) 2 (some q7)) 3 (some q8)) 4 (some q9)) 5 (some q10)) 6 (some q11)) 7 (some q12)) 8 (some q13))))))), (q4, .inl (G.2.2.1 0, 4, .inl (fun _ => 0))), (q5, .inr (0, [.int 0, .int 0, .int 50, .int 0, .int 1])), (q6, .inr (0, [.int 0, .int 0, .int 50, .int 0, .int 1])), (q7, .inr (0, [.int 0, .int 0, .int 50, .int 0, .int 1])), (q8, .inr (0, [.int 0, .int 0, .int 50, .int 0, .int 1])), (q9, .inr (0, [.int 0, .int 0, .int 50, .int 0, .int 1])), (q10, .inr (0, [.int 0, .int 0, .int 50, .int 0, .int 1])), (q11, .inr (0, [.int 0, .int 0, .int 50, .int 0, .int 1])), (q12, .inr (0, [.int 0, .int 0, .int 50, .int 0, .int 1])), (q13, .inr (0, [.int 0, .int 0, .int 50, .int 0, .int 1])), (q14, .inr (0, [.int 0, .int 0, .int 50, .int 0, .int 1]))]) rfl ?_
  refine i_astq (r := (RX0, TX0, 5)) (ws' := [(h0, .inr (4, [.int (0 : Int32), .int (0 : Int32), .int (15 : Int32), .ref q1, .ref q2, .ref q3, .ref q4])), (q1, .inl (G.2.2.1 0, 12, .inl (upd (upd (upd (upd (upd (upd (upd (upd (upd (upd (upd (upd (fun _ => 0) 0 0) 1 7) 2 14) 3 21) 4 28) 5 5) 6 12) 7 19) 8 26) 9 3) 10 10) 11 17))), (q2, .inl (G.2.2.1 0, 4, .inl (upd (upd (upd (upd (fun _ => 0) 0 100) 1 100) 2 100) 3 100))), (q3, .inl (G.2.2.1 2, 10, .inr (.inr (.inr (.inr (va_up (va_up (va_up (va_up (va_up (va_up (va_up (va_up (va_up (va_up (fun _ => none) 0 (some q5)) 1 (some q6)) 2 (some q7)) 3 (some q8)) 4 (some q9)) 5 (some q10)) 6 (some q11)) 7 (some q12)) 8 (some q13)) 9 (some q14))))))), (q4, .inl (G.2.2.1 0, 4, .inl (fun _ => 0))), (q5, .inr (0, [.int 0, .int 0, .int 50, .int 0, .int 1])), (q6, .inr (0, [.int 0, .int 0, .int 50, .int 0, .int 1])), (q7, .inr (0, [.int 0, .int 0, .int 50, .int 0, .int 1])), (q8, .inr (0, [.int 0, .int 0, .int 50, .int 0, .int 1])), (q9, .inr (0, [.int 0, .int 0, .int 50, .int 0, .int 1])), (q10, .inr (0, [.int 0, .int 0, .int 50, .int 0, .int 1])), (q11, .inr (0, [.int 0, .int 0, .int 50, .int 0, .int 1])), (q12, .inr (0, [.int 0, .int 0, .int 50, .int 0, .int 1])), (q13, .inr (0, [.int 0, .int 0, .int 50, .int 0, .int 1])), (q14, .inr (0, [.int 0, .int 0, .int 50, .int 0, .int 1]))]) C 3 2 14 rfl rfl rfl rfl (by decide) dX4_init_119 rfl ?_
  refine i_iinc (lv' := [(1, .int (10 : Int32)), (0, .ref h0)]) C (10 : Int32) 0 dX4_init_120 rfl (by decide) (by decide) rfl ?_
  refine i_goto C 101 dX4_init_123 rfl ?_
  refine i_iload_n C 0 dX4_init_101 rfl rfl ?_
  refine i_bipush C (10 : Int32) dX4_init_102 (by decide) ?_
  refine i_geT C 126 dX4_init_104 rfl (by decide) ?_
  refine i_sameQ (ws' := [(h0, .inr (4, [.int (0 : Int32), .int (0 : Int32), .int (15 : Int32), .ref q1, .ref q2, .ref q3, .ref q4])), (q1, .inl (G.2.2.1 0, 12, .inl (upd (upd (upd (upd (upd (upd (upd (upd (upd (upd (upd (upd (fun _ => 0) 0 0) 1 7) 2 14) 3 21) 4 28) 5 5) 6 12) 7 19) 8 26) 9 3) 10 10) 11 17))), (q2, .inl (G.2.2.1 0, 4, .inl (upd (upd (upd (upd (fun _ => 0) 0 100) 1 100) 2 100) 3 100))), (q3, .inl (G.2.2.1 2, 10, .inr (.inr (.inr (.inr (fun i => some ((fun c => (fun i => ([h0, q1, q2, q3, q4, q5, q6, q7, q8, q9, q10, q11, q12, q13, q14] : List Nat).getD i 0) (c - 1)) (4 + 2 + i)))))))), (q4, .inl (G.2.2.1 0, 4, .inl (fun _ => 0))), (q5, .inr (0, [.int 0, .int 0, .int 50, .int 0, .int 1])), (q6, .inr (0, [.int 0, .int 0, .int 50, .int 0, .int 1])), (q7, .inr (0, [.int 0, .int 0, .int 50, .int 0, .int 1])), (q8, .inr (0, [.int 0, .int 0, .int 50, .int 0, .int 1])), (q9, .inr (0, [.int 0, .int 0, .int 50, .int 0, .int 1])), (q10, .inr (0, [.int 0, .int 0, .int 50, .int 0, .int 1])), (q11, .inr (0, [.int 0, .int 0, .int 50, .int 0, .int 1])), (q12, .inr (0, [.int 0, .int 0, .int 50, .int 0, .int 1])), (q13, .inr (0, [.int 0, .int 0, .int 50, .int 0, .int 1])), (q14, .inr (0, [.int 0, .int 0, .int 50, .int 0, .int 1]))]) (fun i => some ((fun c => (fun i => ([h0, q1, q2, q3, q4, q5, q6, q7, q8, q9, q10, q11, q12, q13, q14] : List Nat).getD i 0) (c - 1)) (4 + 2 + i))) 3 rfl (fun j hj => by match j, hj with
    | 0, _ => rfl
    | 1, _ => rfl
    | 2, _ => rfl
    | 3, _ => rfl
    | 4, _ => rfl
    | 5, _ => rfl
    | 6, _ => rfl
    | 7, _ => rfl
    | 8, _ => rfl
    | 9, _ => rfl
    | j + 10, h => omega) rfl ?_
  exact K _ _ _ ⟨(fun i => ([h0, q1, q2, q3, q4, q5, q6, q7, q8, q9, q10, q11, q12, q13, q14] : List Nat).getD i 0), rfl, rfl⟩ dX4_init_126
def ruX5_init : Room := { frames := 3, cells := 58, slots := 573, locals := 61 }
set_option maxRecDepth 100000 in
set_option maxHeartbeats 4000000 in
theorem mUX5_init {G : kG} {h0 : Nat} : kCu G yX5_init cX5_init 2 ruX5_init [.ref h0] [(h0, .inr (5, [.null, .null, .null, .int 0, .null, .null, .null, .null]))] (fun w => ∃ a : Nat → Nat, a 0 = h0 ∧ w = u_tk G a) 58 573 := by
  refine kMetU (by decide) (Nat.le_of_ble_eq_true rfl) (fun X A Q C hin0 K => ?_)
  have hin := hin0 rfl
  refine i_aload_n C 0 dX5_init_0 rfl rfl ?_
  refine i_obj C kw_1_20 kw_1_21 kw_1_22 ⟨by decide, by decide⟩ (Nat.le_of_ble_eq_true rfl) dX5_init_1 ?_
  refine i_aload_n C 0 dX5_init_4 rfl rfl ?_
  refine i_new (kk := 4) (ty0 := tyX4) (fs := [.int 0, .int 0, .int 0, .null, .null, .null, .null]) C rfl inK4 tyX4_ok kw_1_23 kw_1_24 kw_1_2 (fun j hj => df_X4 j hj) ⟨by decide, by decide⟩ dX5_init_5 (fun q1 => ?_)
  refine i_ws (ws' := [(h0, .inr (5, [.null, .null, .null, .int 0, .null, .null, .null, .null])), (q1, .inr (4, [.int 0, .int 0, .int 0, .null, .null, .null, .null]))]) rfl ?_
  refine i_dup C dX5_init_8 rfl ?_
  refine i_callI (n := 0) (wr := [(h0, .inr (5, [.null, .null, .null, .int 0, .null, .null, .null, .null]))]) C [] (mUX4_init (h0 := q1)) [1] [0] rfl rfl (by decide) (by decide) (by decide) kw_1_25 kw_1_26 kw_1_2 kw_1_27 rfl ⟨by decide, by decide, by decide +kernel⟩ rfl ⟨by decide, by decide⟩ ⟨rfl, rfl⟩ ⟨by decide, by decide⟩ (Nat.le_of_ble_eq_true rfl) dX5_init_9 rfl (fun w1 hB => ?_)
  obtain ⟨a2, ha2, rfl⟩ := hB
  have ea2 := ha2
  refine i_ws (ws' := [(h0, .inr (5, [.null, .null, .null, .int 0, .null, .null, .null, .null]))] ++ u_yd G a2) rfl ?_
  refine i_putF (j := 0) (ty := tyX5 0) (ty0 := tyX5) (ws' := [(h0, .inr (5, [.ref q1, .null, .null, .int 0, .null, .null, .null, .null]))] ++ u_yd G a2) C hin 0 rfl rfl inK5 tyX5_ok nmX5 (by decide) kw_1_160 rfl rfl (by decide +kernel) rfl rfl (Nat.le_of_ble_eq_true rfl) dX5_init_12 rfl ?_
  refine i_aload_n C 0 dX5_init_15 rfl rfl ?_
  refine i_new (kk := 4) (ty0 := tyX4) (fs := [.int 0, .int 0, .int 0, .null, .null, .null, .null]) C rfl inK4 tyX4_ok kw_1_23 kw_1_24 kw_1_2 (fun j hj => df_X4 j hj) ⟨by decide, by decide⟩ dX5_init_16 (fun q3 => ?_)
  refine i_ws (ws' := [(h0, .inr (5, [.ref q1, .null, .null, .int 0, .null, .null, .null, .null]))] ++ u_yd G a2 ++ [(q3, .inr (4, [.int 0, .int 0, .int 0, .null, .null, .null, .null]))]) rfl ?_
  refine i_dup C dX5_init_19 rfl ?_
  refine i_callI (n := 0) (wr := [(h0, .inr (5, [.ref q1, .null, .null, .int 0, .null, .null, .null, .null]))] ++ u_yd G a2) C [] (mUX4_init (h0 := q3)) [16] [0, 1, 2, 3, 4, 5, 6, 7, 8, 9, 10, 11, 12, 13, 14, 15] rfl rfl (by decide) (by decide) (by decide) kw_1_25 kw_1_26 kw_1_2 kw_1_27 rfl ⟨by decide, by decide, by decide +kernel⟩ rfl ⟨by decide, by decide⟩ ⟨rfl, rfl⟩ ⟨by decide, by decide⟩ (Nat.le_of_ble_eq_true rfl) dX5_init_20 rfl (fun w1 hB => ?_)
  obtain ⟨a4, ha4, rfl⟩ := hB
  have ea4 := ha4
  refine i_ws (ws' := [(h0, .inr (5, [.ref q1, .null, .null, .int 0, .null, .null, .null, .null]))] ++ u_yd G a2 ++ u_yd G a4) rfl ?_
  refine i_putF (j := 1) (ty := tyX5 1) (ty0 := tyX5) (ws' := [(h0, .inr (5, [.ref q1, .ref q3, .null, .int 0, .null, .null, .null, .null]))] ++ u_yd G a2 ++ u_yd G a4) C hin 0 rfl rfl inK5 tyX5_ok nmX5 (by decide) kw_1_161 rfl rfl (by decide +kernel) rfl rfl (Nat.le_of_ble_eq_true rfl) dX5_init_23 rfl ?_
  refine i_aload_n C 0 dX5_init_26 rfl rfl ?_
  refine i_new (kk := 4) (ty0 := tyX4) (fs := [.int 0, .int 0, .int 0, .null, .null, .null, .null]) C rfl inK4 tyX4_ok kw_1_23 kw_1_24 kw_1_2 (fun j hj => df_X4 j hj) ⟨by decide, by decide⟩ dX5_init_27 (fun q5 => ?_)
  refine i_ws (ws' := [(h0, .inr (5, [.ref q1, .ref q3, .null, .int 0, .null, .null, .null, .null]))] ++ u_yd G a2 ++ u_yd G a4 ++ [(q5, .inr (4, [.int 0, .int 0, .int 0, .null, .null, .null, .null]))]) rfl ?_
  refine i_dup C dX5_init_30 rfl ?_
  refine i_callI (n := 0) (wr := [(h0, .inr (5, [.ref q1, .ref q3, .null, .int 0, .null, .null, .null, .null]))] ++ u_yd G a2 ++ u_yd G a4) C [] (mUX4_init (h0 := q5)) [31] [0, 1, 2, 3, 4, 5, 6, 7, 8, 9, 10, 11, 12, 13, 14, 15, 16, 17, 18, 19, 20, 21, 22, 23, 24, 25, 26, 27, 28, 29, 30] rfl rfl (by decide) (by decide) (by decide) kw_1_25 kw_1_26 kw_1_2 kw_1_27 rfl ⟨by decide, by decide, by decide +kernel⟩ rfl ⟨by decide, by decide⟩ ⟨rfl, rfl⟩ ⟨by decide, by decide⟩ (Nat.le_of_ble_eq_true rfl) dX5_init_31 rfl (fun w1 hB => ?_)
  obtain ⟨a6, ha6, rfl⟩ := hB
  have ea6 := ha6
  refine i_ws (ws' := [(h0, .inr (5, [.ref q1, .ref q3, .null, .int 0, .null, .null, .null, .null]))] ++ u_yd G a2 ++ u_yd G a4 ++ u_yd G a6) rfl ?_
  refine i_putF (j := 2) (ty := tyX5 2) (ty0 := tyX5) (ws' := [(h0, .inr (5, [.ref q1, .ref q3, .ref q5, .int 0, .null, .null, .null, .null]))] ++ u_yd G a2 ++ u_yd G a4 ++ u_yd G a6) C hin 0 rfl rfl inK5 tyX5_ok nmX5 (by decide) kw_1_162 rfl rfl (by decide +kernel) rfl rfl (Nat.le_of_ble_eq_true rfl) dX5_init_34 rfl ?_
  refine i_aload_n C 0 dX5_init_37 rfl rfl ?_
  refine i_iconst C (0 : Int32) dX5_init_38 (by decide) ?_
  refine i_put (j := 3) (ty := .boolean) (ty0 := tyX5) (ws' := [(h0, .inr (5, [.ref q1, .ref q3, .ref q5, .int (0 : Int32), .null, .null, .null, .null]))] ++ u_yd G a2 ++ u_yd G a4 ++ u_yd G a6) C 0 rfl rfl inK5 tyX5_ok nmX5 (by decide) kw_1_163 rfl (by decide +kernel) rfl rfl (Nat.le_of_ble_eq_true rfl) dX5_init_39 rfl ?_
  refine i_aload_n C 0 dX5_init_42 rfl rfl ?_
  refine i_new (kk := 2) (ty0 := tyX2) (fs := [.null, .int 0]) C rfl inK2 tyX2_ok kw_1_96 kw_1_97 kw_1_4 (fun j hj => df_X2 j hj) ⟨by decide, by decide⟩ dX5_init_43 (fun q7 => ?_)
  refine i_ws (ws' := [(h0, .inr (5, [.ref q1, .ref q3, .ref q5, .int (0 : Int32), .null, .null, .null, .null]))] ++ u_yd G a2 ++ u_yd G a4 ++ u_yd G a6 ++ [(q7, .inr (2, [.null, .int 0]))]) rfl ?_
  refine i_dup C dX5_init_46 rfl ?_
  refine i_callI (n := 0) (wr := [(h0, .inr (5, [.ref q1, .ref q3, .ref q5, .int (0 : Int32), .null, .null, .null, .null]))] ++ u_yd G a2 ++ u_yd G a4 ++ u_yd G a6) C [] (mUX2_init (h0 := q7)) [46] [0, 1, 2, 3, 4, 5, 6, 7, 8, 9, 10, 11, 12, 13, 14, 15, 16, 17, 18, 19, 20, 21, 22, 23, 24, 25, 26, 27, 28, 29, 30, 31, 32, 33, 34, 35, 36, 37, 38, 39, 40, 41, 42, 43, 44, 45] rfl rfl (by decide) (by decide) (by decide) kw_1_98 kw_1_99 kw_1_4 kw_1_100 rfl ⟨by decide, by decide, by decide +kernel⟩ rfl ⟨by decide, by decide⟩ ⟨rfl, rfl⟩ ⟨by decide, by decide⟩ (Nat.le_of_ble_eq_true rfl) dX5_init_47 rfl (fun w1 hB => ?_)
  obtain ⟨a8, rfl⟩ := hB
  refine i_ws (ws' := [(h0, .inr (5, [.ref q1, .ref q3, .ref q5, .int (0 : Int32), .null, .null, .null, .null]))] ++ u_yd G a2 ++ u_yd G a4 ++ u_yd G a6 ++ [(q7, .inr (2, [.ref a8, .int 0])), (a8, .inl (G.2.2.1 0, 120, .inl (fun _ => 0)))]) rfl ?_
  refine i_putF (j := 4) (ty := tyX5 4) (ty0 := tyX5) (ws' := [(h0, .inr (5, [.ref q1, .ref q3, .ref q5, .int (0 : Int32), .ref q7, .null, .null, .null]))] ++ u_yd G a2 ++ u_yd G a4 ++ u_yd G a6 ++ [(q7, .inr (2, [.ref a8, .int 0])), (a8, .inl (G.2.2.1 0, 120, .inl (fun _ => 0)))]) C hin 0 rfl rfl inK5 tyX5_ok nmX5 (by decide) kw_1_164 rfl rfl (by decide +kernel) rfl rfl (Nat.le_of_ble_eq_true rfl) dX5_init_50 rfl ?_
  refine i_aload_n C 0 dX5_init_53 rfl rfl ?_
  refine i_new (kk := 3) (ty0 := tyX3) (fs := [.null, .null, .int 0, .int 0, .int 0, .int 0, .int 0]) C rfl inK3 tyX3_ok kw_1_111 kw_1_112 kw_1_5 (fun j hj => df_X3 j hj) ⟨by decide, by decide⟩ dX5_init_54 (fun q9 => ?_)
  refine i_ws (ws' := [(h0, .inr (5, [.ref q1, .ref q3, .ref q5, .int (0 : Int32), .ref q7, .null, .null, .null]))] ++ u_yd G a2 ++ u_yd G a4 ++ u_yd G a6 ++ [(q7, .inr (2, [.ref a8, .int 0])), (a8, .inl (G.2.2.1 0, 120, .inl (fun _ => 0))), (q9, .inr (3, [.null, .null, .int 0, .int 0, .int 0, .int 0, .int 0]))]) rfl ?_
  refine i_dup C dX5_init_57 rfl ?_
  refine i_aload_n C 0 dX5_init_58 rfl rfl ?_
  refine i_get (j := 4) C 0 rfl rfl inK5 (by decide) kw_1_164 rfl dX5_init_59 ?_
  refine i_aload_n C 0 dX5_init_62 rfl rfl ?_
  refine i_get (j := 1) C 0 rfl rfl inK5 (by decide) kw_1_161 rfl dX5_init_63 ?_
  refine i_callI (n := 2) (wr := [(h0, .inr (5, [.ref q1, .ref q3, .ref q5, .int (0 : Int32), .ref q7, .null, .null, .null]))] ++ u_yd G a2 ++ u_yd G a4 ++ u_yd G a6 ++ [(q7, .inr (2, [.ref a8, .int 0])), (a8, .inl (G.2.2.1 0, 120, .inl (fun _ => 0)))]) C [.ref q7, .ref q3] (mUX3_init (h0 := q9) (h1 := q7) (h2 := q3)) [48] [0, 1, 2, 3, 4, 5, 6, 7, 8, 9, 10, 11, 12, 13, 14, 15, 16, 17, 18, 19, 20, 21, 22, 23, 24, 25, 26, 27, 28, 29, 30, 31, 32, 33, 34, 35, 36, 37, 38, 39, 40, 41, 42, 43, 44, 45, 46, 47] rfl rfl (by decide) (by decide) (by decide) kw_1_113 kw_1_114 kw_1_5 kw_1_115 rfl ⟨by decide, by decide, by decide +kernel⟩ rfl ⟨by decide, by decide⟩ ⟨rfl, rfl⟩ ⟨by decide, by decide⟩ (Nat.le_of_ble_eq_true rfl) dX5_init_66 rfl (fun w1 hB => ?_)
  subst hB
  refine i_ws (ws' := [(h0, .inr (5, [.ref q1, .ref q3, .ref q5, .int (0 : Int32), .ref q7, .null, .null, .null]))] ++ u_yd G a2 ++ u_yd G a4 ++ u_yd G a6 ++ [(q7, .inr (2, [.ref a8, .int 0])), (a8, .inl (G.2.2.1 0, 120, .inl (fun _ => 0))), (q9, .inr (3, [.ref q7, .ref q3, .int 0, .int 0, .int 0, .int 0, .int 0]))]) rfl ?_
  refine i_putF (j := 5) (ty := tyX5 5) (ty0 := tyX5) (ws' := [(h0, .inr (5, [.ref q1, .ref q3, .ref q5, .int (0 : Int32), .ref q7, .ref q9, .null, .null]))] ++ u_yd G a2 ++ u_yd G a4 ++ u_yd G a6 ++ [(q7, .inr (2, [.ref a8, .int 0])), (a8, .inl (G.2.2.1 0, 120, .inl (fun _ => 0))), (q9, .inr (3, [.ref q7, .ref q3, .int 0, .int 0, .int 0, .int 0, .int 0]))]) C hin 0 rfl rfl inK5 tyX5_ok nmX5 (by decide) kw_1_165 rfl rfl (by decide +kernel) rfl rfl (Nat.le_of_ble_eq_true rfl) dX5_init_69 rfl ?_
  refine i_aload_n C 0 dX5_init_72 rfl rfl ?_
  refine i_iconst C (4 : Int32) dX5_init_73 (by decide) ?_
  refine i_newQ (CN := "TalkKnots$Sheet") C 3 rfl (by decide) C.2.2.2.2.2.2.2.2.2 kw_1_139 (by decide) rfl (by decide) ⟨by decide, by decide⟩ dX5_init_74 (fun q10 => ?_)
  refine i_ws (ws' := [(h0, .inr (5, [.ref q1, .ref q3, .ref q5, .int (0 : Int32), .ref q7, .ref q9, .null, .null]))] ++ u_yd G a2 ++ u_yd G a4 ++ u_yd G a6 ++ [(q7, .inr (2, [.ref a8, .int 0])), (a8, .inl (G.2.2.1 0, 120, .inl (fun _ => 0))), (q9, .inr (3, [.ref q7, .ref q3, .int 0, .int 0, .int 0, .int 0, .int 0])), (q10, .inl (G.2.2.1 3, 4, .inr (.inr (.inr (.inr (fun _ => none))))))]) rfl ?_
  refine i_putF (j := 6) (ty := tyX5 6) (ty0 := tyX5) (ws' := [(h0, .inr (5, [.ref q1, .ref q3, .ref q5, .int (0 : Int32), .ref q7, .ref q9, .ref q10, .null]))] ++ u_yd G a2 ++ u_yd G a4 ++ u_yd G a6 ++ [(q7, .inr (2, [.ref a8, .int 0])), (a8, .inl (G.2.2.1 0, 120, .inl (fun _ => 0))), (q9, .inr (3, [.ref q7, .ref q3, .int 0, .int 0, .int 0, .int 0, .int 0])), (q10, .inl (G.2.2.1 3, 4, .inr (.inr (.inr (.inr (fun _ => none))))))]) C hin 0 rfl rfl inK5 tyX5_ok nmX5 (by decide) kw_1_166 rfl rfl (by decide +kernel) rfl rfl (Nat.le_of_ble_eq_true rfl) dX5_init_77 rfl ?_
  refine i_aload_n C 0 dX5_init_80 rfl rfl ?_
  refine i_bipush C (7 : Int32) dX5_init_81 (by decide) ?_
  refine i_newI C kw_1_63 (by decide) rfl (by decide) ⟨by decide, by decide⟩ dX5_init_83 (fun q11 => ?_)
  refine i_ws (ws' := [(h0, .inr (5, [.ref q1, .ref q3, .ref q5, .int (0 : Int32), .ref q7, .ref q9, .ref q10, .null]))] ++ u_yd G a2 ++ u_yd G a4 ++ u_yd G a6 ++ [(q7, .inr (2, [.ref a8, .int 0])), (a8, .inl (G.2.2.1 0, 120, .inl (fun _ => 0))), (q9, .inr (3, [.ref q7, .ref q3, .int 0, .int 0, .int 0, .int 0, .int 0])), (q10, .inl (G.2.2.1 3, 4, .inr (.inr (.inr (.inr (fun _ => none)))))), (q11, .inl (G.2.2.1 0, 7, .inl (fun _ => 0)))]) rfl ?_
  refine i_putF (j := 7) (ty := tyX5 7) (ty0 := tyX5) (ws' := [(h0, .inr (5, [.ref q1, .ref q3, .ref q5, .int (0 : Int32), .ref q7, .ref q9, .ref q10, .ref q11]))] ++ u_yd G a2 ++ u_yd G a4 ++ u_yd G a6 ++ [(q7, .inr (2, [.ref a8, .int 0])), (a8, .inl (G.2.2.1 0, 120, .inl (fun _ => 0))), (q9, .inr (3, [.ref q7, .ref q3, .int 0, .int 0, .int 0, .int 0, .int 0])), (q10, .inl (G.2.2.1 3, 4, .inr (.inr (.inr (.inr (fun _ => none)))))), (q11, .inl (G.2.2.1 0, 7, .inl (fun _ => 0)))]) C hin 0 rfl rfl inK5 tyX5_ok nmX5 (by decide) kw_1_167 rfl rfl (by decide +kernel) rfl rfl (Nat.le_of_ble_eq_true rfl) dX5_init_85 rfl ?_
  refine i_iconst C (0 : Int32) dX5_init_88 (by decide) ?_
  refine i_istore_n (lv' := [(1, .int (0 : Int32)), (0, .ref h0)]) C dX5_init_89 rfl (by decide) rfl ?_
  refine i_iload_n C 0 dX5_init_90 rfl rfl ?_
  refine i_iconst C (4 : Int32) dX5_init_91 (by decide) ?_
  refine i_geF C 114 dX5_init_92 rfl (by decide) ?_
  refine i_aload_n C 1 dX5_init_95 rfl rfl ?_
  refine i_get (j := 6) C 0 rfl rfl inK5 (by decide) kw_1_166 rfl dX5_init_96 ?_
  refine i_iload_n C 0 dX5_init_99 rfl rfl ?_
  refine i_new (kk := 1) (ty0 := tyX1) (fs := [.int 0, .int 0, .null]) C rfl inK1 tyX1_ok kw_1_139 kw_1_141 kw_1_6 (fun j hj => df_X1 j hj) ⟨by decide, by decide⟩ dX5_init_100 (fun q12 => ?_)
  refine i_ws (ws' := [(h0, .inr (5, [.ref q1, .ref q3, .ref q5, .int (0 : Int32), .ref q7, .ref q9, .ref q10, .ref q11]))] ++ u_yd G a2 ++ u_yd G a4 ++ u_yd G a6 ++ [(q7, .inr (2, [.ref a8, .int 0])), (a8, .inl (G.2.2.1 0, 120, .inl (fun _ => 0))), (q9, .inr (3, [.ref q7, .ref q3, .int 0, .int 0, .int 0, .int 0, .int 0])), (q10, .inl (G.2.2.1 3, 4, .inr (.inr (.inr (.inr (fun _ => none)))))), (q11, .inl (G.2.2.1 0, 7, .inl (fun _ => 0))), (q12, .inr (1, [.int 0, .int 0, .null]))]) rfl ?_
  refine i_dup C dX5_init_103 rfl ?_
  refine i_callI (n := 0) (wr := [(h0, .inr (5, [.ref q1, .ref q3, .ref q5, .int (0 : Int32), .ref q7, .ref q9, .ref q10, .ref q11]))] ++ u_yd G a2 ++ u_yd G a4 ++ u_yd G a6 ++ [(q7, .inr (2, [.ref a8, .int 0])), (a8, .inl (G.2.2.1 0, 120, .inl (fun _ => 0))), (q9, .inr (3, [.ref q7, .ref q3, .int 0, .int 0, .int 0, .int 0, .int 0])), (q10, .inl (G.2.2.1 3, 4, .inr (.inr (.inr (.inr (fun _ => none)))))), (q11, .inl (G.2.2.1 0, 7, .inl (fun _ => 0)))]) C [] (mUX1_init (h0 := q12)) [51] [0, 1, 2, 3, 4, 5, 6, 7, 8, 9, 10, 11, 12, 13, 14, 15, 16, 17, 18, 19, 20, 21, 22, 23, 24, 25, 26, 27, 28, 29, 30, 31, 32, 33, 34, 35, 36, 37, 38, 39, 40, 41, 42, 43, 44, 45, 46, 47, 48, 49, 50] rfl rfl (by decide) (by decide) (by decide) kw_1_142 kw_1_143 kw_1_6 kw_1_144 rfl ⟨by decide, by decide, by decide +kernel⟩ rfl ⟨by decide, by decide⟩ ⟨rfl, rfl⟩ ⟨by decide, by decide⟩ (Nat.le_of_ble_eq_true rfl) dX5_init_104 rfl (fun w1 hB => ?_)
  obtain ⟨a13, rfl⟩ := hB
  refine i_ws (ws' := [(h0, .inr (5, [.ref q1, .ref q3, .ref q5, .int (0 : Int32), .ref q7, .ref q9, .ref q10, .ref q11]))] ++ u_yd G a2 ++ u_yd G a4 ++ u_yd G a6 ++ [(q7, .inr (2, [.ref a8, .int 0])), (a8, .inl (G.2.2.1 0, 120, .inl (fun _ => 0))), (q9, .inr (3, [.ref q7, .ref q3, .int 0, .int 0, .int 0, .int 0, .int 0])), (q10, .inl (G.2.2.1 3, 4, .inr (.inr (.inr (.inr (fun _ => none)))))), (q11, .inl (G.2.2.1 0, 7, .inl (fun _ => 0))), (q12, .inr (1, [.int 0, .int 0, .ref a13])), (a13, .inl (G.2.2.1 1, 40, .inr (.inl (fun _ => 0))))]) rfl ?_
  refine i_astq (r := (RX1, TX1, 3)) (ws' := [(h0, .inr (5, [.ref q1, .ref q3, .ref q5, .int (0 : Int32), .ref q7, .ref q9, .ref q10, .ref q11]))] ++ u_yd G a2 ++ u_yd G a4 ++ u_yd G a6 ++ [(q7, .inr (2, [.ref a8, .int 0])), (a8, .inl (G.2.2.1 0, 120, .inl (fun _ => 0))), (q9, .inr (3, [.ref q7, .ref q3, .int 0, .int 0, .int 0, .int 0, .int 0])), (q10, .inl (G.2.2.1 3, 4, .inr (.inr (.inr (.inr (va_up (fun _ => none) 0 (some q12))))))), (q11, .inl (G.2.2.1 0, 7, .inl (fun _ => 0))), (q12, .inr (1, [.int 0, .int 0, .ref a13])), (a13, .inl (G.2.2.1 1, 40, .inr (.inl (fun _ => 0))))]) C 49 3 51 rfl rfl rfl rfl (by decide) dX5_init_107 rfl ?_
  refine i_iinc (lv' := [(1, .int (1 : Int32)), (0, .ref h0)]) C (1 : Int32) 0 dX5_init_108 rfl (by decide) (by decide) rfl ?_
  refine i_goto C 90 dX5_init_111 rfl ?_
  refine i_iload_n C 0 dX5_init_90 rfl rfl ?_
  refine i_iconst C (4 : Int32) dX5_init_91 (by decide) ?_
  refine i_geF C 114 dX5_init_92 rfl (by decide) ?_
  refine i_aload_n C 1 dX5_init_95 rfl rfl ?_
  refine i_get (j := 6) C 0 rfl rfl inK5 (by decide) kw_1_166 rfl dX5_init_96 ?_
  refine i_iload_n C 0 dX5_init_99 rfl rfl ?_
  refine i_new (kk := 1) (ty0 := tyX1) (fs := [.int 0, .int 0, .null]) C rfl inK1 tyX1_ok kw_1_139 kw_1_141 kw_1_6 (fun j hj => df_X1 j hj) ⟨by decide, by decide⟩ dX5_init_100 (fun q14 => ?_)
  refine i_ws (ws' := [(h0, .inr (5, [.ref q1, .ref q3, .ref q5, .int (0 : Int32), .ref q7, .ref q9, .ref q10, .ref q11]))] ++ u_yd G a2 ++ u_yd G a4 ++ u_yd G a6 ++ [(q7, .inr (2, [.ref a8, .int 0])), (a8, .inl (G.2.2.1 0, 120, .inl (fun _ => 0))), (q9, .inr (3, [.ref q7, .ref q3, .int 0, .int 0, .int 0, .int 0, .int 0])), (q10, .inl (G.2.2.1 3, 4, .inr (.inr (.inr (.inr (va_up (fun _ => none) 0 (some q12))))))), (q11, .inl (G.2.2.1 0, 7, .inl (fun _ => 0))), (q12, .inr (1, [.int 0, .int 0, .ref a13])), (a13, .inl (G.2.2.1 1, 40, .inr (.inl (fun _ => 0)))), (q14, .inr (1, [.int 0, .int 0, .null]))]) rfl ?_
  refine i_dup C dX5_init_103 rfl ?_
  refine i_callI (n := 0) (wr := [(h0, .inr (5, [.ref q1, .ref q3, .ref q5, .int (0 : Int32), .ref q7, .ref q9, .ref q10, .ref q11]))] ++ u_yd G a2 ++ u_yd G a4 ++ u_yd G a6 ++ [(q7, .inr (2, [.ref a8, .int 0])), (a8, .inl (G.2.2.1 0, 120, .inl (fun _ => 0))), (q9, .inr (3, [.ref q7, .ref q3, .int 0, .int 0, .int 0, .int 0, .int 0])), (q10, .inl (G.2.2.1 3, 4, .inr (.inr (.inr (.inr (va_up (fun _ => none) 0 (some q12))))))), (q11, .inl (G.2.2.1 0, 7, .inl (fun _ => 0))), (q12, .inr (1, [.int 0, .int 0, .ref a13])), (a13, .inl (G.2.2.1 1, 40, .inr (.inl (fun _ => 0))))]) C [] (mUX1_init (h0 := q14)) [53] [0, 1, 2, 3, 4, 5, 6, 7, 8, 9, 10, 11, 12, 13, 14, 15, 16, 17, 18, 19, 20, 21, 22, 23, 24, 25, 26, 27, 28, 29, 30, 31, 32, 33, 34, 35, 36, 37, 38, 39, 40, 41, 42, 43, 44, 45, 46, 47, 48, 49, 50, 51, 52] rfl rfl (by decide) (by decide) (by decide) kw_1_142 kw_1_143 kw_1_6 kw_1_144 rfl ⟨by decide, by decide, by decide +kernel⟩ rfl ⟨by decide, by decide⟩ ⟨rfl, rfl⟩ ⟨by decide, by decide⟩ (Nat.le_of_ble_eq_true rfl) dX5_init_104 rfl (fun w1 hB => ?_)
  obtain ⟨a15, rfl⟩ := hB
  refine i_ws (ws' := [(h0, .inr (5, [.ref q1, .ref q3, .ref q5, .int (0 : Int32), .ref q7, .ref q9, .ref q10, .ref q11]))] ++ u_yd G a2 ++ u_yd G a4 ++ u_yd G a6 ++ [(q7, .inr (2, [.ref a8, .int 0])), (a8, .inl (G.2.2.1 0, 120, .inl (fun _ => 0))), (q9, .inr (3, [.ref q7, .ref q3, .int 0, .int 0, .int 0, .int 0, .int 0])), (q10, .inl (G.2.2.1 3, 4, .inr (.inr (.inr (.inr (va_up (fun _ => none) 0 (some q12))))))), (q11, .inl (G.2.2.1 0, 7, .inl (fun _ => 0))), (q12, .inr (1, [.int 0, .int 0, .ref a13])), (a13, .inl (G.2.2.1 1, 40, .inr (.inl (fun _ => 0)))), (q14, .inr (1, [.int 0, .int 0, .ref a15])), (a15, .inl (G.2.2.1 1, 40, .inr (.inl (fun _ => 0))))]) rfl ?_
  refine i_astq (r := (RX1, TX1, 3)) (ws' := [(h0, .inr (5, [.ref q1, .ref q3, .ref q5, .int (0 : Int32), .ref q7, .ref q9, .ref q10, .ref q11]))] ++ u_yd G a2 ++ u_yd G a4 ++ u_yd G a6 ++ [(q7, .inr (2, [.ref a8, .int 0])), (a8, .inl (G.2.2.1 0, 120, .inl (fun _ => 0))), (q9, .inr (3, [.ref q7, .ref q3, .int 0, .int 0, .int 0, .int 0, .int 0])), (q10, .inl (G.2.2.1 3, 4, .inr (.inr (.inr (.inr (va_up (va_up (fun _ => none) 0 (some q12)) 1 (some q14))))))), (q11, .inl (G.2.2.1 0, 7, .inl (fun _ => 0))), (q12, .inr (1, [.int 0, .int 0, .ref a13])), (a13, .inl (G.2.2.1 1, 40, .inr (.inl (fun _ => 0)))), (q14, .inr (1, [.int 0, .int 0, .ref a15])), (a15, .inl (G.2.2.1 1, 40, .inr (.inl (fun _ => 0))))]) C 49 3 53 rfl rfl rfl rfl (by decide) dX5_init_107 rfl ?_
  refine i_iinc (lv' := [(1, .int (2 : Int32)), (0, .ref h0)]) C (2 : Int32) 0 dX5_init_108 rfl (by decide) (by decide) rfl ?_
  refine i_goto C 90 dX5_init_111 rfl ?_
  refine i_iload_n C 0 dX5_init_90 rfl rfl ?_
  refine i_iconst C (4 : Int32) dX5_init_91 (by decide) ?_
  refine i_geF C 114 dX5_init_92 rfl (by decide) ?_
  refine i_aload_n C 1 dX5_init_95 rfl rfl ?_
  refine i_get (j := 6) C 0 rfl rfl inK5 (by decide) kw_1_166 rfl dX5_init_96 ?_
  refine i_iload_n C 0 dX5_init_99 rfl rfl ?_
  refine i_new (kk := 1) (ty0 := tyX1) (fs := [.int 0, .int 0, .null]) C rfl inK1 tyX1_ok kw_1_139 kw_1_141 kw_1_6 (fun j hj => df_X1 j hj) ⟨by decide, by decide⟩ dX5_init_100 (fun q16 => ?_)
  refine i_ws (ws' := [(h0, .inr (5, [.ref q1, .ref q3, .ref q5, .int (0 : Int32), .ref q7, .ref q9, .ref q10, .ref q11]))] ++ u_yd G a2 ++ u_yd G a4 ++ u_yd G a6 ++ [(q7, .inr (2, [.ref a8, .int 0])), (a8, .inl (G.2.2.1 0, 120, .inl (fun _ => 0))), (q9, .inr (3, [.ref q7, .ref q3, .int 0, .int 0, .int 0, .int 0, .int 0])), (q10, .inl (G.2.2.1 3, 4, .inr (.inr (.inr (.inr (va_up (va_up (fun _ => none) 0 (some q12)) 1 (some q14))))))), (q11, .inl (G.2.2.1 0, 7, .inl (fun _ => 0))), (q12, .inr (1, [.int 0, .int 0, .ref a13])), (a13, .inl (G.2.2.1 1, 40, .inr (.inl (fun _ => 0)))), (q14, .inr (1, [.int 0, .int 0, .ref a15])), (a15, .inl (G.2.2.1 1, 40, .inr (.inl (fun _ => 0)))), (q16, .inr (1, [.int 0, .int 0, .null]))]) rfl ?_
  refine i_dup C dX5_init_103 rfl ?_
  refine i_callI (n := 0) (wr := [(h0, .inr (5, [.ref q1, .ref q3, .ref q5, .int (0 : Int32), .ref q7, .ref q9, .ref q10, .ref q11]))] ++ u_yd G a2 ++ u_yd G a4 ++ u_yd G a6 ++ [(q7, .inr (2, [.ref a8, .int 0])), (a8, .inl (G.2.2.1 0, 120, .inl (fun _ => 0))), (q9, .inr (3, [.ref q7, .ref q3, .int 0, .int 0, .int 0, .int 0, .int 0])), (q10, .inl (G.2.2.1 3, 4, .inr (.inr (.inr (.inr (va_up (va_up (fun _ => none) 0 (some q12)) 1 (some q14))))))), (q11, .inl (G.2.2.1 0, 7, .inl (fun _ => 0))), (q12, .inr (1, [.int 0, .int 0, .ref a13])), (a13, .inl (G.2.2.1 1, 40, .inr (.inl (fun _ => 0)))), (q14, .inr (1, [.int 0, .int 0, .ref a15])), (a15, .inl (G.2.2.1 1, 40, .inr (.inl (fun _ => 0))))]) C [] (mUX1_init (h0 := q16)) [55] [0, 1, 2, 3, 4, 5, 6, 7, 8, 9, 10, 11, 12, 13, 14, 15, 16, 17, 18, 19, 20, 21, 22, 23, 24, 25, 26, 27, 28, 29, 30, 31, 32, 33, 34, 35, 36, 37, 38, 39, 40, 41, 42, 43, 44, 45, 46, 47, 48, 49, 50, 51, 52, 53, 54] rfl rfl (by decide) (by decide) (by decide) kw_1_142 kw_1_143 kw_1_6 kw_1_144 rfl ⟨by decide, by decide, by decide +kernel⟩ rfl ⟨by decide, by decide⟩ ⟨rfl, rfl⟩ ⟨by decide, by decide⟩ (Nat.le_of_ble_eq_true rfl) dX5_init_104 rfl (fun w1 hB => ?_)
  obtain ⟨a17, rfl⟩ := hB
  refine i_ws (ws' := [(h0, .inr (5, [.ref q1, .ref q3, .ref q5, .int (0 : Int32), .ref q7, .ref q9, .ref q10, .ref q11]))] ++ u_yd G a2 ++ u_yd G a4 ++ u_yd G a6 ++ [(q7, .inr (2, [.ref a8, .int 0])), (a8, .inl (G.2.2.1 0, 120, .inl (fun _ => 0))), (q9, .inr (3, [.ref q7, .ref q3, .int 0, .int 0, .int 0, .int 0, .int 0])), (q10, .inl (G.2.2.1 3, 4, .inr (.inr (.inr (.inr (va_up (va_up (fun _ => none) 0 (some q12)) 1 (some q14))))))), (q11, .inl (G.2.2.1 0, 7, .inl (fun _ => 0))), (q12, .inr (1, [.int 0, .int 0, .ref a13])), (a13, .inl (G.2.2.1 1, 40, .inr (.inl (fun _ => 0)))), (q14, .inr (1, [.int 0, .int 0, .ref a15])), (a15, .inl (G.2.2.1 1, 40, .inr (.inl (fun _ => 0)))), (q16, .inr (1, [.int 0, .int 0, .ref a17])), (a17, .inl (G.2.2.1 1, 40, .inr (.inl (fun _ => 0))))]) rfl ?_
  refine i_astq (r := (RX1, TX1, 3)) (ws' := [(h0, .inr (5, [.ref q1, .ref q3, .ref q5, .int (0 : Int32), .ref q7, .ref q9, .ref q10, .ref q11]))] ++ u_yd G a2 ++ u_yd G a4 ++ u_yd G a6 ++ [(q7, .inr (2, [.ref a8, .int 0])), (a8, .inl (G.2.2.1 0, 120, .inl (fun _ => 0))), (q9, .inr (3, [.ref q7, .ref q3, .int 0, .int 0, .int 0, .int 0, .int 0])), (q10, .inl (G.2.2.1 3, 4, .inr (.inr (.inr (.inr (va_up (va_up (va_up (fun _ => none) 0 (some q12)) 1 (some q14)) 2 (some q16))))))), (q11, .inl (G.2.2.1 0, 7, .inl (fun _ => 0))), (q12, .inr (1, [.int 0, .int 0, .ref a13])), (a13, .inl (G.2.2.1 1, 40, .inr (.inl (fun _ => 0)))), (q14, .inr (1, [.int 0, .int 0, .ref a15])), (a15, .inl (G.2.2.1 1, 40, .inr (.inl (fun _ => 0)))), (q16, .inr (1, [.int 0, .int 0, .ref a17])), (a17, .inl (G.2.2.1 1, 40, .inr (.inl (fun _ => 0))))]) C 49 3 55 rfl rfl rfl rfl (by decide) dX5_init_107 rfl ?_
  refine i_iinc (lv' := [(1, .int (3 : Int32)), (0, .ref h0)]) C (3 : Int32) 0 dX5_init_108 rfl (by decide) (by decide) rfl ?_
  refine i_goto C 90 dX5_init_111 rfl ?_
  refine i_iload_n C 0 dX5_init_90 rfl rfl ?_
  refine i_iconst C (4 : Int32) dX5_init_91 (by decide) ?_
  refine i_geF C 114 dX5_init_92 rfl (by decide) ?_
  refine i_aload_n C 1 dX5_init_95 rfl rfl ?_
  refine i_get (j := 6) C 0 rfl rfl inK5 (by decide) kw_1_166 rfl dX5_init_96 ?_
  refine i_iload_n C 0 dX5_init_99 rfl rfl ?_
  refine i_new (kk := 1) (ty0 := tyX1) (fs := [.int 0, .int 0, .null]) C rfl inK1 tyX1_ok kw_1_139 kw_1_141 kw_1_6 (fun j hj => df_X1 j hj) ⟨by decide, by decide⟩ dX5_init_100 (fun q18 => ?_)
  refine i_ws (ws' := [(h0, .inr (5, [.ref q1, .ref q3, .ref q5, .int (0 : Int32), .ref q7, .ref q9, .ref q10, .ref q11]))] ++ u_yd G a2 ++ u_yd G a4 ++ u_yd G a6 ++ [(q7, .inr (2, [.ref a8, .int 0])), (a8, .inl (G.2.2.1 0, 120, .inl (fun _ => 0))), (q9, .inr (3, [.ref q7, .ref q3, .int 0, .int 0, .int 0, .int 0, .int 0])), (q10, .inl (G.2.2.1 3, 4, .inr (.inr (.inr (.inr (va_up (va_up (va_up (fun _ => none) 0 (some q12)) 1 (some q14)) 2 (some q16))))))), (q11, .inl (G.2.2.1 0, 7, .inl (fun _ => 0))), (q12, .inr (1, [.int 0, .int 0, .ref a13])), (a13, .inl (G.2.2.1 1, 40, .inr (.inl (fun _ => 0)))), (q14, .inr (1, [.int 0, .int 0, .ref a15])), (a15, .inl (G.2.2.1 1, 40, .inr (.inl (fun _ => 0)))), (q16, .inr (1, [.int 0, .int 0, .ref a17])), (a17, .inl (G.2.2.1 1, 40, .inr (.inl (fun _ => 0)))), (q18, .inr (1, [.int 0, .int 0, .null]))]) rfl ?_
  refine i_dup C dX5_init_103 rfl ?_
  refine i_callI (n := 0) (wr := [(h0, .inr (5, [.ref q1, .ref q3, .ref q5, .int (0 : Int32), .ref q7, .ref q9, .ref q10, .ref q11]))] ++ u_yd G a2 ++ u_yd G a4 ++ u_yd G a6 ++ [(q7, .inr (2, [.ref a8, .int 0])), (a8, .inl (G.2.2.1 0, 120, .inl (fun _ => 0))), (q9, .inr (3, [.ref q7, .ref q3, .int 0, .int 0, .int 0, .int 0, .int 0])), (q10, .inl (G.2.2.1 3, 4, .inr (.inr (.inr (.inr (va_up (va_up (va_up (fun _ => none) 0 (some q12)) 1 (some q14)) 2 (some q16))))))), (q11, .inl (G.2.2.1 0, 7, .inl (fun _ => 0))), (q12, .inr (1, [.int 0, .int 0, .ref a13])), (a13, .inl (G.2.2.1 1, 40, .inr (.inl (fun _ => 0)))), (q14, .inr (1, [.int 0, .int 0, .ref a15])), (a15, .inl (G.2.2.1 1, 40, .inr (.inl (fun _ => 0)))), (q16, .inr (1, [.int 0, .int 0, .ref a17])), (a17, .inl (G.2.2.1 1, 40, .inr (.inl (fun _ => 0))))]) C [] (mUX1_init (h0 := q18)) [57] [0, 1, 2, 3, 4, 5, 6, 7, 8, 9, 10, 11, 12, 13, 14, 15, 16, 17, 18, 19, 20, 21, 22, 23, 24, 25, 26, 27, 28, 29, 30, 31, 32, 33, 34, 35, 36, 37, 38, 39, 40, 41, 42, 43, 44, 45, 46, 47, 48, 49, 50, 51, 52, 53, 54, 55, 56] rfl rfl (by decide) (by decide) (by decide) kw_1_142 kw_1_143 kw_1_6 kw_1_144 rfl ⟨by decide, by decide, by decide +kernel⟩ rfl ⟨by decide, by decide⟩ ⟨rfl, rfl⟩ ⟨by decide, by decide⟩ (Nat.le_of_ble_eq_true rfl) dX5_init_104 rfl (fun w1 hB => ?_)
  obtain ⟨a19, rfl⟩ := hB
  refine i_ws (ws' := [(h0, .inr (5, [.ref q1, .ref q3, .ref q5, .int (0 : Int32), .ref q7, .ref q9, .ref q10, .ref q11]))] ++ u_yd G a2 ++ u_yd G a4 ++ u_yd G a6 ++ [(q7, .inr (2, [.ref a8, .int 0])), (a8, .inl (G.2.2.1 0, 120, .inl (fun _ => 0))), (q9, .inr (3, [.ref q7, .ref q3, .int 0, .int 0, .int 0, .int 0, .int 0])), (q10, .inl (G.2.2.1 3, 4, .inr (.inr (.inr (.inr (va_up (va_up (va_up (fun _ => none) 0 (some q12)) 1 (some q14)) 2 (some q16))))))), (q11, .inl (G.2.2.1 0, 7, .inl (fun _ => 0))), (q12, .inr (1, [.int 0, .int 0, .ref a13])), (a13, .inl (G.2.2.1 1, 40, .inr (.inl (fun _ => 0)))), (q14, .inr (1, [.int 0, .int 0, .ref a15])), (a15, .inl (G.2.2.1 1, 40, .inr (.inl (fun _ => 0)))), (q16, .inr (1, [.int 0, .int 0, .ref a17])), (a17, .inl (G.2.2.1 1, 40, .inr (.inl (fun _ => 0)))), (q18, .inr (1, [.int 0, .int 0, .ref a19])), (a19, .inl (G.2.2.1 1, 40, .inr (.inl (fun _ => 0))))]) rfl ?_
  refine i_astq (r := (RX1, TX1, 3)) (ws' := [(h0, .inr (5, [.ref q1, .ref q3, .ref q5, .int (0 : Int32), .ref q7, .ref q9, .ref q10, .ref q11]))] ++ u_yd G a2 ++ u_yd G a4 ++ u_yd G a6 ++ [(q7, .inr (2, [.ref a8, .int 0])), (a8, .inl (G.2.2.1 0, 120, .inl (fun _ => 0))), (q9, .inr (3, [.ref q7, .ref q3, .int 0, .int 0, .int 0, .int 0, .int 0])), (q10, .inl (G.2.2.1 3, 4, .inr (.inr (.inr (.inr (va_up (va_up (va_up (va_up (fun _ => none) 0 (some q12)) 1 (some q14)) 2 (some q16)) 3 (some q18))))))), (q11, .inl (G.2.2.1 0, 7, .inl (fun _ => 0))), (q12, .inr (1, [.int 0, .int 0, .ref a13])), (a13, .inl (G.2.2.1 1, 40, .inr (.inl (fun _ => 0)))), (q14, .inr (1, [.int 0, .int 0, .ref a15])), (a15, .inl (G.2.2.1 1, 40, .inr (.inl (fun _ => 0)))), (q16, .inr (1, [.int 0, .int 0, .ref a17])), (a17, .inl (G.2.2.1 1, 40, .inr (.inl (fun _ => 0)))), (q18, .inr (1, [.int 0, .int 0, .ref a19])), (a19, .inl (G.2.2.1 1, 40, .inr (.inl (fun _ => 0))))]) C 49 3 57 rfl rfl rfl rfl (by decide) dX5_init_107 rfl ?_
  refine i_iinc (lv' := [(1, .int (4 : Int32)), (0, .ref h0)]) C (4 : Int32) 0 dX5_init_108 rfl (by decide) (by decide) rfl ?_
  refine i_goto C 90 dX5_init_111 rfl ?_
  refine i_iload_n C 0 dX5_init_90 rfl rfl ?_
  refine i_iconst C (4 : Int32) dX5_init_91 (by decide) ?_
  refine i_geT C 114 dX5_init_92 rfl (by decide) ?_
  refine i_sameQ (ws' := _) (fun i => some ((fun c => if c = 0 then h0 else if c < 16 then a2 (c - 1) else if c < 31 then a4 (c - 16) else if c < 46 then a6 (c - 31) else ([q7, a8, q9, q10, q11, q12, a13, q14, a15, q16, a17, q18, a19] : List Nat).getD (c - 46) 0) (4 + 2 + i))) 4 rfl (fun j hj => by match j, hj with
    | 0, _ => rfl
    | 1, _ => rfl
    | 2, _ => rfl
    | 3, _ => rfl
    | 4, _ => rfl
    | 5, _ => rfl
    | 6, _ => rfl
    | 7, _ => rfl
    | 8, _ => rfl
    | 9, _ => rfl
    | j + 10, h => omega) rfl ?_
  refine i_sameQ (ws' := _) (fun i => some ((fun c => if c = 0 then h0 else if c < 16 then a2 (c - 1) else if c < 31 then a4 (c - 16) else if c < 46 then a6 (c - 31) else ([q7, a8, q9, q10, q11, q12, a13, q14, a15, q16, a17, q18, a19] : List Nat).getD (c - 46) 0) (19 + 2 + i))) 19 rfl (fun j hj => by match j, hj with
    | 0, _ => rfl
    | 1, _ => rfl
    | 2, _ => rfl
    | 3, _ => rfl
    | 4, _ => rfl
    | 5, _ => rfl
    | 6, _ => rfl
    | 7, _ => rfl
    | 8, _ => rfl
    | 9, _ => rfl
    | j + 10, h => omega) rfl ?_
  refine i_sameQ (ws' := _) (fun i => some ((fun c => if c = 0 then h0 else if c < 16 then a2 (c - 1) else if c < 31 then a4 (c - 16) else if c < 46 then a6 (c - 31) else ([q7, a8, q9, q10, q11, q12, a13, q14, a15, q16, a17, q18, a19] : List Nat).getD (c - 46) 0) (34 + 2 + i))) 34 rfl (fun j hj => by match j, hj with
    | 0, _ => rfl
    | 1, _ => rfl
    | 2, _ => rfl
    | 3, _ => rfl
    | 4, _ => rfl
    | 5, _ => rfl
    | 6, _ => rfl
    | 7, _ => rfl
    | 8, _ => rfl
    | 9, _ => rfl
    | j + 10, h => omega) rfl ?_
  refine i_sameQ (ws' := _) (fun i => some ((fun c => if c = 0 then h0 else if c < 16 then a2 (c - 1) else if c < 31 then a4 (c - 16) else if c < 46 then a6 (c - 31) else ([q7, a8, q9, q10, q11, q12, a13, q14, a15, q16, a17, q18, a19] : List Nat).getD (c - 46) 0) (51 + 2 * i))) 49 rfl (fun j hj => by match j, hj with
    | 0, _ => rfl
    | 1, _ => rfl
    | 2, _ => rfl
    | 3, _ => rfl
    | j + 4, h => omega) rfl ?_
  cases ha2
  cases ha4
  cases ha6
  exact K _ _ _ ⟨(fun c => if c = 0 then h0 else if c < 16 then a2 (c - 1) else if c < 31 then a4 (c - 16) else if c < 46 then a6 (c - 31) else ([q7, a8, q9, q10, q11, q12, a13, q14, a15, q16, a17, q18, a19] : List Nat).getD (c - 46) 0), rfl, rfl⟩ dX5_init_114
theorem i_perm {Z : kZ} {nL pc : Nat} {lv : List (Nat × Value)} {stk : List Value} {ws ws' : va_W} {cells slots : Nat} (ps : List Nat) (hn : va_nd ps = true) (h : ps.map (fun i => ws[i]?) = ws'.map some) (k : kI Z nL pc lv stk ws' cells slots) : kI Z nL pc lv stk ws cells slots := fun H locs ls hP hD hS hl => k H locs ls (hP.sub ps (fm_of_map h)) (hD.sub ps hn h) hS hl
def ruX6_init : Room := { frames := 1, cells := 11, slots := 695, locals := 23 }
set_option maxRecDepth 100000 in
set_option maxHeartbeats 4000000 in
theorem mUX6_init {G : kG} {h0 : Nat} : kCu G yX6_init cX6_init 2 ruX6_init [.ref h0] [(h0, .inr (6, [.null, .null, .null, .null, .null, .int 0, .int 0, .int 0, .int 0, .long 0, .int 0, .int 0, .null, .null, .null, .null, .null, .null, .int 0]))] (fun w => ∃ a : Nat → Nat, a 0 = h0 ∧ w = u_md G a) 11 695 := by
  refine kMetU (by decide) (Nat.le_of_ble_eq_true rfl) (fun X A Q C hin0 K => ?_)
  have hin := hin0 rfl
  refine i_aload_n C 0 dX6_init_0 rfl rfl ?_
  refine i_obj C kw_3_233 kw_1_21 kw_1_22 ⟨by decide, by decide⟩ (Nat.le_of_ble_eq_true rfl) dX6_init_1 ?_
  refine i_aload_n C 0 dX6_init_4 rfl rfl ?_
  refine i_bipush C (72 : Int32) dX6_init_5 (by decide) ?_
  refine i_newI C kw_1_63 (by decide) rfl (by decide) ⟨by decide, by decide⟩ dX6_init_7 (fun q1 => ?_)
  refine i_ws (ws' := [(h0, .inr (6, [.null, .null, .null, .null, .null, .int 0, .int 0, .int 0, .int 0, .long 0, .int 0, .int 0, .null, .null, .null, .null, .null, .null, .int 0])), (q1, .inl (G.2.2.1 0, 72, .inl (fun _ => 0)))]) rfl ?_
  refine i_putF (j := 0) (ty := tyX6 0) (ty0 := tyX6) (ws' := [(h0, .inr (6, [.ref q1, .null, .null, .null, .null, .int 0, .int 0, .int 0, .int 0, .long 0, .int 0, .int 0, .null, .null, .null, .null, .null, .null, .int 0])), (q1, .inl (G.2.2.1 0, 72, .inl (fun _ => 0)))]) C hin 0 rfl rfl inK6 tyX6_ok nmX6 (by decide) kw_3_238 rfl rfl (by decide +kernel) rfl rfl (Nat.le_of_ble_eq_true rfl) dX6_init_9 rfl ?_
  refine i_aload_n C 0 dX6_init_12 rfl rfl ?_
  refine i_bipush C (7 : Int32) dX6_init_13 (by decide) ?_
  refine i_newI C kw_1_63 (by decide) rfl (by decide) ⟨by decide, by decide⟩ dX6_init_15 (fun q2 => ?_)
  refine i_ws (ws' := [(h0, .inr (6, [.ref q1, .null, .null, .null, .null, .int 0, .int 0, .int 0, .int 0, .long 0, .int 0, .int 0, .null, .null, .null, .null, .null, .null, .int 0])), (q1, .inl (G.2.2.1 0, 72, .inl (fun _ => 0))), (q2, .inl (G.2.2.1 0, 7, .inl (fun _ => 0)))]) rfl ?_
  refine i_putF (j := 1) (ty := tyX6 1) (ty0 := tyX6) (ws' := [(h0, .inr (6, [.ref q1, .ref q2, .null, .null, .null, .int 0, .int 0, .int 0, .int 0, .long 0, .int 0, .int 0, .null, .null, .null, .null, .null, .null, .int 0])), (q1, .inl (G.2.2.1 0, 72, .inl (fun _ => 0))), (q2, .inl (G.2.2.1 0, 7, .inl (fun _ => 0)))]) C hin 0 rfl rfl inK6 tyX6_ok nmX6 (by decide) kw_3_239 rfl rfl (by decide +kernel) rfl rfl (Nat.le_of_ble_eq_true rfl) dX6_init_17 rfl ?_
  refine i_aload_n C 0 dX6_init_20 rfl rfl ?_
  refine i_bipush C (72 : Int32) dX6_init_21 (by decide) ?_
  refine i_newI C kw_1_63 (by decide) rfl (by decide) ⟨by decide, by decide⟩ dX6_init_23 (fun q3 => ?_)
  refine i_ws (ws' := [(h0, .inr (6, [.ref q1, .ref q2, .null, .null, .null, .int 0, .int 0, .int 0, .int 0, .long 0, .int 0, .int 0, .null, .null, .null, .null, .null, .null, .int 0])), (q1, .inl (G.2.2.1 0, 72, .inl (fun _ => 0))), (q2, .inl (G.2.2.1 0, 7, .inl (fun _ => 0))), (q3, .inl (G.2.2.1 0, 72, .inl (fun _ => 0)))]) rfl ?_
  refine i_putF (j := 2) (ty := tyX6 2) (ty0 := tyX6) (ws' := [(h0, .inr (6, [.ref q1, .ref q2, .ref q3, .null, .null, .int 0, .int 0, .int 0, .int 0, .long 0, .int 0, .int 0, .null, .null, .null, .null, .null, .null, .int 0])), (q1, .inl (G.2.2.1 0, 72, .inl (fun _ => 0))), (q2, .inl (G.2.2.1 0, 7, .inl (fun _ => 0))), (q3, .inl (G.2.2.1 0, 72, .inl (fun _ => 0)))]) C hin 0 rfl rfl inK6 tyX6_ok nmX6 (by decide) kw_4_0 rfl rfl (by decide +kernel) rfl rfl (Nat.le_of_ble_eq_true rfl) dX6_init_25 rfl ?_
  refine i_aload_n C 0 dX6_init_28 rfl rfl ?_
  refine i_bipush C (72 : Int32) dX6_init_29 (by decide) ?_
  refine i_newI C kw_1_63 (by decide) rfl (by decide) ⟨by decide, by decide⟩ dX6_init_31 (fun q4 => ?_)
  refine i_ws (ws' := [(h0, .inr (6, [.ref q1, .ref q2, .ref q3, .null, .null, .int 0, .int 0, .int 0, .int 0, .long 0, .int 0, .int 0, .null, .null, .null, .null, .null, .null, .int 0])), (q1, .inl (G.2.2.1 0, 72, .inl (fun _ => 0))), (q2, .inl (G.2.2.1 0, 7, .inl (fun _ => 0))), (q3, .inl (G.2.2.1 0, 72, .inl (fun _ => 0))), (q4, .inl (G.2.2.1 0, 72, .inl (fun _ => 0)))]) rfl ?_
  refine i_putF (j := 3) (ty := tyX6 3) (ty0 := tyX6) (ws' := [(h0, .inr (6, [.ref q1, .ref q2, .ref q3, .ref q4, .null, .int 0, .int 0, .int 0, .int 0, .long 0, .int 0, .int 0, .null, .null, .null, .null, .null, .null, .int 0])), (q1, .inl (G.2.2.1 0, 72, .inl (fun _ => 0))), (q2, .inl (G.2.2.1 0, 7, .inl (fun _ => 0))), (q3, .inl (G.2.2.1 0, 72, .inl (fun _ => 0))), (q4, .inl (G.2.2.1 0, 72, .inl (fun _ => 0)))]) C hin 0 rfl rfl inK6 tyX6_ok nmX6 (by decide) kw_4_1 rfl rfl (by decide +kernel) rfl rfl (Nat.le_of_ble_eq_true rfl) dX6_init_33 rfl ?_
  refine i_aload_n C 0 dX6_init_36 rfl rfl ?_
  refine i_bipush C (120 : Int32) dX6_init_37 (by decide) ?_
  refine i_newI C kw_1_63 (by decide) rfl (by decide) ⟨by decide, by decide⟩ dX6_init_39 (fun q5 => ?_)
  refine i_ws (ws' := [(h0, .inr (6, [.ref q1, .ref q2, .ref q3, .ref q4, .null, .int 0, .int 0, .int 0, .int 0, .long 0, .int 0, .int 0, .null, .null, .null, .null, .null, .null, .int 0])), (q1, .inl (G.2.2.1 0, 72, .inl (fun _ => 0))), (q2, .inl (G.2.2.1 0, 7, .inl (fun _ => 0))), (q3, .inl (G.2.2.1 0, 72, .inl (fun _ => 0))), (q4, .inl (G.2.2.1 0, 72, .inl (fun _ => 0))), (q5, .inl (G.2.2.1 0, 120, .inl (fun _ => 0)))]) rfl ?_
  refine i_putF (j := 4) (ty := tyX6 4) (ty0 := tyX6) (ws' := [(h0, .inr (6, [.ref q1, .ref q2, .ref q3, .ref q4, .ref q5, .int 0, .int 0, .int 0, .int 0, .long 0, .int 0, .int 0, .null, .null, .null, .null, .null, .null, .int 0])), (q1, .inl (G.2.2.1 0, 72, .inl (fun _ => 0))), (q2, .inl (G.2.2.1 0, 7, .inl (fun _ => 0))), (q3, .inl (G.2.2.1 0, 72, .inl (fun _ => 0))), (q4, .inl (G.2.2.1 0, 72, .inl (fun _ => 0))), (q5, .inl (G.2.2.1 0, 120, .inl (fun _ => 0)))]) C hin 0 rfl rfl inK6 tyX6_ok nmX6 (by decide) kw_4_2 rfl rfl (by decide +kernel) rfl rfl (Nat.le_of_ble_eq_true rfl) dX6_init_41 rfl ?_
  refine i_aload_n C 0 dX6_init_44 rfl rfl ?_
  refine i_iconst C (4 : Int32) dX6_init_45 (by decide) ?_
  refine i_newI C kw_1_63 (by decide) rfl (by decide) ⟨by decide, by decide⟩ dX6_init_46 (fun q6 => ?_)
  refine i_ws (ws' := [(h0, .inr (6, [.ref q1, .ref q2, .ref q3, .ref q4, .ref q5, .int 0, .int 0, .int 0, .int 0, .long 0, .int 0, .int 0, .null, .null, .null, .null, .null, .null, .int 0])), (q1, .inl (G.2.2.1 0, 72, .inl (fun _ => 0))), (q2, .inl (G.2.2.1 0, 7, .inl (fun _ => 0))), (q3, .inl (G.2.2.1 0, 72, .inl (fun _ => 0))), (q4, .inl (G.2.2.1 0, 72, .inl (fun _ => 0))), (q5, .inl (G.2.2.1 0, 120, .inl (fun _ => 0))), (q6, .inl (G.2.2.1 0, 4, .inl (fun _ => 0)))]) rfl ?_
  refine i_putF (j := 12) (ty := tyX6 12) (ty0 := tyX6) (ws' := [(h0, .inr (6, [.ref q1, .ref q2, .ref q3, .ref q4, .ref q5, .int 0, .int 0, .int 0, .int 0, .long 0, .int 0, .int 0, .ref q6, .null, .null, .null, .null, .null, .int 0])), (q1, .inl (G.2.2.1 0, 72, .inl (fun _ => 0))), (q2, .inl (G.2.2.1 0, 7, .inl (fun _ => 0))), (q3, .inl (G.2.2.1 0, 72, .inl (fun _ => 0))), (q4, .inl (G.2.2.1 0, 72, .inl (fun _ => 0))), (q5, .inl (G.2.2.1 0, 120, .inl (fun _ => 0))), (q6, .inl (G.2.2.1 0, 4, .inl (fun _ => 0)))]) C hin 0 rfl rfl inK6 tyX6_ok nmX6 (by decide) kw_4_10 rfl rfl (by decide +kernel) rfl rfl (Nat.le_of_ble_eq_true rfl) dX6_init_48 rfl ?_
  refine i_aload_n C 0 dX6_init_51 rfl rfl ?_
  refine i_iconst C (4 : Int32) dX6_init_52 (by decide) ?_
  refine i_newI C kw_1_63 (by decide) rfl (by decide) ⟨by decide, by decide⟩ dX6_init_53 (fun q7 => ?_)
  refine i_ws (ws' := [(h0, .inr (6, [.ref q1, .ref q2, .ref q3, .ref q4, .ref q5, .int 0, .int 0, .int 0, .int 0, .long 0, .int 0, .int 0, .ref q6, .null, .null, .null, .null, .null, .int 0])), (q1, .inl (G.2.2.1 0, 72, .inl (fun _ => 0))), (q2, .inl (G.2.2.1 0, 7, .inl (fun _ => 0))), (q3, .inl (G.2.2.1 0, 72, .inl (fun _ => 0))), (q4, .inl (G.2.2.1 0, 72, .inl (fun _ => 0))), (q5, .inl (G.2.2.1 0, 120, .inl (fun _ => 0))), (q6, .inl (G.2.2.1 0, 4, .inl (fun _ => 0))), (q7, .inl (G.2.2.1 0, 4, .inl (fun _ => 0)))]) rfl ?_
  refine i_putF (j := 13) (ty := tyX6 13) (ty0 := tyX6) (ws' := [(h0, .inr (6, [.ref q1, .ref q2, .ref q3, .ref q4, .ref q5, .int 0, .int 0, .int 0, .int 0, .long 0, .int 0, .int 0, .ref q6, .ref q7, .null, .null, .null, .null, .int 0])), (q1, .inl (G.2.2.1 0, 72, .inl (fun _ => 0))), (q2, .inl (G.2.2.1 0, 7, .inl (fun _ => 0))), (q3, .inl (G.2.2.1 0, 72, .inl (fun _ => 0))), (q4, .inl (G.2.2.1 0, 72, .inl (fun _ => 0))), (q5, .inl (G.2.2.1 0, 120, .inl (fun _ => 0))), (q6, .inl (G.2.2.1 0, 4, .inl (fun _ => 0))), (q7, .inl (G.2.2.1 0, 4, .inl (fun _ => 0)))]) C hin 0 rfl rfl inK6 tyX6_ok nmX6 (by decide) kw_4_11 rfl rfl (by decide +kernel) rfl rfl (Nat.le_of_ble_eq_true rfl) dX6_init_55 rfl ?_
  refine i_aload_n C 0 dX6_init_58 rfl rfl ?_
  refine i_sipush C (160 : Int32) dX6_init_59 (by decide) ?_
  refine i_newJ C kw_1_159 (by decide) rfl (by decide) ⟨by decide, by decide⟩ dX6_init_62 (fun q8 => ?_)
  refine i_ws (ws' := [(h0, .inr (6, [.ref q1, .ref q2, .ref q3, .ref q4, .ref q5, .int 0, .int 0, .int 0, .int 0, .long 0, .int 0, .int 0, .ref q6, .ref q7, .null, .null, .null, .null, .int 0])), (q1, .inl (G.2.2.1 0, 72, .inl (fun _ => 0))), (q2, .inl (G.2.2.1 0, 7, .inl (fun _ => 0))), (q3, .inl (G.2.2.1 0, 72, .inl (fun _ => 0))), (q4, .inl (G.2.2.1 0, 72, .inl (fun _ => 0))), (q5, .inl (G.2.2.1 0, 120, .inl (fun _ => 0))), (q6, .inl (G.2.2.1 0, 4, .inl (fun _ => 0))), (q7, .inl (G.2.2.1 0, 4, .inl (fun _ => 0))), (q8, .inl (G.2.2.1 1, 160, .inr (.inl (fun _ => 0))))]) rfl ?_
  refine i_putF (j := 14) (ty := tyX6 14) (ty0 := tyX6) (ws' := [(h0, .inr (6, [.ref q1, .ref q2, .ref q3, .ref q4, .ref q5, .int 0, .int 0, .int 0, .int 0, .long 0, .int 0, .int 0, .ref q6, .ref q7, .ref q8, .null, .null, .null, .int 0])), (q1, .inl (G.2.2.1 0, 72, .inl (fun _ => 0))), (q2, .inl (G.2.2.1 0, 7, .inl (fun _ => 0))), (q3, .inl (G.2.2.1 0, 72, .inl (fun _ => 0))), (q4, .inl (G.2.2.1 0, 72, .inl (fun _ => 0))), (q5, .inl (G.2.2.1 0, 120, .inl (fun _ => 0))), (q6, .inl (G.2.2.1 0, 4, .inl (fun _ => 0))), (q7, .inl (G.2.2.1 0, 4, .inl (fun _ => 0))), (q8, .inl (G.2.2.1 1, 160, .inr (.inl (fun _ => 0))))]) C hin 0 rfl rfl inK6 tyX6_ok nmX6 (by decide) kw_4_12 rfl rfl (by decide +kernel) rfl rfl (Nat.le_of_ble_eq_true rfl) dX6_init_64 rfl ?_
  refine i_aload_n C 0 dX6_init_67 rfl rfl ?_
  refine i_bipush C (40 : Int32) dX6_init_68 (by decide) ?_
  refine i_newJ C kw_1_159 (by decide) rfl (by decide) ⟨by decide, by decide⟩ dX6_init_70 (fun q9 => ?_)
  refine i_ws (ws' := [(h0, .inr (6, [.ref q1, .ref q2, .ref q3, .ref q4, .ref q5, .int 0, .int 0, .int 0, .int 0, .long 0, .int 0, .int 0, .ref q6, .ref q7, .ref q8, .null, .null, .null, .int 0])), (q1, .inl (G.2.2.1 0, 72, .inl (fun _ => 0))), (q2, .inl (G.2.2.1 0, 7, .inl (fun _ => 0))), (q3, .inl (G.2.2.1 0, 72, .inl (fun _ => 0))), (q4, .inl (G.2.2.1 0, 72, .inl (fun _ => 0))), (q5, .inl (G.2.2.1 0, 120, .inl (fun _ => 0))), (q6, .inl (G.2.2.1 0, 4, .inl (fun _ => 0))), (q7, .inl (G.2.2.1 0, 4, .inl (fun _ => 0))), (q8, .inl (G.2.2.1 1, 160, .inr (.inl (fun _ => 0)))), (q9, .inl (G.2.2.1 1, 40, .inr (.inl (fun _ => 0))))]) rfl ?_
  refine i_putF (j := 15) (ty := tyX6 15) (ty0 := tyX6) (ws' := [(h0, .inr (6, [.ref q1, .ref q2, .ref q3, .ref q4, .ref q5, .int 0, .int 0, .int 0, .int 0, .long 0, .int 0, .int 0, .ref q6, .ref q7, .ref q8, .ref q9, .null, .null, .int 0])), (q1, .inl (G.2.2.1 0, 72, .inl (fun _ => 0))), (q2, .inl (G.2.2.1 0, 7, .inl (fun _ => 0))), (q3, .inl (G.2.2.1 0, 72, .inl (fun _ => 0))), (q4, .inl (G.2.2.1 0, 72, .inl (fun _ => 0))), (q5, .inl (G.2.2.1 0, 120, .inl (fun _ => 0))), (q6, .inl (G.2.2.1 0, 4, .inl (fun _ => 0))), (q7, .inl (G.2.2.1 0, 4, .inl (fun _ => 0))), (q8, .inl (G.2.2.1 1, 160, .inr (.inl (fun _ => 0)))), (q9, .inl (G.2.2.1 1, 40, .inr (.inl (fun _ => 0))))]) C hin 0 rfl rfl inK6 tyX6_ok nmX6 (by decide) kw_4_13 rfl rfl (by decide +kernel) rfl rfl (Nat.le_of_ble_eq_true rfl) dX6_init_72 rfl ?_
  refine i_aload_n C 0 dX6_init_75 rfl rfl ?_
  refine i_bipush C (72 : Int32) dX6_init_76 (by decide) ?_
  refine i_newI C kw_1_63 (by decide) rfl (by decide) ⟨by decide, by decide⟩ dX6_init_78 (fun q10 => ?_)
  refine i_ws (ws' := [(h0, .inr (6, [.ref q1, .ref q2, .ref q3, .ref q4, .ref q5, .int 0, .int 0, .int 0, .int 0, .long 0, .int 0, .int 0, .ref q6, .ref q7, .ref q8, .ref q9, .null, .null, .int 0])), (q1, .inl (G.2.2.1 0, 72, .inl (fun _ => 0))), (q2, .inl (G.2.2.1 0, 7, .inl (fun _ => 0))), (q3, .inl (G.2.2.1 0, 72, .inl (fun _ => 0))), (q4, .inl (G.2.2.1 0, 72, .inl (fun _ => 0))), (q5, .inl (G.2.2.1 0, 120, .inl (fun _ => 0))), (q6, .inl (G.2.2.1 0, 4, .inl (fun _ => 0))), (q7, .inl (G.2.2.1 0, 4, .inl (fun _ => 0))), (q8, .inl (G.2.2.1 1, 160, .inr (.inl (fun _ => 0)))), (q9, .inl (G.2.2.1 1, 40, .inr (.inl (fun _ => 0)))), (q10, .inl (G.2.2.1 0, 72, .inl (fun _ => 0)))]) rfl ?_
  refine i_putF (j := 16) (ty := tyX6 16) (ty0 := tyX6) (ws' := [(h0, .inr (6, [.ref q1, .ref q2, .ref q3, .ref q4, .ref q5, .int 0, .int 0, .int 0, .int 0, .long 0, .int 0, .int 0, .ref q6, .ref q7, .ref q8, .ref q9, .ref q10, .null, .int 0])), (q1, .inl (G.2.2.1 0, 72, .inl (fun _ => 0))), (q2, .inl (G.2.2.1 0, 7, .inl (fun _ => 0))), (q3, .inl (G.2.2.1 0, 72, .inl (fun _ => 0))), (q4, .inl (G.2.2.1 0, 72, .inl (fun _ => 0))), (q5, .inl (G.2.2.1 0, 120, .inl (fun _ => 0))), (q6, .inl (G.2.2.1 0, 4, .inl (fun _ => 0))), (q7, .inl (G.2.2.1 0, 4, .inl (fun _ => 0))), (q8, .inl (G.2.2.1 1, 160, .inr (.inl (fun _ => 0)))), (q9, .inl (G.2.2.1 1, 40, .inr (.inl (fun _ => 0)))), (q10, .inl (G.2.2.1 0, 72, .inl (fun _ => 0)))]) C hin 0 rfl rfl inK6 tyX6_ok nmX6 (by decide) kw_4_14 rfl rfl (by decide +kernel) rfl rfl (Nat.le_of_ble_eq_true rfl) dX6_init_80 rfl ?_
  refine i_aload_n C 0 dX6_init_83 rfl rfl ?_
  refine i_bipush C (72 : Int32) dX6_init_84 (by decide) ?_
  refine i_newI C kw_1_63 (by decide) rfl (by decide) ⟨by decide, by decide⟩ dX6_init_86 (fun q11 => ?_)
  refine i_ws (ws' := [(h0, .inr (6, [.ref q1, .ref q2, .ref q3, .ref q4, .ref q5, .int 0, .int 0, .int 0, .int 0, .long 0, .int 0, .int 0, .ref q6, .ref q7, .ref q8, .ref q9, .ref q10, .null, .int 0])), (q1, .inl (G.2.2.1 0, 72, .inl (fun _ => 0))), (q2, .inl (G.2.2.1 0, 7, .inl (fun _ => 0))), (q3, .inl (G.2.2.1 0, 72, .inl (fun _ => 0))), (q4, .inl (G.2.2.1 0, 72, .inl (fun _ => 0))), (q5, .inl (G.2.2.1 0, 120, .inl (fun _ => 0))), (q6, .inl (G.2.2.1 0, 4, .inl (fun _ => 0))), (q7, .inl (G.2.2.1 0, 4, .inl (fun _ => 0))), (q8, .inl (G.2.2.1 1, 160, .inr (.inl (fun _ => 0)))), (q9, .inl (G.2.2.1 1, 40, .inr (.inl (fun _ => 0)))), (q10, .inl (G.2.2.1 0, 72, .inl (fun _ => 0))), (q11, .inl (G.2.2.1 0, 72, .inl (fun _ => 0)))]) rfl ?_
  refine i_putF (j := 17) (ty := tyX6 17) (ty0 := tyX6) (ws' := [(h0, .inr (6, [.ref q1, .ref q2, .ref q3, .ref q4, .ref q5, .int 0, .int 0, .int 0, .int 0, .long 0, .int 0, .int 0, .ref q6, .ref q7, .ref q8, .ref q9, .ref q10, .ref q11, .int 0])), (q1, .inl (G.2.2.1 0, 72, .inl (fun _ => 0))), (q2, .inl (G.2.2.1 0, 7, .inl (fun _ => 0))), (q3, .inl (G.2.2.1 0, 72, .inl (fun _ => 0))), (q4, .inl (G.2.2.1 0, 72, .inl (fun _ => 0))), (q5, .inl (G.2.2.1 0, 120, .inl (fun _ => 0))), (q6, .inl (G.2.2.1 0, 4, .inl (fun _ => 0))), (q7, .inl (G.2.2.1 0, 4, .inl (fun _ => 0))), (q8, .inl (G.2.2.1 1, 160, .inr (.inl (fun _ => 0)))), (q9, .inl (G.2.2.1 1, 40, .inr (.inl (fun _ => 0)))), (q10, .inl (G.2.2.1 0, 72, .inl (fun _ => 0))), (q11, .inl (G.2.2.1 0, 72, .inl (fun _ => 0)))]) C hin 0 rfl rfl inK6 tyX6_ok nmX6 (by decide) kw_4_15 rfl rfl (by decide +kernel) rfl rfl (Nat.le_of_ble_eq_true rfl) dX6_init_88 rfl ?_
  refine i_iconst C (0 : Int32) dX6_init_91 (by decide) ?_
  refine i_istore_n (lv' := [(1, .int (0 : Int32)), (0, .ref h0)]) C dX6_init_92 rfl (by decide) rfl ?_
  refine i_iload_n C 0 dX6_init_93 rfl rfl ?_
  refine i_bipush C (12 : Int32) dX6_init_94 (by decide) ?_
  refine i_geF C 120 dX6_init_96 rfl (by decide) ?_
  refine i_aload_n C 1 dX6_init_99 rfl rfl ?_
  refine i_get (j := 0) C 0 rfl rfl inK6 (by decide) kw_3_238 rfl dX6_init_100 ?_
  refine i_iconst C (2 : Int32) dX6_init_103 (by decide) ?_
  refine i_iload_n C 0 dX6_init_104 rfl rfl ?_
  refine i_iadd C (2 : Int32) (by decide) dX6_init_105 ?_
  refine i_bipush C (7 : Int32) dX6_init_106 (by decide) ?_
  refine i_iload_n C 0 dX6_init_108 rfl rfl ?_
  refine i_imul C (0 : Int32) (by decide) dX6_init_109 ?_
  refine i_bipush C (30 : Int32) dX6_init_110 (by decide) ?_
  refine i_irem C (0 : Int32) (by decide) (by decide) dX6_init_112 ?_
  refine i_iast (ws' := [(h0, .inr (6, [.ref q1, .ref q2, .ref q3, .ref q4, .ref q5, .int 0, .int 0, .int 0, .int 0, .long 0, .int 0, .int 0, .ref q6, .ref q7, .ref q8, .ref q9, .ref q10, .ref q11, .int 0])), (q1, .inl (G.2.2.1 0, 72, .inl (upd (fun _ => 0) 2 0))), (q2, .inl (G.2.2.1 0, 7, .inl (fun _ => 0))), (q3, .inl (G.2.2.1 0, 72, .inl (fun _ => 0))), (q4, .inl (G.2.2.1 0, 72, .inl (fun _ => 0))), (q5, .inl (G.2.2.1 0, 120, .inl (fun _ => 0))), (q6, .inl (G.2.2.1 0, 4, .inl (fun _ => 0))), (q7, .inl (G.2.2.1 0, 4, .inl (fun _ => 0))), (q8, .inl (G.2.2.1 1, 160, .inr (.inl (fun _ => 0)))), (q9, .inl (G.2.2.1 1, 40, .inr (.inl (fun _ => 0)))), (q10, .inl (G.2.2.1 0, 72, .inl (fun _ => 0))), (q11, .inl (G.2.2.1 0, 72, .inl (fun _ => 0)))]) C 1 rfl (by decide) dX6_init_113 rfl ?_
  refine i_iinc (lv' := [(1, .int (1 : Int32)), (0, .ref h0)]) C (1 : Int32) 0 dX6_init_114 rfl (by decide) (by decide) rfl ?_
  refine i_goto C 93 dX6_init_117 rfl ?_
  refine i_iload_n C 0 dX6_init_93 rfl rfl ?_
  refine i_bipush C (12 : Int32) dX6_init_94 (by decide) ?_
  refine i_geF C 120 dX6_init_96 rfl (by decide) ?_
  refine i_aload_n C 1 dX6_init_99 rfl rfl ?_
  refine i_get (j := 0) C 0 rfl rfl inK6 (by decide) kw_3_238 rfl dX6_init_100 ?_
  refine i_iconst C (2 : Int32) dX6_init_103 (by decide) ?_
  refine i_iload_n C 0 dX6_init_104 rfl rfl ?_
  refine i_iadd C (3 : Int32) (by decide) dX6_init_105 ?_
  refine i_bipush C (7 : Int32) dX6_init_106 (by decide) ?_
  refine i_iload_n C 0 dX6_init_108 rfl rfl ?_
  refine i_imul C (7 : Int32) (by decide) dX6_init_109 ?_
  refine i_bipush C (30 : Int32) dX6_init_110 (by decide) ?_
  refine i_irem C (7 : Int32) (by decide) (by decide) dX6_init_112 ?_
  refine i_iast (ws' := [(h0, .inr (6, [.ref q1, .ref q2, .ref q3, .ref q4, .ref q5, .int 0, .int 0, .int 0, .int 0, .long 0, .int 0, .int 0, .ref q6, .ref q7, .ref q8, .ref q9, .ref q10, .ref q11, .int 0])), (q1, .inl (G.2.2.1 0, 72, .inl (upd (upd (fun _ => 0) 2 0) 3 7))), (q2, .inl (G.2.2.1 0, 7, .inl (fun _ => 0))), (q3, .inl (G.2.2.1 0, 72, .inl (fun _ => 0))), (q4, .inl (G.2.2.1 0, 72, .inl (fun _ => 0))), (q5, .inl (G.2.2.1 0, 120, .inl (fun _ => 0))), (q6, .inl (G.2.2.1 0, 4, .inl (fun _ => 0))), (q7, .inl (G.2.2.1 0, 4, .inl (fun _ => 0))), (q8, .inl (G.2.2.1 1, 160, .inr (.inl (fun _ => 0)))), (q9, .inl (G.2.2.1 1, 40, .inr (.inl (fun _ => 0)))), (q10, .inl (G.2.2.1 0, 72, .inl (fun _ => 0))), (q11, .inl (G.2.2.1 0, 72, .inl (fun _ => 0)))]) C 1 rfl (by decide) dX6_init_113 rfl ?_
  refine i_iinc (lv' := [(1, .int (2 : Int32)), (0, .ref h0)]) C (2 : Int32) 0 dX6_init_114 rfl (by decide) (by decide) rfl ?_
  refine i_goto C 93 dX6_init_117 rfl ?_
  refine i_iload_n C 0 dX6_init_93 rfl rfl ?_
  refine i_bipush C (12 : Int32) dX6_init_94 (by decide) ?_
  refine i_geF C 120 dX6_init_96 rfl (by decide) ?_
  refine i_aload_n C 1 dX6_init_99 rfl rfl ?_
  refine i_get (j := 0) C 0 rfl rfl inK6 (by decide) kw_3_238 rfl dX6_init_100 ?_
  refine i_iconst C (2 : Int32) dX6_init_103 (by decide) ?_
  refine i_iload_n C 0 dX6_init_104 rfl rfl ?_
  refine i_iadd C (4 : Int32) (by decide) dX6_init_105 ?_
  refine i_bipush C (7 : Int32) dX6_init_106 (by decide) ?_
  refine i_iload_n C 0 dX6_init_108 rfl rfl ?_
  refine i_imul C (14 : Int32) (by decide) dX6_init_109 ?_
  refine i_bipush C (30 : Int32) dX6_init_110 (by decide) ?_
  refine i_irem C (14 : Int32) (by decide) (by decide) dX6_init_112 ?_
  refine i_iast (ws' := [(h0, .inr (6, [.ref q1, .ref q2, .ref q3, .ref q4, .ref q5, .int 0, .int 0, .int 0, .int 0, .long 0, .int 0, .int 0, .ref q6, .ref q7, .ref q8, .ref q9, .ref q10, .ref q11, .int 0])), (q1, .inl (G.2.2.1 0, 72, .inl (upd (upd (upd (fun _ => 0) 2 0) 3 7) 4 14))), (q2, .inl (G.2.2.1 0, 7, .inl (fun _ => 0))), (q3, .inl (G.2.2.1 0, 72, .inl (fun _ => 0))), (q4, .inl (G.2.2.1 0, 72, .inl (fun _ => 0))), (q5, .inl (G.2.2.1 0, 120, .inl (fun _ => 0))), (q6, .inl (G.2.2.1 0, 4, .inl (fun _ => 0))), (q7, .inl (G.2.2.1 0, 4, .inl (fun _ => 0))), (q8, .inl (G.2.2.1 1, 160, .inr (.inl (fun _ => 0)))), (q9, .inl (G.2.2.1 1, 40, .inr (.inl (fun _ => 0)))), (q10, .inl (G.2.2.1 0, 72, .inl (fun _ => 0))), (q11, .inl (G.2.2.1 0, 72, .inl (fun _ => 0)))]) C 1 rfl (by decide) dX6_init_113 rfl ?_
  refine i_iinc (lv' := [(1, .int (3 : Int32)), (0, .ref h0)]) C (3 : Int32) 0 dX6_init_114 rfl (by decide) (by decide) rfl ?_
  refine i_goto C 93 dX6_init_117 rfl ?_
  refine i_iload_n C 0 dX6_init_93 rfl rfl ?_
  refine i_bipush C (12 : Int32) dX6_init_94 (by decide) ?_
  refine i_geF C 120 dX6_init_96 rfl (by decide) ?_
  refine i_aload_n C 1 dX6_init_99 rfl rfl ?_
  refine i_get (j := 0) C 0 rfl rfl inK6 (by decide) kw_3_238 rfl dX6_init_100 ?_
  refine i_iconst C (2 : Int32) dX6_init_103 (by decide) ?_
  refine i_iload_n C 0 dX6_init_104 rfl rfl ?_
  refine i_iadd C (5 : Int32) (by decide) dX6_init_105 ?_
  refine i_bipush C (7 : Int32) dX6_init_106 (by decide) ?_
  refine i_iload_n C 0 dX6_init_108 rfl rfl ?_
  refine i_imul C (21 : Int32) (by decide) dX6_init_109 ?_
  refine i_bipush C (30 : Int32) dX6_init_110 (by decide) ?_
  refine i_irem C (21 : Int32) (by decide) (by decide) dX6_init_112 ?_
  refine i_iast (ws' := [(h0, .inr (6, [.ref q1, .ref q2, .ref q3, .ref q4, .ref q5, .int 0, .int 0, .int 0, .int 0, .long 0, .int 0, .int 0, .ref q6, .ref q7, .ref q8, .ref q9, .ref q10, .ref q11, .int 0])), (q1, .inl (G.2.2.1 0, 72, .inl (upd (upd (upd (upd (fun _ => 0) 2 0) 3 7) 4 14) 5 21))), (q2, .inl (G.2.2.1 0, 7, .inl (fun _ => 0))), (q3, .inl (G.2.2.1 0, 72, .inl (fun _ => 0))), (q4, .inl (G.2.2.1 0, 72, .inl (fun _ => 0))), (q5, .inl (G.2.2.1 0, 120, .inl (fun _ => 0))), (q6, .inl (G.2.2.1 0, 4, .inl (fun _ => 0))), (q7, .inl (G.2.2.1 0, 4, .inl (fun _ => 0))), (q8, .inl (G.2.2.1 1, 160, .inr (.inl (fun _ => 0)))), (q9, .inl (G.2.2.1 1, 40, .inr (.inl (fun _ => 0)))), (q10, .inl (G.2.2.1 0, 72, .inl (fun _ => 0))), (q11, .inl (G.2.2.1 0, 72, .inl (fun _ => 0)))]) C 1 rfl (by decide) dX6_init_113 rfl ?_
  refine i_iinc (lv' := [(1, .int (4 : Int32)), (0, .ref h0)]) C (4 : Int32) 0 dX6_init_114 rfl (by decide) (by decide) rfl ?_
  refine i_goto C 93 dX6_init_117 rfl ?_
  refine i_iload_n C 0 dX6_init_93 rfl rfl ?_
  refine i_bipush C (12 : Int32) dX6_init_94 (by decide) ?_
  refine i_geF C 120 dX6_init_96 rfl (by decide) ?_
  refine i_aload_n C 1 dX6_init_99 rfl rfl ?_
  refine i_get (j := 0) C 0 rfl rfl inK6 (by decide) kw_3_238 rfl dX6_init_100 ?_
  refine i_iconst C (2 : Int32) dX6_init_103 (by decide) ?_
  refine i_iload_n C 0 dX6_init_104 rfl rfl ?_
  refine i_iadd C (6 : Int32) (by decide) dX6_init_105 ?_
  refine i_bipush C (7 : Int32) dX6_init_106 (by decide) ?_
  refine i_iload_n C 0 dX6_init_108 rfl rfl ?_
  refine i_imul C (28 : Int32) (by decide) dX6_init_109 ?_
  refine i_bipush C (30 : Int32) dX6_init_110 (by decide) ?_
  refine i_irem C (28 : Int32) (by decide) (by decide) dX6_init_112 ?_
  refine i_iast (ws' := [(h0, .inr (6, [.ref q1, .ref q2, .ref q3, .ref q4, .ref q5, .int 0, .int 0, .int 0, .int 0, .long 0, .int 0, .int 0, .ref q6, .ref q7, .ref q8, .ref q9, .ref q10, .ref q11, .int 0])), (q1, .inl (G.2.2.1 0, 72, .inl (upd (upd (upd (upd (upd (fun _ => 0) 2 0) 3 7) 4 14) 5 21) 6 28))), (q2, .inl (G.2.2.1 0, 7, .inl (fun _ => 0))), (q3, .inl (G.2.2.1 0, 72, .inl (fun _ => 0))), (q4, .inl (G.2.2.1 0, 72, .inl (fun _ => 0))), (q5, .inl (G.2.2.1 0, 120, .inl (fun _ => 0))), (q6, .inl (G.2.2.1 0, 4, .inl (fun _ => 0))), (q7, .inl (G.2.2.1 0, 4, .inl (fun _ => 0))), (q8, .inl (G.2.2.1 1, 160, .inr (.inl (fun _ => 0)))), (q9, .inl (G.2.2.1 1, 40, .inr (.inl (fun _ => 0)))), (q10, .inl (G.2.2.1 0, 72, .inl (fun _ => 0))), (q11, .inl (G.2.2.1 0, 72, .inl (fun _ => 0)))]) C 1 rfl (by decide) dX6_init_113 rfl ?_
  refine i_iinc (lv' := [(1, .int (5 : Int32)), (0, .ref h0)]) C (5 : Int32) 0 dX6_init_114 rfl (by decide) (by decide) rfl ?_
  refine i_goto C 93 dX6_init_117 rfl ?_
  refine i_iload_n C 0 dX6_init_93 rfl rfl ?_
  refine i_bipush C (12 : Int32) dX6_init_94 (by decide) ?_
  refine i_geF C 120 dX6_init_96 rfl (by decide) ?_
  refine i_aload_n C 1 dX6_init_99 rfl rfl ?_
  refine i_get (j := 0) C 0 rfl rfl inK6 (by decide) kw_3_238 rfl dX6_init_100 ?_
  refine i_iconst C (2 : Int32) dX6_init_103 (by decide) ?_
  refine i_iload_n C 0 dX6_init_104 rfl rfl ?_
  refine i_iadd C (7 : Int32) (by decide) dX6_init_105 ?_
  refine i_bipush C (7 : Int32) dX6_init_106 (by decide) ?_
  refine i_iload_n C 0 dX6_init_108 rfl rfl ?_
  refine i_imul C (35 : Int32) (by decide) dX6_init_109 ?_
  refine i_bipush C (30 : Int32) dX6_init_110 (by decide) ?_
  refine i_irem C (5 : Int32) (by decide) (by decide) dX6_init_112 ?_
  refine i_iast (ws' := [(h0, .inr (6, [.ref q1, .ref q2, .ref q3, .ref q4, .ref q5, .int 0, .int 0, .int 0, .int 0, .long 0, .int 0, .int 0, .ref q6, .ref q7, .ref q8, .ref q9, .ref q10, .ref q11, .int 0])), (q1, .inl (G.2.2.1 0, 72, .inl (upd (upd (upd (upd (upd (upd (fun _ => 0) 2 0) 3 7) 4 14) 5 21) 6 28) 7 5))), (q2, .inl (G.2.2.1 0, 7, .inl (fun _ => 0))), (q3, .inl (G.2.2.1 0, 72, .inl (fun _ => 0))), (q4, .inl (G.2.2.1 0, 72, .inl (fun _ => 0))), (q5, .inl (G.2.2.1 0, 120, .inl (fun _ => 0))), (q6, .inl (G.2.2.1 0, 4, .inl (fun _ => 0))), (q7, .inl (G.2.2.1 0, 4, .inl (fun _ => 0))), (q8, .inl (G.2.2.1 1, 160, .inr (.inl (fun _ => 0)))), (q9, .inl (G.2.2.1 1, 40, .inr (.inl (fun _ => 0)))), (q10, .inl (G.2.2.1 0, 72, .inl (fun _ => 0))), (q11, .inl (G.2.2.1 0, 72, .inl (fun _ => 0)))]) C 1 rfl (by decide) dX6_init_113 rfl ?_
  refine i_iinc (lv' := [(1, .int (6 : Int32)), (0, .ref h0)]) C (6 : Int32) 0 dX6_init_114 rfl (by decide) (by decide) rfl ?_
  refine i_goto C 93 dX6_init_117 rfl ?_
  refine i_iload_n C 0 dX6_init_93 rfl rfl ?_
  refine i_bipush C (12 : Int32) dX6_init_94 (by decide) ?_
  refine i_geF C 120 dX6_init_96 rfl (by decide) ?_
  refine i_aload_n C 1 dX6_init_99 rfl rfl ?_
  refine i_get (j := 0) C 0 rfl rfl inK6 (by decide) kw_3_238 rfl dX6_init_100 ?_
  refine i_iconst C (2 : Int32) dX6_init_103 (by decide) ?_
  refine i_iload_n C 0 dX6_init_104 rfl rfl ?_
  refine i_iadd C (8 : Int32) (by decide) dX6_init_105 ?_
  refine i_bipush C (7 : Int32) dX6_init_106 (by decide) ?_
  refine i_iload_n C 0 dX6_init_108 rfl rfl ?_
  refine i_imul C (42 : Int32) (by decide) dX6_init_109 ?_
  refine i_bipush C (30 : Int32) dX6_init_110 (by decide) ?_
  refine i_irem C (12 : Int32) (by decide) (by decide) dX6_init_112 ?_
  refine i_iast (ws' := [(h0, .inr (6, [.ref q1, .ref q2, .ref q3, .ref q4, .ref q5, .int 0, .int 0, .int 0, .int 0, .long 0, .int 0, .int 0, .ref q6, .ref q7, .ref q8, .ref q9, .ref q10, .ref q11, .int 0])), (q1, .inl (G.2.2.1 0, 72, .inl (upd (upd (upd (upd (upd (upd (upd (fun _ => 0) 2 0) 3 7) 4 14) 5 21) 6 28) 7 5) 8 12))), (q2, .inl (G.2.2.1 0, 7, .inl (fun _ => 0))), (q3, .inl (G.2.2.1 0, 72, .inl (fun _ => 0))), (q4, .inl (G.2.2.1 0, 72, .inl (fun _ => 0))), (q5, .inl (G.2.2.1 0, 120, .inl (fun _ => 0))), (q6, .inl (G.2.2.1 0, 4, .inl (fun _ => 0))), (q7, .inl (G.2.2.1 0, 4, .inl (fun _ => 0))), (q8, .inl (G.2.2.1 1, 160, .inr (.inl (fun _ => 0)))), (q9, .inl (G.2.2.1 1, 40, .inr (.inl (fun _ => 0)))), (q10, .inl (G.2.2.1 0, 72, .inl (fun _ => 0))), (q11, .inl (G.2.2.1 0, 72, .inl (fun _ => 0)))]) C 1 rfl (by decide) dX6_init_113 rfl ?_
  refine i_iinc (lv' := [(1, .int (7 : Int32)), (0, .ref h0)]) C (7 : Int32) 0 dX6_init_114 rfl (by decide) (by decide) rfl ?_
  refine i_goto C 93 dX6_init_117 rfl ?_
  refine i_iload_n C 0 dX6_init_93 rfl rfl ?_
  refine i_bipush C (12 : Int32) dX6_init_94 (by decide) ?_
  refine i_geF C 120 dX6_init_96 rfl (by decide) ?_
  refine i_aload_n C 1 dX6_init_99 rfl rfl ?_
  refine i_get (j := 0) C 0 rfl rfl inK6 (by decide) kw_3_238 rfl dX6_init_100 ?_
  refine i_iconst C (2 : Int32) dX6_init_103 (by decide) ?_
  refine i_iload_n C 0 dX6_init_104 rfl rfl ?_
  refine i_iadd C (9 : Int32) (by decide) dX6_init_105 ?_
  refine i_bipush C (7 : Int32) dX6_init_106 (by decide) ?_
  refine i_iload_n C 0 dX6_init_108 rfl rfl ?_
  refine i_imul C (49 : Int32) (by decide) dX6_init_109 ?_
  refine i_bipush C (30 : Int32) dX6_init_110 (by decide) ?_
  refine i_irem C (19 : Int32) (by decide) (by decide) dX6_init_112 ?_
  refine i_iast (ws' := [(h0, .inr (6, [.ref q1, .ref q2, .ref q3, .ref q4, .ref q5, .int 0, .int 0, .int 0, .int 0, .long 0, .int 0, .int 0, .ref q6, .ref q7, .ref q8, .ref q9, .ref q10, .ref q11, .int 0])), (q1, .inl (G.2.2.1 0, 72, .inl (upd (upd (upd (upd (upd (upd (upd (upd (fun _ => 0) 2 0) 3 7) 4 14) 5 21) 6 28) 7 5) 8 12) 9 19))), (q2, .inl (G.2.2.1 0, 7, .inl (fun _ => 0))), (q3, .inl (G.2.2.1 0, 72, .inl (fun _ => 0))), (q4, .inl (G.2.2.1 0, 72, .inl (fun _ => 0))), (q5, .inl (G.2.2.1 0, 120, .inl (fun _ => 0))), (q6, .inl (G.2.2.1 0, 4, .inl (fun _ => 0))), (q7, .inl (G.2.2.1 0, 4, .inl (fun _ => 0))), (q8, .inl (G.2.2.1 1, 160, .inr (.inl (fun _ => 0)))), (q9, .inl (G.2.2.1 1, 40, .inr (.inl (fun _ => 0)))), (q10, .inl (G.2.2.1 0, 72, .inl (fun _ => 0))), (q11, .inl (G.2.2.1 0, 72, .inl (fun _ => 0)))]) C 1 rfl (by decide) dX6_init_113 rfl ?_
  refine i_iinc (lv' := [(1, .int (8 : Int32)), (0, .ref h0)]) C (8 : Int32) 0 dX6_init_114 rfl (by decide) (by decide) rfl ?_
  refine i_goto C 93 dX6_init_117 rfl ?_
  refine i_iload_n C 0 dX6_init_93 rfl rfl ?_
  refine i_bipush C (12 : Int32) dX6_init_94 (by decide) ?_
  refine i_geF C 120 dX6_init_96 rfl (by decide) ?_
  refine i_aload_n C 1 dX6_init_99 rfl rfl ?_
  refine i_get (j := 0) C 0 rfl rfl inK6 (by decide) kw_3_238 rfl dX6_init_100 ?_
  refine i_iconst C (2 : Int32) dX6_init_103 (by decide) ?_
  refine i_iload_n C 0 dX6_init_104 rfl rfl ?_
  refine i_iadd C (10 : Int32) (by decide) dX6_init_105 ?_
  refine i_bipush C (7 : Int32) dX6_init_106 (by decide) ?_
  refine i_iload_n C 0 dX6_init_108 rfl rfl ?_
  refine i_imul C (56 : Int32) (by decide) dX6_init_109 ?_
  refine i_bipush C (30 : Int32) dX6_init_110 (by decide) ?_
  refine i_irem C (26 : Int32) (by decide) (by decide) dX6_init_112 ?_
  refine i_iast (ws' := [(h0, .inr (6, [.ref q1, .ref q2, .ref q3, .ref q4, .ref q5, .int 0, .int 0, .int 0, .int 0, .long 0, .int 0, .int 0, .ref q6, .ref q7, .ref q8, .ref q9, .ref q10, .ref q11, .int 0])), (q1, .inl (G.2.2.1 0, 72, .inl (upd (upd (upd (upd (upd (upd (upd (upd (upd (fun _ => 0) 2 0) 3 7) 4 14) 5 21) 6 28) 7 5) 8 12) 9 19) 10 26))), (q2, .inl (G.2.2.1 0, 7, .inl (fun _ => 0))), (q3, .inl (G.2.2.1 0, 72, .inl (fun _ => 0))), (q4, .inl (G.2.2.1 0, 72, .inl (fun _ => 0))), (q5, .inl (G.2.2.1 0, 120, .inl (fun _ => 0))), (q6, .inl (G.2.2.1 0, 4, .inl (fun _ => 0))), (q7, .inl (G.2.2.1 0, 4, .inl (fun _ => 0))), (q8, .inl (G.2.2.1 1, 160, .inr (.inl (fun _ => 0)))), (q9, .inl (G.2.2.1 1, 40, .inr (.inl (fun _ => 0)))), (q10, .inl (G.2.2.1 0, 72, .inl (fun _ => 0))), (q11, .inl (G.2.2.1 0, 72, .inl (fun _ => 0)))]) C 1 rfl (by decide) dX6_init_113 rfl ?_
  refine i_iinc (lv' := [(1, .int (9 : Int32)), (0, .ref h0)]) C (9 : Int32) 0 dX6_init_114 rfl (by decide) (by decide) rfl ?_
  refine i_goto C 93 dX6_init_117 rfl ?_
  refine i_iload_n C 0 dX6_init_93 rfl rfl ?_
  refine i_bipush C (12 : Int32) dX6_init_94 (by decide) ?_
  refine i_geF C 120 dX6_init_96 rfl (by decide) ?_
  refine i_aload_n C 1 dX6_init_99 rfl rfl ?_
  refine i_get (j := 0) C 0 rfl rfl inK6 (by decide) kw_3_238 rfl dX6_init_100 ?_
  refine i_iconst C (2 : Int32) dX6_init_103 (by decide) ?_
  refine i_iload_n C 0 dX6_init_104 rfl rfl ?_
  refine i_iadd C (11 : Int32) (by decide) dX6_init_105 ?_
  refine i_bipush C (7 : Int32) dX6_init_106 (by decide) ?_
  refine i_iload_n C 0 dX6_init_108 rfl rfl ?_
  refine i_imul C (63 : Int32) (by decide) dX6_init_109 ?_
  refine i_bipush C (30 : Int32) dX6_init_110 (by decide) ?_
  refine i_irem C (3 : Int32) (by decide) (by decide) dX6_init_112 ?_
  refine i_iast (ws' := [(h0, .inr (6, [.ref q1, .ref q2, .ref q3, .ref q4, .ref q5, .int 0, .int 0, .int 0, .int 0, .long 0, .int 0, .int 0, .ref q6, .ref q7, .ref q8, .ref q9, .ref q10, .ref q11, .int 0])), (q1, .inl (G.2.2.1 0, 72, .inl (upd (upd (upd (upd (upd (upd (upd (upd (upd (upd (fun _ => 0) 2 0) 3 7) 4 14) 5 21) 6 28) 7 5) 8 12) 9 19) 10 26) 11 3))), (q2, .inl (G.2.2.1 0, 7, .inl (fun _ => 0))), (q3, .inl (G.2.2.1 0, 72, .inl (fun _ => 0))), (q4, .inl (G.2.2.1 0, 72, .inl (fun _ => 0))), (q5, .inl (G.2.2.1 0, 120, .inl (fun _ => 0))), (q6, .inl (G.2.2.1 0, 4, .inl (fun _ => 0))), (q7, .inl (G.2.2.1 0, 4, .inl (fun _ => 0))), (q8, .inl (G.2.2.1 1, 160, .inr (.inl (fun _ => 0)))), (q9, .inl (G.2.2.1 1, 40, .inr (.inl (fun _ => 0)))), (q10, .inl (G.2.2.1 0, 72, .inl (fun _ => 0))), (q11, .inl (G.2.2.1 0, 72, .inl (fun _ => 0)))]) C 1 rfl (by decide) dX6_init_113 rfl ?_
  refine i_iinc (lv' := [(1, .int (10 : Int32)), (0, .ref h0)]) C (10 : Int32) 0 dX6_init_114 rfl (by decide) (by decide) rfl ?_
  refine i_goto C 93 dX6_init_117 rfl ?_
  refine i_iload_n C 0 dX6_init_93 rfl rfl ?_
  refine i_bipush C (12 : Int32) dX6_init_94 (by decide) ?_
  refine i_geF C 120 dX6_init_96 rfl (by decide) ?_
  refine i_aload_n C 1 dX6_init_99 rfl rfl ?_
  refine i_get (j := 0) C 0 rfl rfl inK6 (by decide) kw_3_238 rfl dX6_init_100 ?_
  refine i_iconst C (2 : Int32) dX6_init_103 (by decide) ?_
  refine i_iload_n C 0 dX6_init_104 rfl rfl ?_
  refine i_iadd C (12 : Int32) (by decide) dX6_init_105 ?_
  refine i_bipush C (7 : Int32) dX6_init_106 (by decide) ?_
  refine i_iload_n C 0 dX6_init_108 rfl rfl ?_
  refine i_imul C (70 : Int32) (by decide) dX6_init_109 ?_
  refine i_bipush C (30 : Int32) dX6_init_110 (by decide) ?_
  refine i_irem C (10 : Int32) (by decide) (by decide) dX6_init_112 ?_
  refine i_iast (ws' := [(h0, .inr (6, [.ref q1, .ref q2, .ref q3, .ref q4, .ref q5, .int 0, .int 0, .int 0, .int 0, .long 0, .int 0, .int 0, .ref q6, .ref q7, .ref q8, .ref q9, .ref q10, .ref q11, .int 0])), (q1, .inl (G.2.2.1 0, 72, .inl (upd (upd (upd (upd (upd (upd (upd (upd (upd (upd (upd (fun _ => 0) 2 0) 3 7) 4 14) 5 21) 6 28) 7 5) 8 12) 9 19) 10 26) 11 3) 12 10))), (q2, .inl (G.2.2.1 0, 7, .inl (fun _ => 0))), (q3, .inl (G.2.2.1 0, 72, .inl (fun _ => 0))), (q4, .inl (G.2.2.1 0, 72, .inl (fun _ => 0))), (q5, .inl (G.2.2.1 0, 120, .inl (fun _ => 0))), (q6, .inl (G.2.2.1 0, 4, .inl (fun _ => 0))), (q7, .inl (G.2.2.1 0, 4, .inl (fun _ => 0))), (q8, .inl (G.2.2.1 1, 160, .inr (.inl (fun _ => 0)))), (q9, .inl (G.2.2.1 1, 40, .inr (.inl (fun _ => 0)))), (q10, .inl (G.2.2.1 0, 72, .inl (fun _ => 0))), (q11, .inl (G.2.2.1 0, 72, .inl (fun _ => 0)))]) C 1 rfl (by decide) dX6_init_113 rfl ?_
  refine i_iinc (lv' := [(1, .int (11 : Int32)), (0, .ref h0)]) C (11 : Int32) 0 dX6_init_114 rfl (by decide) (by decide) rfl ?_
  refine i_goto C 93 dX6_init_117 rfl ?_
  refine i_iload_n C 0 dX6_init_93 rfl rfl ?_
  refine i_bipush C (12 : Int32) dX6_init_94 (by decide) ?_
  refine i_geF C 120 dX6_init_96 rfl (by decide) ?_
  refine i_aload_n C 1 dX6_init_99 rfl rfl ?_
  refine i_get (j := 0) C 0 rfl rfl inK6 (by decide) kw_3_238 rfl dX6_init_100 ?_
  refine i_iconst C (2 : Int32) dX6_init_103 (by decide) ?_
  refine i_iload_n C 0 dX6_init_104 rfl rfl ?_
  refine i_iadd C (13 : Int32) (by decide) dX6_init_105 ?_
  refine i_bipush C (7 : Int32) dX6_init_106 (by decide) ?_
  refine i_iload_n C 0 dX6_init_108 rfl rfl ?_
  refine i_imul C (77 : Int32) (by decide) dX6_init_109 ?_
  refine i_bipush C (30 : Int32) dX6_init_110 (by decide) ?_
  refine i_irem C (17 : Int32) (by decide) (by decide) dX6_init_112 ?_
  refine i_iast (ws' := [(h0, .inr (6, [.ref q1, .ref q2, .ref q3, .ref q4, .ref q5, .int 0, .int 0, .int 0, .int 0, .long 0, .int 0, .int 0, .ref q6, .ref q7, .ref q8, .ref q9, .ref q10, .ref q11, .int 0])), (q1, .inl (G.2.2.1 0, 72, .inl (upd (upd (upd (upd (upd (upd (upd (upd (upd (upd (upd (upd (fun _ => 0) 2 0) 3 7) 4 14) 5 21) 6 28) 7 5) 8 12) 9 19) 10 26) 11 3) 12 10) 13 17))), (q2, .inl (G.2.2.1 0, 7, .inl (fun _ => 0))), (q3, .inl (G.2.2.1 0, 72, .inl (fun _ => 0))), (q4, .inl (G.2.2.1 0, 72, .inl (fun _ => 0))), (q5, .inl (G.2.2.1 0, 120, .inl (fun _ => 0))), (q6, .inl (G.2.2.1 0, 4, .inl (fun _ => 0))), (q7, .inl (G.2.2.1 0, 4, .inl (fun _ => 0))), (q8, .inl (G.2.2.1 1, 160, .inr (.inl (fun _ => 0)))), (q9, .inl (G.2.2.1 1, 40, .inr (.inl (fun _ => 0)))), (q10, .inl (G.2.2.1 0, 72, .inl (fun _ => 0))), (q11, .inl (G.2.2.1 0, 72, .inl (fun _ => 0)))]) C 1 rfl (by decide) dX6_init_113 rfl ?_
  refine i_iinc (lv' := [(1, .int (12 : Int32)), (0, .ref h0)]) C (12 : Int32) 0 dX6_init_114 rfl (by decide) (by decide) rfl ?_
  refine i_goto C 93 dX6_init_117 rfl ?_
  refine i_iload_n C 0 dX6_init_93 rfl rfl ?_
  refine i_bipush C (12 : Int32) dX6_init_94 (by decide) ?_
  refine i_geT C 120 dX6_init_96 rfl (by decide) ?_
  refine i_iconst C (0 : Int32) dX6_init_120 (by decide) ?_
  refine i_istore_n (lv' := [(1, .int (0 : Int32)), (0, .ref h0)]) C dX6_init_121 rfl (by decide) rfl ?_
  refine i_iload_n C 0 dX6_init_122 rfl rfl ?_
  refine i_iconst C (4 : Int32) dX6_init_123 (by decide) ?_
  refine i_geF C 148 dX6_init_124 rfl (by decide) ?_
  refine i_aload_n C 1 dX6_init_127 rfl rfl ?_
  refine i_iload_n C 0 dX6_init_128 rfl rfl ?_
  refine i_iconst C (0 : Int32) dX6_init_129 (by decide) ?_
  refine i_bipush C (100 : Int32) dX6_init_130 (by decide) ?_
  refine i_callV (wr := [(q2, .inl (G.2.2.1 0, 7, .inl (fun _ => 0))), (q3, .inl (G.2.2.1 0, 72, .inl (fun _ => 0))), (q4, .inl (G.2.2.1 0, 72, .inl (fun _ => 0))), (q5, .inl (G.2.2.1 0, 120, .inl (fun _ => 0))), (q6, .inl (G.2.2.1 0, 4, .inl (fun _ => 0))), (q7, .inl (G.2.2.1 0, 4, .inl (fun _ => 0))), (q8, .inl (G.2.2.1 1, 160, .inr (.inl (fun _ => 0)))), (q9, .inl (G.2.2.1 1, 40, .inr (.inl (fun _ => 0)))), (q10, .inl (G.2.2.1 0, 72, .inl (fun _ => 0))), (q11, .inl (G.2.2.1 0, 72, .inl (fun _ => 0)))]) C [.int (0 : Int32), .int (0 : Int32), .int (100 : Int32)] (mU6_puts1 (i := (14 : Int32)) (fs := [.ref q1, .ref q2, .ref q3, .ref q4, .ref q5, .int 0, .int 0, .int 0, .int 0, .long 0, .int 0, .int 0, .ref q6, .ref q7, .ref q8, .ref q9, .ref q10, .ref q11, .int 0]) rfl (by decide) (by decide)) [0, 1] [2, 3, 4, 5, 6, 7, 8, 9, 10, 11] rfl rfl (by decide) (by decide) (by decide) 0 rfl rfl kw_3_234 kw_3_236 kw_0_22 kw_1_7 kw_3_237 ⟨rfl, by decide, by decide, by decide +kernel⟩ rfl ⟨by decide, by decide⟩ ⟨rfl, rfl⟩ ⟨by decide, by decide⟩ (Nat.le_of_ble_eq_true rfl) dX6_init_132 rfl (fun w1 hB => ?_)
  subst hB
  refine i_ws (ws' := [(q2, .inl (G.2.2.1 0, 7, .inl (fun _ => 0))), (q3, .inl (G.2.2.1 0, 72, .inl (fun _ => 0))), (q4, .inl (G.2.2.1 0, 72, .inl (fun _ => 0))), (q5, .inl (G.2.2.1 0, 120, .inl (fun _ => 0))), (q6, .inl (G.2.2.1 0, 4, .inl (fun _ => 0))), (q7, .inl (G.2.2.1 0, 4, .inl (fun _ => 0))), (q8, .inl (G.2.2.1 1, 160, .inr (.inl (fun _ => 0)))), (q9, .inl (G.2.2.1 1, 40, .inr (.inl (fun _ => 0)))), (q10, .inl (G.2.2.1 0, 72, .inl (fun _ => 0))), (q11, .inl (G.2.2.1 0, 72, .inl (fun _ => 0))), (h0, .inr (6, [.ref q1, .ref q2, .ref q3, .ref q4, .ref q5, .int 0, .int 0, .int 0, .int 0, .long 0, .int 0, .int 0, .ref q6, .ref q7, .ref q8, .ref q9, .ref q10, .ref q11, .int 0])), (q1, .inl (G.2.2.1 0, 72, .inl (upd (upd (upd (upd (upd (upd (upd (upd (upd (upd (upd (upd (upd (fun _ => 0) 2 0) 3 7) 4 14) 5 21) 6 28) 7 5) 8 12) 9 19) 10 26) 11 3) 12 10) 13 17) 14 100)))]) rfl ?_
  refine i_aload_n C 1 dX6_init_135 rfl rfl ?_
  refine i_iload_n C 0 dX6_init_136 rfl rfl ?_
  refine i_iconst C (1 : Int32) dX6_init_137 (by decide) ?_
  refine i_iconst C (1 : Int32) dX6_init_138 (by decide) ?_
  refine i_callV (wr := [(q2, .inl (G.2.2.1 0, 7, .inl (fun _ => 0))), (q3, .inl (G.2.2.1 0, 72, .inl (fun _ => 0))), (q4, .inl (G.2.2.1 0, 72, .inl (fun _ => 0))), (q5, .inl (G.2.2.1 0, 120, .inl (fun _ => 0))), (q6, .inl (G.2.2.1 0, 4, .inl (fun _ => 0))), (q7, .inl (G.2.2.1 0, 4, .inl (fun _ => 0))), (q8, .inl (G.2.2.1 1, 160, .inr (.inl (fun _ => 0)))), (q9, .inl (G.2.2.1 1, 40, .inr (.inl (fun _ => 0)))), (q10, .inl (G.2.2.1 0, 72, .inl (fun _ => 0))), (q11, .inl (G.2.2.1 0, 72, .inl (fun _ => 0)))]) C [.int (0 : Int32), .int (1 : Int32), .int (1 : Int32)] (mU6_puts1 (i := (15 : Int32)) (fs := [.ref q1, .ref q2, .ref q3, .ref q4, .ref q5, .int 0, .int 0, .int 0, .int 0, .long 0, .int 0, .int 0, .ref q6, .ref q7, .ref q8, .ref q9, .ref q10, .ref q11, .int 0]) rfl (by decide) (by decide)) [10, 11] [0, 1, 2, 3, 4, 5, 6, 7, 8, 9] rfl rfl (by decide) (by decide) (by decide) 10 rfl rfl kw_3_234 kw_3_236 kw_0_22 kw_1_7 kw_3_237 ⟨rfl, by decide, by decide, by decide +kernel⟩ rfl ⟨by decide, by decide⟩ ⟨rfl, rfl⟩ ⟨by decide, by decide⟩ (Nat.le_of_ble_eq_true rfl) dX6_init_139 rfl (fun w1 hB => ?_)
  subst hB
  refine i_ws (ws' := [(q2, .inl (G.2.2.1 0, 7, .inl (fun _ => 0))), (q3, .inl (G.2.2.1 0, 72, .inl (fun _ => 0))), (q4, .inl (G.2.2.1 0, 72, .inl (fun _ => 0))), (q5, .inl (G.2.2.1 0, 120, .inl (fun _ => 0))), (q6, .inl (G.2.2.1 0, 4, .inl (fun _ => 0))), (q7, .inl (G.2.2.1 0, 4, .inl (fun _ => 0))), (q8, .inl (G.2.2.1 1, 160, .inr (.inl (fun _ => 0)))), (q9, .inl (G.2.2.1 1, 40, .inr (.inl (fun _ => 0)))), (q10, .inl (G.2.2.1 0, 72, .inl (fun _ => 0))), (q11, .inl (G.2.2.1 0, 72, .inl (fun _ => 0))), (h0, .inr (6, [.ref q1, .ref q2, .ref q3, .ref q4, .ref q5, .int 0, .int 0, .int 0, .int 0, .long 0, .int 0, .int 0, .ref q6, .ref q7, .ref q8, .ref q9, .ref q10, .ref q11, .int 0])), (q1, .inl (G.2.2.1 0, 72, .inl (upd (upd (upd (upd (upd (upd (upd (upd (upd (upd (upd (upd (upd (upd (fun _ => 0) 2 0) 3 7) 4 14) 5 21) 6 28) 7 5) 8 12) 9 19) 10 26) 11 3) 12 10) 13 17) 14 100) 15 1)))]) rfl ?_
  refine i_iinc (lv' := [(1, .int (1 : Int32)), (0, .ref h0)]) C (1 : Int32) 0 dX6_init_142 rfl (by decide) (by decide) rfl ?_
  refine i_goto C 122 dX6_init_145 rfl ?_
  refine i_iload_n C 0 dX6_init_122 rfl rfl ?_
  refine i_iconst C (4 : Int32) dX6_init_123 (by decide) ?_
  refine i_geF C 148 dX6_init_124 rfl (by decide) ?_
  refine i_aload_n C 1 dX6_init_127 rfl rfl ?_
  refine i_iload_n C 0 dX6_init_128 rfl rfl ?_
  refine i_iconst C (0 : Int32) dX6_init_129 (by decide) ?_
  refine i_bipush C (100 : Int32) dX6_init_130 (by decide) ?_
  refine i_callV (wr := [(q2, .inl (G.2.2.1 0, 7, .inl (fun _ => 0))), (q3, .inl (G.2.2.1 0, 72, .inl (fun _ => 0))), (q4, .inl (G.2.2.1 0, 72, .inl (fun _ => 0))), (q5, .inl (G.2.2.1 0, 120, .inl (fun _ => 0))), (q6, .inl (G.2.2.1 0, 4, .inl (fun _ => 0))), (q7, .inl (G.2.2.1 0, 4, .inl (fun _ => 0))), (q8, .inl (G.2.2.1 1, 160, .inr (.inl (fun _ => 0)))), (q9, .inl (G.2.2.1 1, 40, .inr (.inl (fun _ => 0)))), (q10, .inl (G.2.2.1 0, 72, .inl (fun _ => 0))), (q11, .inl (G.2.2.1 0, 72, .inl (fun _ => 0)))]) C [.int (1 : Int32), .int (0 : Int32), .int (100 : Int32)] (mU6_puts1 (i := (16 : Int32)) (fs := [.ref q1, .ref q2, .ref q3, .ref q4, .ref q5, .int 0, .int 0, .int 0, .int 0, .long 0, .int 0, .int 0, .ref q6, .ref q7, .ref q8, .ref q9, .ref q10, .ref q11, .int 0]) rfl (by decide) (by decide)) [10, 11] [0, 1, 2, 3, 4, 5, 6, 7, 8, 9] rfl rfl (by decide) (by decide) (by decide) 10 rfl rfl kw_3_234 kw_3_236 kw_0_22 kw_1_7 kw_3_237 ⟨rfl, by decide, by decide, by decide +kernel⟩ rfl ⟨by decide, by decide⟩ ⟨rfl, rfl⟩ ⟨by decide, by decide⟩ (Nat.le_of_ble_eq_true rfl) dX6_init_132 rfl (fun w1 hB => ?_)
  subst hB
  refine i_ws (ws' := [(q2, .inl (G.2.2.1 0, 7, .inl (fun _ => 0))), (q3, .inl (G.2.2.1 0, 72, .inl (fun _ => 0))), (q4, .inl (G.2.2.1 0, 72, .inl (fun _ => 0))), (q5, .inl (G.2.2.1 0, 120, .inl (fun _ => 0))), (q6, .inl (G.2.2.1 0, 4, .inl (fun _ => 0))), (q7, .inl (G.2.2.1 0, 4, .inl (fun _ => 0))), (q8, .inl (G.2.2.1 1, 160, .inr (.inl (fun _ => 0)))), (q9, .inl (G.2.2.1 1, 40, .inr (.inl (fun _ => 0)))), (q10, .inl (G.2.2.1 0, 72, .inl (fun _ => 0))), (q11, .inl (G.2.2.1 0, 72, .inl (fun _ => 0))), (h0, .inr (6, [.ref q1, .ref q2, .ref q3, .ref q4, .ref q5, .int 0, .int 0, .int 0, .int 0, .long 0, .int 0, .int 0, .ref q6, .ref q7, .ref q8, .ref q9, .ref q10, .ref q11, .int 0])), (q1, .inl (G.2.2.1 0, 72, .inl (upd (upd (upd (upd (upd (upd (upd (upd (upd (upd (upd (upd (upd (upd (upd (fun _ => 0) 2 0) 3 7) 4 14) 5 21) 6 28) 7 5) 8 12) 9 19) 10 26) 11 3) 12 10) 13 17) 14 100) 15 1) 16 100)))]) rfl ?_
  refine i_aload_n C 1 dX6_init_135 rfl rfl ?_
  refine i_iload_n C 0 dX6_init_136 rfl rfl ?_
  refine i_iconst C (1 : Int32) dX6_init_137 (by decide) ?_
  refine i_iconst C (1 : Int32) dX6_init_138 (by decide) ?_
  refine i_callV (wr := [(q2, .inl (G.2.2.1 0, 7, .inl (fun _ => 0))), (q3, .inl (G.2.2.1 0, 72, .inl (fun _ => 0))), (q4, .inl (G.2.2.1 0, 72, .inl (fun _ => 0))), (q5, .inl (G.2.2.1 0, 120, .inl (fun _ => 0))), (q6, .inl (G.2.2.1 0, 4, .inl (fun _ => 0))), (q7, .inl (G.2.2.1 0, 4, .inl (fun _ => 0))), (q8, .inl (G.2.2.1 1, 160, .inr (.inl (fun _ => 0)))), (q9, .inl (G.2.2.1 1, 40, .inr (.inl (fun _ => 0)))), (q10, .inl (G.2.2.1 0, 72, .inl (fun _ => 0))), (q11, .inl (G.2.2.1 0, 72, .inl (fun _ => 0)))]) C [.int (1 : Int32), .int (1 : Int32), .int (1 : Int32)] (mU6_puts1 (i := (17 : Int32)) (fs := [.ref q1, .ref q2, .ref q3, .ref q4, .ref q5, .int 0, .int 0, .int 0, .int 0, .long 0, .int 0, .int 0, .ref q6, .ref q7, .ref q8, .ref q9, .ref q10, .ref q11, .int 0]) rfl (by decide) (by decide)) [10, 11] [0, 1, 2, 3, 4, 5, 6, 7, 8, 9] rfl rfl (by decide) (by decide) (by decide) 10 rfl rfl kw_3_234 kw_3_236 kw_0_22 kw_1_7 kw_3_237 ⟨rfl, by decide, by decide, by decide +kernel⟩ rfl ⟨by decide, by decide⟩ ⟨rfl, rfl⟩ ⟨by decide, by decide⟩ (Nat.le_of_ble_eq_true rfl) dX6_init_139 rfl (fun w1 hB => ?_)
  subst hB
  refine i_ws (ws' := [(q2, .inl (G.2.2.1 0, 7, .inl (fun _ => 0))), (q3, .inl (G.2.2.1 0, 72, .inl (fun _ => 0))), (q4, .inl (G.2.2.1 0, 72, .inl (fun _ => 0))), (q5, .inl (G.2.2.1 0, 120, .inl (fun _ => 0))), (q6, .inl (G.2.2.1 0, 4, .inl (fun _ => 0))), (q7, .inl (G.2.2.1 0, 4, .inl (fun _ => 0))), (q8, .inl (G.2.2.1 1, 160, .inr (.inl (fun _ => 0)))), (q9, .inl (G.2.2.1 1, 40, .inr (.inl (fun _ => 0)))), (q10, .inl (G.2.2.1 0, 72, .inl (fun _ => 0))), (q11, .inl (G.2.2.1 0, 72, .inl (fun _ => 0))), (h0, .inr (6, [.ref q1, .ref q2, .ref q3, .ref q4, .ref q5, .int 0, .int 0, .int 0, .int 0, .long 0, .int 0, .int 0, .ref q6, .ref q7, .ref q8, .ref q9, .ref q10, .ref q11, .int 0])), (q1, .inl (G.2.2.1 0, 72, .inl (upd (upd (upd (upd (upd (upd (upd (upd (upd (upd (upd (upd (upd (upd (upd (upd (fun _ => 0) 2 0) 3 7) 4 14) 5 21) 6 28) 7 5) 8 12) 9 19) 10 26) 11 3) 12 10) 13 17) 14 100) 15 1) 16 100) 17 1)))]) rfl ?_
  refine i_iinc (lv' := [(1, .int (2 : Int32)), (0, .ref h0)]) C (2 : Int32) 0 dX6_init_142 rfl (by decide) (by decide) rfl ?_
  refine i_goto C 122 dX6_init_145 rfl ?_
  refine i_iload_n C 0 dX6_init_122 rfl rfl ?_
  refine i_iconst C (4 : Int32) dX6_init_123 (by decide) ?_
  refine i_geF C 148 dX6_init_124 rfl (by decide) ?_
  refine i_aload_n C 1 dX6_init_127 rfl rfl ?_
  refine i_iload_n C 0 dX6_init_128 rfl rfl ?_
  refine i_iconst C (0 : Int32) dX6_init_129 (by decide) ?_
  refine i_bipush C (100 : Int32) dX6_init_130 (by decide) ?_
  refine i_callV (wr := [(q2, .inl (G.2.2.1 0, 7, .inl (fun _ => 0))), (q3, .inl (G.2.2.1 0, 72, .inl (fun _ => 0))), (q4, .inl (G.2.2.1 0, 72, .inl (fun _ => 0))), (q5, .inl (G.2.2.1 0, 120, .inl (fun _ => 0))), (q6, .inl (G.2.2.1 0, 4, .inl (fun _ => 0))), (q7, .inl (G.2.2.1 0, 4, .inl (fun _ => 0))), (q8, .inl (G.2.2.1 1, 160, .inr (.inl (fun _ => 0)))), (q9, .inl (G.2.2.1 1, 40, .inr (.inl (fun _ => 0)))), (q10, .inl (G.2.2.1 0, 72, .inl (fun _ => 0))), (q11, .inl (G.2.2.1 0, 72, .inl (fun _ => 0)))]) C [.int (2 : Int32), .int (0 : Int32), .int (100 : Int32)] (mU6_puts1 (i := (18 : Int32)) (fs := [.ref q1, .ref q2, .ref q3, .ref q4, .ref q5, .int 0, .int 0, .int 0, .int 0, .long 0, .int 0, .int 0, .ref q6, .ref q7, .ref q8, .ref q9, .ref q10, .ref q11, .int 0]) rfl (by decide) (by decide)) [10, 11] [0, 1, 2, 3, 4, 5, 6, 7, 8, 9] rfl rfl (by decide) (by decide) (by decide) 10 rfl rfl kw_3_234 kw_3_236 kw_0_22 kw_1_7 kw_3_237 ⟨rfl, by decide, by decide, by decide +kernel⟩ rfl ⟨by decide, by decide⟩ ⟨rfl, rfl⟩ ⟨by decide, by decide⟩ (Nat.le_of_ble_eq_true rfl) dX6_init_132 rfl (fun w1 hB => ?_)
  subst hB
  refine i_ws (ws' := [(q2, .inl (G.2.2.1 0, 7, .inl (fun _ => 0))), (q3, .inl (G.2.2.1 0, 72, .inl (fun _ => 0))), (q4, .inl (G.2.2.1 0, 72, .inl (fun _ => 0))), (q5, .inl (G.2.2.1 0, 120, .inl (fun _ => 0))), (q6, .inl (G.2.2.1 0, 4, .inl (fun _ => 0))), (q7, .inl (G.2.2.1 0, 4, .inl (fun _ => 0))), (q8, .inl (G.2.2.1 1, 160, .inr (.inl (fun _ => 0)))), (q9, .inl (G.2.2.1 1, 40, .inr (.inl (fun _ => 0)))), (q10, .inl (G.2.2.1 0, 72, .inl (fun _ => 0))), (q11, .inl (G.2.2.1 0, 72, .inl (fun _ => 0))), (h0, .inr (6, [.ref q1, .ref q2, .ref q3, .ref q4, .ref q5, .int 0, .int 0, .int 0, .int 0, .long 0, .int 0, .int 0, .ref q6, .ref q7, .ref q8, .ref q9, .ref q10, .ref q11, .int 0])), (q1, .inl (G.2.2.1 0, 72, .inl (upd (upd (upd (upd (upd (upd (upd (upd (upd (upd (upd (upd (upd (upd (upd (upd (upd (fun _ => 0) 2 0) 3 7) 4 14) 5 21) 6 28) 7 5) 8 12) 9 19) 10 26) 11 3) 12 10) 13 17) 14 100) 15 1) 16 100) 17 1) 18 100)))]) rfl ?_
  refine i_aload_n C 1 dX6_init_135 rfl rfl ?_
  refine i_iload_n C 0 dX6_init_136 rfl rfl ?_
  refine i_iconst C (1 : Int32) dX6_init_137 (by decide) ?_
  refine i_iconst C (1 : Int32) dX6_init_138 (by decide) ?_
  refine i_callV (wr := [(q2, .inl (G.2.2.1 0, 7, .inl (fun _ => 0))), (q3, .inl (G.2.2.1 0, 72, .inl (fun _ => 0))), (q4, .inl (G.2.2.1 0, 72, .inl (fun _ => 0))), (q5, .inl (G.2.2.1 0, 120, .inl (fun _ => 0))), (q6, .inl (G.2.2.1 0, 4, .inl (fun _ => 0))), (q7, .inl (G.2.2.1 0, 4, .inl (fun _ => 0))), (q8, .inl (G.2.2.1 1, 160, .inr (.inl (fun _ => 0)))), (q9, .inl (G.2.2.1 1, 40, .inr (.inl (fun _ => 0)))), (q10, .inl (G.2.2.1 0, 72, .inl (fun _ => 0))), (q11, .inl (G.2.2.1 0, 72, .inl (fun _ => 0)))]) C [.int (2 : Int32), .int (1 : Int32), .int (1 : Int32)] (mU6_puts1 (i := (19 : Int32)) (fs := [.ref q1, .ref q2, .ref q3, .ref q4, .ref q5, .int 0, .int 0, .int 0, .int 0, .long 0, .int 0, .int 0, .ref q6, .ref q7, .ref q8, .ref q9, .ref q10, .ref q11, .int 0]) rfl (by decide) (by decide)) [10, 11] [0, 1, 2, 3, 4, 5, 6, 7, 8, 9] rfl rfl (by decide) (by decide) (by decide) 10 rfl rfl kw_3_234 kw_3_236 kw_0_22 kw_1_7 kw_3_237 ⟨rfl, by decide, by decide, by decide +kernel⟩ rfl ⟨by decide, by decide⟩ ⟨rfl, rfl⟩ ⟨by decide, by decide⟩ (Nat.le_of_ble_eq_true rfl) dX6_init_139 rfl (fun w1 hB => ?_)
  subst hB
  refine i_ws (ws' := [(q2, .inl (G.2.2.1 0, 7, .inl (fun _ => 0))), (q3, .inl (G.2.2.1 0, 72, .inl (fun _ => 0))), (q4, .inl (G.2.2.1 0, 72, .inl (fun _ => 0))), (q5, .inl (G.2.2.1 0, 120, .inl (fun _ => 0))), (q6, .inl (G.2.2.1 0, 4, .inl (fun _ => 0))), (q7, .inl (G.2.2.1 0, 4, .inl (fun _ => 0))), (q8, .inl (G.2.2.1 1, 160, .inr (.inl (fun _ => 0)))), (q9, .inl (G.2.2.1 1, 40, .inr (.inl (fun _ => 0)))), (q10, .inl (G.2.2.1 0, 72, .inl (fun _ => 0))), (q11, .inl (G.2.2.1 0, 72, .inl (fun _ => 0))), (h0, .inr (6, [.ref q1, .ref q2, .ref q3, .ref q4, .ref q5, .int 0, .int 0, .int 0, .int 0, .long 0, .int 0, .int 0, .ref q6, .ref q7, .ref q8, .ref q9, .ref q10, .ref q11, .int 0])), (q1, .inl (G.2.2.1 0, 72, .inl (upd (upd (upd (upd (upd (upd (upd (upd (upd (upd (upd (upd (upd (upd (upd (upd (upd (upd (fun _ => 0) 2 0) 3 7) 4 14) 5 21) 6 28) 7 5) 8 12) 9 19) 10 26) 11 3) 12 10) 13 17) 14 100) 15 1) 16 100) 17 1) 18 100) 19 1)))]) rfl ?_
  refine i_iinc (lv' := [(1, .int (3 : Int32)), (0, .ref h0)]) C (3 : Int32) 0 dX6_init_142 rfl (by decide) (by decide) rfl ?_
  refine i_goto C 122 dX6_init_145 rfl ?_
  refine i_iload_n C 0 dX6_init_122 rfl rfl ?_
  refine i_iconst C (4 : Int32) dX6_init_123 (by decide) ?_
  refine i_geF C 148 dX6_init_124 rfl (by decide) ?_
  refine i_aload_n C 1 dX6_init_127 rfl rfl ?_
  refine i_iload_n C 0 dX6_init_128 rfl rfl ?_
  refine i_iconst C (0 : Int32) dX6_init_129 (by decide) ?_
  refine i_bipush C (100 : Int32) dX6_init_130 (by decide) ?_
  refine i_callV (wr := [(q2, .inl (G.2.2.1 0, 7, .inl (fun _ => 0))), (q3, .inl (G.2.2.1 0, 72, .inl (fun _ => 0))), (q4, .inl (G.2.2.1 0, 72, .inl (fun _ => 0))), (q5, .inl (G.2.2.1 0, 120, .inl (fun _ => 0))), (q6, .inl (G.2.2.1 0, 4, .inl (fun _ => 0))), (q7, .inl (G.2.2.1 0, 4, .inl (fun _ => 0))), (q8, .inl (G.2.2.1 1, 160, .inr (.inl (fun _ => 0)))), (q9, .inl (G.2.2.1 1, 40, .inr (.inl (fun _ => 0)))), (q10, .inl (G.2.2.1 0, 72, .inl (fun _ => 0))), (q11, .inl (G.2.2.1 0, 72, .inl (fun _ => 0)))]) C [.int (3 : Int32), .int (0 : Int32), .int (100 : Int32)] (mU6_puts1 (i := (20 : Int32)) (fs := [.ref q1, .ref q2, .ref q3, .ref q4, .ref q5, .int 0, .int 0, .int 0, .int 0, .long 0, .int 0, .int 0, .ref q6, .ref q7, .ref q8, .ref q9, .ref q10, .ref q11, .int 0]) rfl (by decide) (by decide)) [10, 11] [0, 1, 2, 3, 4, 5, 6, 7, 8, 9] rfl rfl (by decide) (by decide) (by decide) 10 rfl rfl kw_3_234 kw_3_236 kw_0_22 kw_1_7 kw_3_237 ⟨rfl, by decide, by decide, by decide +kernel⟩ rfl ⟨by decide, by decide⟩ ⟨rfl, rfl⟩ ⟨by decide, by decide⟩ (Nat.le_of_ble_eq_true rfl) dX6_init_132 rfl (fun w1 hB => ?_)
  subst hB
  refine i_ws (ws' := [(q2, .inl (G.2.2.1 0, 7, .inl (fun _ => 0))), (q3, .inl (G.2.2.1 0, 72, .inl (fun _ => 0))), (q4, .inl (G.2.2.1 0, 72, .inl (fun _ => 0))), (q5, .inl (G.2.2.1 0, 120, .inl (fun _ => 0))), (q6, .inl (G.2.2.1 0, 4, .inl (fun _ => 0))), (q7, .inl (G.2.2.1 0, 4, .inl (fun _ => 0))), (q8, .inl (G.2.2.1 1, 160, .inr (.inl (fun _ => 0)))), (q9, .inl (G.2.2.1 1, 40, .inr (.inl (fun _ => 0)))), (q10, .inl (G.2.2.1 0, 72, .inl (fun _ => 0))), (q11, .inl (G.2.2.1 0, 72, .inl (fun _ => 0))), (h0, .inr (6, [.ref q1, .ref q2, .ref q3, .ref q4, .ref q5, .int 0, .int 0, .int 0, .int 0, .long 0, .int 0, .int 0, .ref q6, .ref q7, .ref q8, .ref q9, .ref q10, .ref q11, .int 0])), (q1, .inl (G.2.2.1 0, 72, .inl (upd (upd (upd (upd (upd (upd (upd (upd (upd (upd (upd (upd (upd (upd (upd (upd (upd (upd (upd (fun _ => 0) 2 0) 3 7) 4 14) 5 21) 6 28) 7 5) 8 12) 9 19) 10 26) 11 3) 12 10) 13 17) 14 100) 15 1) 16 100) 17 1) 18 100) 19 1) 20 100)))]) rfl ?_
  refine i_aload_n C 1 dX6_init_135 rfl rfl ?_
  refine i_iload_n C 0 dX6_init_136 rfl rfl ?_
  refine i_iconst C (1 : Int32) dX6_init_137 (by decide) ?_
  refine i_iconst C (1 : Int32) dX6_init_138 (by decide) ?_
  refine i_callV (wr := [(q2, .inl (G.2.2.1 0, 7, .inl (fun _ => 0))), (q3, .inl (G.2.2.1 0, 72, .inl (fun _ => 0))), (q4, .inl (G.2.2.1 0, 72, .inl (fun _ => 0))), (q5, .inl (G.2.2.1 0, 120, .inl (fun _ => 0))), (q6, .inl (G.2.2.1 0, 4, .inl (fun _ => 0))), (q7, .inl (G.2.2.1 0, 4, .inl (fun _ => 0))), (q8, .inl (G.2.2.1 1, 160, .inr (.inl (fun _ => 0)))), (q9, .inl (G.2.2.1 1, 40, .inr (.inl (fun _ => 0)))), (q10, .inl (G.2.2.1 0, 72, .inl (fun _ => 0))), (q11, .inl (G.2.2.1 0, 72, .inl (fun _ => 0)))]) C [.int (3 : Int32), .int (1 : Int32), .int (1 : Int32)] (mU6_puts1 (i := (21 : Int32)) (fs := [.ref q1, .ref q2, .ref q3, .ref q4, .ref q5, .int 0, .int 0, .int 0, .int 0, .long 0, .int 0, .int 0, .ref q6, .ref q7, .ref q8, .ref q9, .ref q10, .ref q11, .int 0]) rfl (by decide) (by decide)) [10, 11] [0, 1, 2, 3, 4, 5, 6, 7, 8, 9] rfl rfl (by decide) (by decide) (by decide) 10 rfl rfl kw_3_234 kw_3_236 kw_0_22 kw_1_7 kw_3_237 ⟨rfl, by decide, by decide, by decide +kernel⟩ rfl ⟨by decide, by decide⟩ ⟨rfl, rfl⟩ ⟨by decide, by decide⟩ (Nat.le_of_ble_eq_true rfl) dX6_init_139 rfl (fun w1 hB => ?_)
  subst hB
  refine i_ws (ws' := [(q2, .inl (G.2.2.1 0, 7, .inl (fun _ => 0))), (q3, .inl (G.2.2.1 0, 72, .inl (fun _ => 0))), (q4, .inl (G.2.2.1 0, 72, .inl (fun _ => 0))), (q5, .inl (G.2.2.1 0, 120, .inl (fun _ => 0))), (q6, .inl (G.2.2.1 0, 4, .inl (fun _ => 0))), (q7, .inl (G.2.2.1 0, 4, .inl (fun _ => 0))), (q8, .inl (G.2.2.1 1, 160, .inr (.inl (fun _ => 0)))), (q9, .inl (G.2.2.1 1, 40, .inr (.inl (fun _ => 0)))), (q10, .inl (G.2.2.1 0, 72, .inl (fun _ => 0))), (q11, .inl (G.2.2.1 0, 72, .inl (fun _ => 0))), (h0, .inr (6, [.ref q1, .ref q2, .ref q3, .ref q4, .ref q5, .int 0, .int 0, .int 0, .int 0, .long 0, .int 0, .int 0, .ref q6, .ref q7, .ref q8, .ref q9, .ref q10, .ref q11, .int 0])), (q1, .inl (G.2.2.1 0, 72, .inl (upd (upd (upd (upd (upd (upd (upd (upd (upd (upd (upd (upd (upd (upd (upd (upd (upd (upd (upd (upd (fun _ => 0) 2 0) 3 7) 4 14) 5 21) 6 28) 7 5) 8 12) 9 19) 10 26) 11 3) 12 10) 13 17) 14 100) 15 1) 16 100) 17 1) 18 100) 19 1) 20 100) 21 1)))]) rfl ?_
  refine i_iinc (lv' := [(1, .int (4 : Int32)), (0, .ref h0)]) C (4 : Int32) 0 dX6_init_142 rfl (by decide) (by decide) rfl ?_
  refine i_goto C 122 dX6_init_145 rfl ?_
  refine i_iload_n C 0 dX6_init_122 rfl rfl ?_
  refine i_iconst C (4 : Int32) dX6_init_123 (by decide) ?_
  refine i_geT C 148 dX6_init_124 rfl (by decide) ?_
  refine i_perm (ws' := [(h0, .inr (6, [.ref q1, .ref q2, .ref q3, .ref q4, .ref q5, .int 0, .int 0, .int 0, .int 0, .long 0, .int 0, .int 0, .ref q6, .ref q7, .ref q8, .ref q9, .ref q10, .ref q11, .int 0])), (q1, .inl (G.2.2.1 0, 72, .inl (upd (upd (upd (upd (upd (upd (upd (upd (upd (upd (upd (upd (upd (upd (upd (upd (upd (upd (upd (upd (fun _ => 0) 2 0) 3 7) 4 14) 5 21) 6 28) 7 5) 8 12) 9 19) 10 26) 11 3) 12 10) 13 17) 14 100) 15 1) 16 100) 17 1) 18 100) 19 1) 20 100) 21 1))), (q2, .inl (G.2.2.1 0, 7, .inl (fun _ => 0))), (q3, .inl (G.2.2.1 0, 72, .inl (fun _ => 0))), (q4, .inl (G.2.2.1 0, 72, .inl (fun _ => 0))), (q5, .inl (G.2.2.1 0, 120, .inl (fun _ => 0))), (q6, .inl (G.2.2.1 0, 4, .inl (fun _ => 0))), (q7, .inl (G.2.2.1 0, 4, .inl (fun _ => 0))), (q8, .inl (G.2.2.1 1, 160, .inr (.inl (fun _ => 0)))), (q9, .inl (G.2.2.1 1, 40, .inr (.inl (fun _ => 0)))), (q10, .inl (G.2.2.1 0, 72, .inl (fun _ => 0))), (q11, .inl (G.2.2.1 0, 72, .inl (fun _ => 0)))]) [10, 11, 0, 1, 2, 3, 4, 5, 6, 7, 8, 9] (by decide) rfl ?_
  exact K _ _ _ ⟨(fun i => ([h0, q1, q2, q3, q4, q5, q6, q7, q8, q9, q10, q11] : List Nat).getD i 0), rfl, rfl⟩ dX6_init_148
