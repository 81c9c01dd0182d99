theorem u_tk_len (G : kG) (a : Nat → Nat) : (u_tk G a).length = 59 := by simp [u_tk]
theorem u_last {w : va_W} {x : Nat × va_E} {n : Nat} (h : w.length = n) : [n].map (fun i => (w ++ [x])[i]?) = [x].map some := by subst h; simp
theorem u_left {w x : va_W} {n : Nat} (h : w.length = n) : (List.range n).map (fun i => (w ++ x)[i]?) = w.map some := by
  subst h
  apply List.ext_getElem?
  intro i
  by_cases hi : i < w.length
  · simp [List.getElem?_append_left hi, hi]
  · simp [hi]
theorem u_at1 {G : kG} {a1 : Nat → Nat} {w : va_W} {k : Nat} (h : k < 59) : (u_tk G a1 ++ w)[k]? = some (a1 k, kE (G.1, a1, G.2.2) st0 k) := by
  rw [List.getElem?_append_left (by rw [u_tk_len]; exact h)]
  simp [u_tk, h]
theorem u_at2 {G : kG} {a1 a2 : Nat → Nat} {k : Nat} (h : ¬ k < 59) (h2 : k < 71) : (u_tk G a1 ++ u_md G a2)[k]? = some (a2 (k - 59), kE (G.1, (fun c => a2 (c - 59)), G.2.2) st0 (59 + (k - 59))) := by
  rw [List.getElem?_append_right (by rw [u_tk_len]; omega), u_tk_len]
  simp [u_md, show k - 59 < 12 by omega]
theorem u_ad (D : va_G) (ca : Nat → ClassId) (sK sV a1 a2 : Nat → Nat) (i : Nat) (hi : i < 71) : ∃ e, (u_tk (D, (fun _ => 0), ca, sK, sV) a1 ++ u_md (D, (fun _ => 0), ca, sK, sV) a2)[i]? = some ((fun c => if c < 59 then a1 c else a2 (c - 59)) i, e) := by
  by_cases h : i < 59
  · rw [u_at1 h]; simp only [h, if_true]; exact ⟨_, rfl⟩
  · rw [u_at2 h hi]; simp only [h, if_false]; exact ⟨_, rfl⟩
theorem u_arrq {H : Heap} {a n : Nat} {cA : ClassId} {f g : Nat → Option Nat} (hfg : ∀ j, j < n → f j = g j) (h : H[a]? = some (vp_cell cA (n, .inr (.inr (.inr (.inr f)))))) : H[a]? = some (vp_cell cA (n, .inr (.inr (.inr (.inr g))))) := by
  rw [h, vp_cell_q, vp_cell_q, arrV_congr (fun j hj => by rw [hfg j hj])]
set_option maxRecDepth 100000 in
set_option maxHeartbeats 4000000 in
theorem kj_1 {D : va_G} {ca : Nat → ClassId} {sK sV a1 a2 : Nat → Nat} : ∀ k : Nat, k < 59 → ∀ H : Heap, va_at D vwCl (a1 k, kE (D, a1, ca, sK, sV) st0 k) H → va_at D vwCl ((fun c => if c < 59 then a1 c else a2 (c - 59)) k, kE (D, (fun c => if c < 59 then a1 c else a2 (c - 59)), ca, sK, sV) st0 k) H := fun k hk H => by
  match k, hk with
  | 0, _ => exact fun h => h
  | 1, _ => exact fun h => h
  | 2, _ => exact fun h => h
  | 3, _ => exact fun h => h
  | 4, _ => exact u_arrq (fun j hj => by match j, hj with
    | 0, _ => rfl
    | 1, _ => rfl
    | 2, _ => rfl
    | 3, _ => rfl
    | 4, _ => rfl
    | 5, _ => rfl
    | 6, _ => rfl
    | 7, _ => rfl
    | 8, _ => rfl
    | 9, _ => rfl
    | j + 10, h => omega)
  | 5, _ => exact fun h => h
  | 6, _ => exact fun h => h
  | 7, _ => exact fun h => h
  | 8, _ => exact fun h => h
  | 9, _ => exact fun h => h
  | 10, _ => exact fun h => h
  | 11, _ => exact fun h => h
  | 12, _ => exact fun h => h
  | 13, _ => exact fun h => h
  | 14, _ => exact fun h => h
  | 15, _ => exact fun h => h
  | 16, _ => exact fun h => h
  | 17, _ => exact fun h => h
  | 18, _ => exact fun h => h
  | 19, _ => exact u_arrq (fun j hj => by match j, hj with
    | 0, _ => rfl
    | 1, _ => rfl
    | 2, _ => rfl
    | 3, _ => rfl
    | 4, _ => rfl
    | 5, _ => rfl
    | 6, _ => rfl
    | 7, _ => rfl
    | 8, _ => rfl
    | 9, _ => rfl
    | j + 10, h => omega)
  | 20, _ => exact fun h => h
  | 21, _ => exact fun h => h
  | 22, _ => exact fun h => h
  | 23, _ => exact fun h => h
  | 24, _ => exact fun h => h
  | 25, _ => exact fun h => h
  | 26, _ => exact fun h => h
  | 27, _ => exact fun h => h
  | 28, _ => exact fun h => h
  | 29, _ => exact fun h => h
  | 30, _ => exact fun h => h
  | 31, _ => exact fun h => h
  | 32, _ => exact fun h => h
  | 33, _ => exact fun h => h
  | 34, _ => exact u_arrq (fun j hj => by match j, hj with
    | 0, _ => rfl
    | 1, _ => rfl
    | 2, _ => rfl
    | 3, _ => rfl
    | 4, _ => rfl
    | 5, _ => rfl
    | 6, _ => rfl
    | 7, _ => rfl
    | 8, _ => rfl
    | 9, _ => rfl
    | j + 10, h => omega)
  | 35, _ => exact fun h => h
  | 36, _ => exact fun h => h
  | 37, _ => exact fun h => h
  | 38, _ => exact fun h => h
  | 39, _ => exact fun h => h
  | 40, _ => exact fun h => h
  | 41, _ => exact fun h => h
  | 42, _ => exact fun h => h
  | 43, _ => exact fun h => h
  | 44, _ => exact fun h => h
  | 45, _ => exact fun h => h
  | 46, _ => exact fun h => h
  | 47, _ => exact fun h => h
  | 48, _ => exact fun h => h
  | 49, _ => exact u_arrq (fun j hj => by match j, hj with
    | 0, _ => rfl
    | 1, _ => rfl
    | 2, _ => rfl
    | 3, _ => rfl
    | j + 4, h => omega)
  | 50, _ => exact fun h => h
  | 51, _ => exact fun h => h
  | 52, _ => exact fun h => h
  | 53, _ => exact fun h => h
  | 54, _ => exact fun h => h
  | 55, _ => exact fun h => h
  | 56, _ => exact fun h => h
  | 57, _ => exact fun h => h
  | 58, _ => exact fun h => h
  | k + 59, h => omega
set_option maxRecDepth 100000 in
set_option maxHeartbeats 4000000 in
theorem kj_2 {D : va_G} {ca : Nat → ClassId} {sK sV a1 a2 : Nat → Nat} : ∀ k : Nat, ¬ k < 59 → k < 71 → ∀ H : Heap, va_at D vwCl (a2 (k - 59), kE (D, (fun c => a2 (c - 59)), ca, sK, sV) st0 (59 + (k - 59))) H → va_at D vwCl ((fun c => if c < 59 then a1 c else a2 (c - 59)) k, kE (D, (fun c => if c < 59 then a1 c else a2 (c - 59)), ca, sK, sV) st0 k) H := fun k hk hk2 H => by
  obtain ⟨j, rfl⟩ : ∃ j, k = 59 + j := ⟨k - 59, by omega⟩
  have hj : j < 12 := by omega
  clear hk hk2
  match j, hj with
  | 0, _ => exact fun h => h
  | 1, _ => exact fun h => h
  | 2, _ => exact fun h => h
  | 3, _ => exact fun h => h
  | 4, _ => exact fun h => h
  | 5, _ => exact fun h => h
  | 6, _ => exact fun h => h
  | 7, _ => exact fun h => h
  | 8, _ => exact fun h => h
  | 9, _ => exact fun h => h
  | 10, _ => exact fun h => h
  | 11, _ => exact fun h => h
  | j + 12, h => omega
theorem i_astore_n {Z : kZ} {cc : ByteArray} {own : String} {nL pc : Nat} {rm : Room} {lv lv' : List (Nat × Value)} {stk : List Value} {ws : va_W} {cells slots : Nat} (C : kD Z cc own nL rm) {q : Fin 4} {i x : Nat} (hdg : decode cc pc = .ok (.astore_n q, 1)) (hi : (q : Nat) = i) (hn : i < nL) (hl' : (i, Value.ref x) :: lv.filter (fun q => !(q.1 == i) && !(q.1 + 1 == i && q.2.category == 2)) = lv') (k : kI Z nL (pc + 1) lv' stk ws cells slots) : kI Z nL pc lv (.ref x :: stk) ws cells slots := fun H locs ls hP hD hS hl => lv_astore_n C.exec C.bytes hdg hi hl hn hl' (fun ls' h' => k H locs ls' hP hD hS h')
set_option maxRecDepth 100000 in
set_option maxHeartbeats 4000000 in
/-- the world is laid: from the law's entry to its loop -/
theorem start_of {p : Program} {e : Env} {s : State} {m : MethodId} {below : List Frame} {meth : Method} {c : Code} (l : Launch) {b L : Nat} {xs : Nat → Int32} (hL : L ≤ 3072) (C0 : lw_At p s m meth c b L xs) {Iv : kM → Prop} (hI : Iv st0) (hs0 : sp_wind Iv) (hs1 : sp_weight Iv) (hs2 : sp_raise Iv) (hs3 : sp_mastOf Iv) (hs4 : sp_now Iv) (hs5 : sp_knot Iv) (hs6 : sp_of Iv) (hs7 : sp_set Iv) (hs8 : sp_turn Iv) (hs9 : sp_as Iv) (hs10 : sp_tease Iv) (hs11 : sp_tie Iv) (hs12 : sp_cast Iv) (hs13 : sp_hours Iv) (hs14 : sp_on Iv) (hs15 : sp_then Iv) (hs16 : sp_falls Iv) (hs17 : sp_gives Iv) (hs18 : sp_best Iv) (hs19 : sp_kind Iv) (hs20 : sp_open Iv) (hs21 : sp_bears Iv) (hs22 : sp_move Iv) (hs23 : sp_calm Iv) (hs24 : sp_firmest Iv) (hs25 : sp_feed Iv) (hs26 : sp_wipe Iv) (hs27 : sp_yard Iv) (hs28 : sp_sheet Iv) (hs29 : sp_write Iv) (hs30 : sp_copy Iv) (hs31 : sp_lays Iv) (hs32 : sp_book Iv) (hs33 : sp_read Iv) (hs34 : sp_image Iv) (hs35 : sp_undo Iv) (hs36 : sp_tear Iv) (hs37 : sp_count Iv) (hs38 : sp_status Iv) : W p l e room_1 s m #[Value.ref b] below meth c s.heap [] 0 0 (lw_Z below #[Value.ref b] s) (entryFrame m ([Value.ref b] : List Value).toArray 4) := by
  obtain ⟨hx, hb, hr, hml, hown, hts, hX, hbl, hlocks, hgv⟩ := C0
  obtain ⟨sK, sV, g1, g2, g3, g4⟩ := ws_str hgv hts
  obtain ⟨D, ca, hK⟩ := ws_cls hts
  have hl := lv_entry ([.ref b]) (n := 4) (Nat.le_of_ble_eq_true rfl)
  rw [lg_entry_eq]
  generalize (lg_sl ([.ref b]) ++ List.replicate (4 - (lg_sl ([.ref b])).length) Slot.unset).toArray = ls at hl ⊢
  obtain ⟨X, eX⟩ : ∃ X : kX, X = (p, l, e, room_1, s, m, #[Value.ref b], below, meth, c) := ⟨_, rfl⟩
  have C : kD ((p, l, e, room_1, s, m, #[Value.ref b], below, meth, c), (D, (fun _ => 0), ca, sK, sV), (fun q : Nat => s.heap.size ≤ q), lw_Z below #[Value.ref b] s, 0, 0) cL_law RL 4 room_1 := ⟨hx, hb, hml, hown, fun w hw => hts w (kw_tbl hw), rfl, fun q h => h, hK, hts _ wl_ok, hts _ wl_os⟩
  refine (?_ : kI ((p, l, e, room_1, s, m, #[Value.ref b], below, meth, c), (D, (fun _ => 0), ca, sK, sV), (fun q : Nat => s.heap.size ≤ q), lw_Z below #[Value.ref b] s, 0, 0) 4 0 [(0, .ref b)] [] [] 0 0) s.heap [] ls (fun k q h => by simp at h) ⟨fun i j p q h => by simp at h, fun k q h => by simp at h⟩ va_S.rf hl
  refine i_new (kk := 5) (ty0 := tyX5) (fs := [.null, .null, .null, .int 0, .null, .null, .null, .null]) C rfl inK5 tyX5_ok kw_1_15 kw_1_16 kw_1_1 (fun j hj => df_X5 j hj) ⟨Nat.le_of_ble_eq_true rfl, Nat.le_of_ble_eq_true rfl⟩ dL_law_0 (fun q1 => ?_)
  refine i_ws (ws' := [(q1, .inr (5, [.null, .null, .null, .int 0, .null, .null, .null, .null]))]) rfl ?_
  refine i_dup C dL_law_3 rfl ?_
  refine i_callI (n := 0) (wr := []) C [] (mUX5_init (h0 := q1)) [0] [] rfl rfl (by decide) (by decide) (by decide) kw_1_17 kw_1_18 kw_1_1 kw_1_19 rfl ⟨by decide, by decide, by decide +kernel⟩ rfl ⟨Nat.le_of_ble_eq_true rfl, Nat.le_of_ble_eq_true rfl⟩ ⟨rfl, rfl⟩ ⟨Nat.le_of_ble_eq_true rfl, Nat.le_of_ble_eq_true rfl⟩ (Nat.le_of_ble_eq_true rfl) dL_law_4 rfl (fun w1 hB => ?_)
  obtain ⟨a1, e1, rfl⟩ := hB
  refine i_ws (ws' := u_tk (D, (fun _ => 0), ca, sK, sV) a1) rfl ?_
  refine i_astore_n (lv' := [(1, .ref q1), (0, .ref b)]) C dL_law_7 rfl (by decide) rfl ?_
  refine i_new (kk := 6) (ty0 := tyX6) (fs := [.null, .null, .null, .null, .null, .int 0, .int 0, .int 0, .int 0, .long 0, .int 0, .int 0, .null, .null, .null, .null, .null, .null, .int 0]) C rfl inK6 tyX6_ok kw_3_228 kw_3_229 kw_1_7 (fun j hj => df_X6 j hj) ⟨Nat.le_of_ble_eq_true rfl, Nat.le_of_ble_eq_true rfl⟩ dL_law_8 (fun q2 => ?_)
  refine i_ws (ws' := u_tk (D, (fun _ => 0), ca, sK, sV) a1 ++ [(q2, .inr (6, [.null, .null, .null, .null, .null, .int 0, .int 0, .int 0, .int 0, .long 0, .int 0, .int 0, .null, .null, .null, .null, .null, .null, .int 0]))]) rfl ?_
  refine i_dup C dL_law_11 rfl ?_
  refine i_callI (n := 0) (wr := u_tk (D, (fun _ => 0), ca, sK, sV) a1) C [] (mUX6_init (h0 := q2)) [59] (List.range 59) (u_last (u_tk_len _ _)) (u_left (u_tk_len _ _)) (by decide) (by decide) (fun i hi h => by simp at hi h; omega) kw_3_230 kw_3_231 kw_1_7 kw_3_232 rfl ⟨by decide, by decide, by decide +kernel⟩ rfl ⟨Nat.le_of_ble_eq_true rfl, Nat.le_of_ble_eq_true rfl⟩ ⟨rfl, rfl⟩ ⟨Nat.le_of_ble_eq_true rfl, Nat.le_of_ble_eq_true rfl⟩ (Nat.le_of_ble_eq_true rfl) dL_law_12 rfl (fun w1 hB => ?_)
  obtain ⟨a2, e2, rfl⟩ := hB
  refine i_astore_n (lv' := [(2, .ref q2), (1, .ref q1), (0, .ref b)]) C dL_law_15 rfl (by decide) rfl ?_
  refine i_iconst C (0 : Int32) dL_law_16 (by decide) ?_
  refine i_istore_n (lv' := [(3, .int 0), (2, .ref q2), (1, .ref q1), (0, .ref b)]) C dL_law_17 rfl (by decide) rfl ?_
  refine i_lv (lv' := [(0, .ref b), (1, .ref q1), (2, .ref q2), (3, .int 0)]) [3, 2, 1, 0] rfl ?_
  cases e1
  cases e2
  intro H locs ls hP hD hS hl
  have hP2 : va_P D vwCl (kW (D, (fun c => if c < 59 then a1 c else a2 (c - 59)), ca, sK, sV) st0) H := by
    intro k q hq
    obtain ⟨hk, rfl⟩ := kW_out hq
    by_cases h : k < 59
    · exact kj_1 k h H (hP k _ (u_at1 h))
    · exact kj_2 k h hk H (hP k _ (u_at2 h hk))
  have hin : ∀ i j : Nat, i < 71 → j < 71 → (fun c => if c < 59 then a1 c else a2 (c - 59)) i = (fun c => if c < 59 then a1 c else a2 (c - 59)) j → i = j := fun i j hi hj h => by
    have h1 := u_ad D ca sK sV a1 a2 i hi
    have h2 := u_ad D ca sK sV a1 a2 j hj
    obtain ⟨e1, h1⟩ := h1
    obtain ⟨e2, h2⟩ := h2
    exact hD.1 i j _ _ h1 h2 h
  have hinA : ∀ i : Nat, i < 71 → s.heap.size ≤ (fun c => if c < 59 then a1 c else a2 (c - 59)) i := fun i hi => by
    obtain ⟨e1, h1⟩ := u_ad D ca sK sV a1 a2 i hi
    exact hD.2 i _ h1
  have hcs : (600000 : Nat) ≤ 600000 ∧ (7302250 : Nat) ≤ 7302250 := ⟨Nat.le_refl _, Nat.le_refl _⟩
  have hw1 : (0 + 1 + 58 + 1 + 11 : Nat) ≤ 600000 := Nat.le_of_ble_eq_true rfl
  have hw2 : (0 + 8 + 573 + 19 + 695 : Nat) ≤ 7302250 := Nat.le_of_ble_eq_true rfl
  have C2 : kC ((p, l, e, room_1, s, m, #[Value.ref b], below, meth, c), (D, (fun c => if c < 59 then a1 c else a2 (c - 59)), ca, sK, sV), (fun q : Nat => s.heap.size ≤ q), lw_Z below #[Value.ref b] s, 600000, 7302250) cL_law RL 4 room_1 := ⟨hx, hb, hml, hown, fun w hw => hts w (kw_tbl hw), rfl, hcs, hK, hin, hinA, fun q h => h, g1, g2, g3, g4⟩
  refine W.widen hw1 hw2 (law_loop C2 (b := b) (L := L) (xs := xs) ⟨hX, hbl, Nat.not_le.mpr hbl⟩ hL hs0 hs1 hs2 hs3 hs4 hs5 hs6 hs7 hs8 hs9 hs10 hs11 hs12 hs13 hs14 hs15 hs16 hs17 hs18 hs19 hs20 hs21 hs22 hs23 hs24 hs25 hs26 hs27 hs28 hs29 hs30 hs31 hs32 hs33 hs34 hs35 hs36 hs37 hs38 (fun lv st => ?_) (L + 1) 0 (by omega) (by omega) st0 hI H locs ls hP2 hS hl)
  intro H locs ls hP hS hl
  exact va_forget (fun q hq => hS.2.2 q hq) (lw_ret hx hb hr hlocks dL_law_1349)
