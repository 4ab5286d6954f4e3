abbrev rm_X12_backN : Room := { frames := 2, cells := 0, slots := 0, locals := 42 }
noncomputable def f_X12_backN (p1 : Int32) (t_thrown : Int32) (t_trouble : Int32) (t_where : Int32) : Option (Int32 × Int32 × Int32 × Int32) :=
  (f_X12_denied 1 t_trouble t_where).bind fun o1 => gd (nbl o1.1) <| some (o1.1, 0, o1.2.1, o1.2.2)
set_option maxHeartbeats 4000000 in
set_option maxRecDepth 100000 in
theorem c_X12_backN (l : Launch) (G : mx_G) (q_t : Nat) (v_t_read : Value) (v_t_tape : Value) (v_t_taped : Value) (v_t_size : Value) (v_t_spot : Value) (v_t_sort : Value) (v_t_place : Value) (v_t_number : Value) (v_t_fault : Value) (v_t_wrongAt : Value) (v_t_word : Value) (v_t_v : Value) (v_t_x : Value) (v_t_past : Value) (v_t_kept : Value) (v_t_acts : Value) (v_t_marks : Value) (v_t_width : Value) (v_t_water : Value) (v_t_depth : Value) (v_t_spill : Value) (v_t_below : Value) (v_t_fewest : Value) (v_t_shortest : Value) (v_t_shortestSum : Value) (v_t_many : Value) (v_t_changed : Value) (v_t_sets : Value) (v_t_some : Value) (v_t_each : Value) (v_t_fitDepth : Value) (v_t_askLeft : Value) (v_t_one : Value) (v_t_two : Value) (v_t_flooded : Value) (t_thrown : Int32) (t_trouble : Int32) (t_where : Int32) (p1 : Int32) (out : Int32 × Int32 × Int32 × Int32) (hm : f_X12_backN p1 t_thrown t_trouble t_where = some out) : mx_C l yX12_back cX12_back 3 (some .boolean) rm_X12_backN G [.ref q_t, .int p1] [xO q_t 12 [.int t_thrown, .int t_trouble, .int t_where, .null, v_t_read, v_t_tape, v_t_taped, v_t_size, v_t_spot, v_t_sort, v_t_place, v_t_number, v_t_fault, v_t_wrongAt, v_t_word, v_t_v, v_t_x, v_t_past, v_t_kept, v_t_acts, v_t_marks, v_t_width, v_t_water, v_t_depth, v_t_spill, v_t_below, v_t_fewest, v_t_shortest, v_t_shortestSum, v_t_many, v_t_changed, v_t_sets, v_t_some, v_t_each, v_t_fitDepth, v_t_askLeft, v_t_one, v_t_two, v_t_flooded]] (some (.int out.1)) [xO q_t 12 [.int out.2.1, .int out.2.2.1, .int out.2.2.2, .null, v_t_read, v_t_tape, v_t_taped, v_t_size, v_t_spot, v_t_sort, v_t_place, v_t_number, v_t_fault, v_t_wrongAt, v_t_word, v_t_v, v_t_x, v_t_past, v_t_kept, v_t_acts, v_t_marks, v_t_width, v_t_water, v_t_depth, v_t_spill, v_t_below, v_t_fewest, v_t_shortest, v_t_shortestSum, v_t_many, v_t_changed, v_t_sets, v_t_some, v_t_each, v_t_fitDepth, v_t_askLeft, v_t_one, v_t_two, v_t_flooded]] := by
  refine mx_enter (own := RX12) (name := "back") (lv := [(0, .ref q_t), (1, .int p1)]) (by decide) rfl rfl (Nat.le_of_ble_eq_true rfl) rfl ?_
  intro p e s m args below meth c A ls X hW hl
  obtain ⟨hx, hb, hml, hown, hts, hKN, -⟩ := id X
  unfold f_X12_backN at hm
  refine lv_aload_n hx hb dX12_back_0 rfl (lv_at hl 0 rfl) ?_
  refine lv_iconst (v := 0) hx hb dX12_back_1 (by decide) ?_
  refine mx_put (C := RX12) (T := TX12) (N := 39) (ci := 12) (w2 := [xO q_t 12 [.int 0, .int t_trouble, .int t_where, .null, v_t_read, v_t_tape, v_t_taped, v_t_size, v_t_spot, v_t_sort, v_t_place, v_t_number, v_t_fault, v_t_wrongAt, v_t_word, v_t_v, v_t_x, v_t_past, v_t_kept, v_t_acts, v_t_marks, v_t_width, v_t_water, v_t_depth, v_t_spill, v_t_below, v_t_fewest, v_t_shortest, v_t_shortestSum, v_t_many, v_t_changed, v_t_sets, v_t_some, v_t_each, v_t_fitDepth, v_t_askLeft, v_t_one, v_t_two, v_t_flooded]]) X hW 0 rfl rfl tbc_X12 tyX12 tyX12_ok nmX12 0 (by decide) kw_159 rfl rfl rfl rfl (Nat.le_of_ble_eq_true rfl) rfl dX12_back_2 (fun H locs hW => ?_)
  refine lv_aload_n hx hb dX12_back_5 rfl (lv_at hl 0 rfl) ?_
  refine mx_get (C := RX12) (T := TX12) (N := 39) (ci := 12) X hW 0 rfl rfl tbc_X12 3 (by decide) kw_363 rfl dX12_back_6 ?_
  refine lv_ifnullN (tgt := 24) hx hb dX12_back_9 (by decide) ?_
  refine lv_aload_n hx hb dX12_back_24 rfl (lv_at hl 0 rfl) ?_
  refine lv_iconst (v := 1) hx hb dX12_back_25 (by decide) ?_
  obtain ⟨o1, ho1, hm⟩ := bd_s hm
  refine mx_callV (C := RX12) (T := TX12) (N := 39) (ci := 12) (n := 1) (As := [.int 1]) (rest := []) (st1 := [.int o1.1]) (w2 := [xO q_t 12 [.int 0, .int o1.2.1, .int o1.2.2, .null, v_t_read, v_t_tape, v_t_taped, v_t_size, v_t_spot, v_t_sort, v_t_place, v_t_number, v_t_fault, v_t_wrongAt, v_t_word, v_t_v, v_t_x, v_t_past, v_t_kept, v_t_acts, v_t_marks, v_t_width, v_t_water, v_t_depth, v_t_spill, v_t_below, v_t_fewest, v_t_shortest, v_t_shortestSum, v_t_many, v_t_changed, v_t_sets, v_t_some, v_t_each, v_t_fitDepth, v_t_askLeft, v_t_one, v_t_two, v_t_flooded]]) X hW hl.1 (c_X12_denied l G q_t (.int 0) (.null) (v_t_read) (v_t_tape) (v_t_taped) (v_t_size) (v_t_spot) (v_t_sort) (v_t_place) (v_t_number) (v_t_fault) (v_t_wrongAt) (v_t_word) (v_t_v) (v_t_x) (v_t_past) (v_t_kept) (v_t_acts) (v_t_marks) (v_t_width) (v_t_water) (v_t_depth) (v_t_spill) (v_t_below) (v_t_fewest) (v_t_shortest) (v_t_shortestSum) (v_t_many) (v_t_changed) (v_t_sets) (v_t_some) (v_t_each) (v_t_fitDepth) (v_t_askLeft) (v_t_one) (v_t_two) (v_t_flooded) t_trouble t_where 1 o1 ho1) 0 rfl rfl kw_1422 kw_1423 kw_1424 kw_5 kw_1425 (by decide +kernel) ⟨rfl, rfl⟩ ⟨by decide, by decide⟩ ⟨Nat.zero_le _, Nat.zero_le _⟩ [0] (by decide) rfl rfl rfl rfl rfl rfl (Nat.le_of_ble_eq_true rfl) rfl dX12_back_26 (fun H locs hW => ?_)
  obtain ⟨hg2, hm⟩ := gd_s hm
  obtain rfl := Option.some.inj hm
  exact mx_zret X (nbl_s hg2) hW dX12_back_29

abbrev rm_X12_led : Room := { frames := 0, cells := 0, slots := 0, locals := 0 }
noncomputable def f_X12_led_L9 (k_58 : Option (Int32 × Int32)) (x1 : Int32) (t_thrown : Int32) (t_river_ropes : Int32) (t_v : Nat → Int32) : Nat → Int32 → Int32 → Option (Int32 × Int32)
  | 0, _, _ => none
  | n + 1, x2, x3 =>
    (if t_river_ropes ≤ x3 then
      k_58
    else
      gd (inb (0 + x3) 16) <| (if (t_v (0 + x3).toNatClampNeg) = 1 then
        (if x2 = x1 then
          some (x3, t_thrown)
        else
          f_X12_led_L9 k_58 x1 t_thrown t_river_ropes t_v n (x2 + 1) (x3 + 1))
      else
        f_X12_led_L9 k_58 x1 t_thrown t_river_ropes t_v n x2 (x3 + 1)))
noncomputable def f_X12_led (p1 : Int32) (t_thrown : Int32) (t_river_ropes : Int32) (t_v : Nat → Int32) : Option (Int32 × Int32) :=
  f_X12_led_L9 (some (0, 1)) p1 0 t_river_ropes t_v 2000 0 0
set_option maxHeartbeats 4000000 in
set_option maxRecDepth 100000 in
theorem w_X12_led_L9 {p : Program} {l : Launch} {e : Env} {s : State} {m : MethodId} {args : Array Value} {below : List Frame} {meth : Method} {c : Code} {A : Nat → Prop} {G : mx_G} (X : mx_X p s m args meth c RX12 "led" cX12_led 4 (some .int) G) (q_t : Nat) (q_t_river : Nat) (q_t_v : Nat) (v_t_trouble : Value) (v_t_where : Value) (v_t_read : Value) (v_t_tape : Value) (v_t_taped : Value) (v_t_size : Value) (v_t_spot : Value) (v_t_sort : Value) (v_t_place : Value) (v_t_number : Value) (v_t_fault : Value) (v_t_wrongAt : Value) (v_t_word : Value) (v_t_x : Value) (v_t_past : Value) (v_t_kept : Value) (v_t_acts : Value) (v_t_marks : Value) (v_t_width : Value) (v_t_water : Value) (v_t_depth : Value) (v_t_spill : Value) (v_t_below : Value) (v_t_fewest : Value) (v_t_shortest : Value) (v_t_shortestSum : Value) (v_t_many : Value) (v_t_changed : Value) (v_t_sets : Value) (v_t_some : Value) (v_t_each : Value) (v_t_fitDepth : Value) (v_t_askLeft : Value) (v_t_one : Value) (v_t_two : Value) (v_t_flooded : Value) (v_t_river_flow : Value) (v_t_river_tape : Value) (v_t_river_reaches : Value) (v_t_river_hands : Value) (v_t_river_boats : Value) (v_t_river_muds : Value) (v_t_river_loose : Value) (v_t_river_names : Value) (v_t_river_kind : Value) (v_t_river_wide : Value) (v_t_river_bank : Value) (v_t_river_mud : Value) (v_t_river_at : Value) (v_t_river_pulls : Value) (v_t_river_bears : Value) (v_t_river_strong : Value) (v_t_river_boatWide : Value) (v_t_river_boatDeep : Value) (v_t_river_name : Value) (v_t_river_nameSort : Value) (v_t_river_numberOf : Value) (t_thrown : Int32) (t_river_ropes : Int32) (t_v : Nat → Int32) (x1 : Int32) (out : Int32 × Int32) (k_58 : Option (Int32 × Int32)) (hk_58 : ∀ (H : Heap) (locs : List Loc) (ls : Array Slot), k_58 = some out → mx_W G s A [xO q_t 12 [.int t_thrown, v_t_trouble, v_t_where, .ref q_t_river, v_t_read, v_t_tape, v_t_taped, v_t_size, v_t_spot, v_t_sort, v_t_place, v_t_number, v_t_fault, v_t_wrongAt, v_t_word, .ref q_t_v, v_t_x, v_t_past, v_t_kept, v_t_acts, v_t_marks, v_t_width, v_t_water, v_t_depth, v_t_spill, v_t_below, v_t_fewest, v_t_shortest, v_t_shortestSum, v_t_many, v_t_changed, v_t_sets, v_t_some, v_t_each, v_t_fitDepth, v_t_askLeft, v_t_one, v_t_two, v_t_flooded], xO q_t_river 11 [v_t_river_flow, v_t_river_tape, v_t_river_reaches, .int t_river_ropes, v_t_river_hands, v_t_river_boats, v_t_river_muds, v_t_river_loose, v_t_river_names, v_t_river_kind, v_t_river_wide, v_t_river_bank, v_t_river_mud, v_t_river_at, v_t_river_pulls, v_t_river_bears, v_t_river_strong, v_t_river_boatWide, v_t_river_boatDeep, v_t_river_name, v_t_river_nameSort, v_t_river_numberOf], xI G q_t_v 16 t_v] H locs → lv_has ls 4 [(0, .ref q_t)] → W p l e rm_X12_led s m args below meth c H locs 0 0 (MQ below (mx_Q G (some (.int out.1)) [xO q_t 12 [.int out.2, v_t_trouble, v_t_where, .ref q_t_river, v_t_read, v_t_tape, v_t_taped, v_t_size, v_t_spot, v_t_sort, v_t_place, v_t_number, v_t_fault, v_t_wrongAt, v_t_word, .ref q_t_v, v_t_x, v_t_past, v_t_kept, v_t_acts, v_t_marks, v_t_width, v_t_water, v_t_depth, v_t_spill, v_t_below, v_t_fewest, v_t_shortest, v_t_shortestSum, v_t_many, v_t_changed, v_t_sets, v_t_some, v_t_each, v_t_fitDepth, v_t_askLeft, v_t_one, v_t_two, v_t_flooded], xO q_t_river 11 [v_t_river_flow, v_t_river_tape, v_t_river_reaches, .int t_river_ropes, v_t_river_hands, v_t_river_boats, v_t_river_muds, v_t_river_loose, v_t_river_names, v_t_river_kind, v_t_river_wide, v_t_river_bank, v_t_river_mud, v_t_river_at, v_t_river_pulls, v_t_river_bears, v_t_river_strong, v_t_river_boatWide, v_t_river_boatDeep, v_t_river_name, v_t_river_nameSort, v_t_river_numberOf], xI G q_t_v 16 t_v] A) args s 0 0 A) (F0 m 58 ls [])) : ∀ (n : Nat) (x2 : Int32) (x3 : Int32) (H : Heap) (locs : List Loc) (ls : Array Slot), f_X12_led_L9 k_58 x1 t_thrown t_river_ropes t_v n x2 x3 = some out → mx_W G s A [xO q_t 12 [.int t_thrown, v_t_trouble, v_t_where, .ref q_t_river, v_t_read, v_t_tape, v_t_taped, v_t_size, v_t_spot, v_t_sort, v_t_place, v_t_number, v_t_fault, v_t_wrongAt, v_t_word, .ref q_t_v, v_t_x, v_t_past, v_t_kept, v_t_acts, v_t_marks, v_t_width, v_t_water, v_t_depth, v_t_spill, v_t_below, v_t_fewest, v_t_shortest, v_t_shortestSum, v_t_many, v_t_changed, v_t_sets, v_t_some, v_t_each, v_t_fitDepth, v_t_askLeft, v_t_one, v_t_two, v_t_flooded], xO q_t_river 11 [v_t_river_flow, v_t_river_tape, v_t_river_reaches, .int t_river_ropes, v_t_river_hands, v_t_river_boats, v_t_river_muds, v_t_river_loose, v_t_river_names, v_t_river_kind, v_t_river_wide, v_t_river_bank, v_t_river_mud, v_t_river_at, v_t_river_pulls, v_t_river_bears, v_t_river_strong, v_t_river_boatWide, v_t_river_boatDeep, v_t_river_name, v_t_river_nameSort, v_t_river_numberOf], xI G q_t_v 16 t_v] H locs → lv_has ls 4 [(0, .ref q_t), (1, .int x1), (2, .int x2), (3, .int x3)] → W p l e rm_X12_led s m args below meth c H locs 0 0 (MQ below (mx_Q G (some (.int out.1)) [xO q_t 12 [.int out.2, v_t_trouble, v_t_where, .ref q_t_river, v_t_read, v_t_tape, v_t_taped, v_t_size, v_t_spot, v_t_sort, v_t_place, v_t_number, v_t_fault, v_t_wrongAt, v_t_word, .ref q_t_v, v_t_x, v_t_past, v_t_kept, v_t_acts, v_t_marks, v_t_width, v_t_water, v_t_depth, v_t_spill, v_t_below, v_t_fewest, v_t_shortest, v_t_shortestSum, v_t_many, v_t_changed, v_t_sets, v_t_some, v_t_each, v_t_fitDepth, v_t_askLeft, v_t_one, v_t_two, v_t_flooded], xO q_t_river 11 [v_t_river_flow, v_t_river_tape, v_t_river_reaches, .int t_river_ropes, v_t_river_hands, v_t_river_boats, v_t_river_muds, v_t_river_loose, v_t_river_names, v_t_river_kind, v_t_river_wide, v_t_river_bank, v_t_river_mud, v_t_river_at, v_t_river_pulls, v_t_river_bears, v_t_river_strong, v_t_river_boatWide, v_t_river_boatDeep, v_t_river_name, v_t_river_nameSort, v_t_river_numberOf], xI G q_t_v 16 t_v] A) args s 0 0 A) (F0 m 9 ls []) := by
  obtain ⟨hx, hb, hml, hown, hts, hKN, -⟩ := id X
  intro n
  induction n with
  | zero => intro x2 x3 H locs ls hm hW hl; exact absurd (show none = some out from hm) (fun h => by cases h)
  | succ n ih =>
    intro x2 x3 H locs ls hm hW hl
    rw [f_X12_led_L9] at hm
    refine lv_aload_n hx hb dX12_led_9 rfl (lv_at hl 0 rfl) ?_
    refine mx_get (C := RX12) (T := TX12) (N := 39) (ci := 12) X hW 0 rfl rfl tbc_X12 3 (by decide) kw_363 rfl dX12_led_10 ?_
    refine lv_ifnull hx hb dX12_led_13 ?_
    refine lv_iload_n hx hb dX12_led_16 rfl (lv_at hl 3 rfl) ?_
    refine lv_aload_n hx hb dX12_led_17 rfl (lv_at hl 0 rfl) ?_
    refine mx_get (C := RX12) (T := TX12) (N := 39) (ci := 12) X hW 0 rfl rfl tbc_X12 3 (by decide) kw_363 rfl dX12_led_18 ?_
    refine mx_getN (C := RX11) (T := TX11) (N := 22) (ci := 11) X hW 1 rfl rfl tbc_X11 3 (by decide) kn_26 rfl dX12_led_21 ?_
    refine lv_icmp_ge (tgt := 58) hx hb dX12_led_24 (by decide) (fun c1 => ?_) (fun c1 => ?_)
    · have hm := (if_pos c1).symm.trans hm
      exact hk_58  _ _ _ hm hW (lv_sub hl [0] rfl)
    · have hm := (if_neg c1).symm.trans hm
      refine lv_aload_n hx hb dX12_led_27 rfl (lv_at hl 0 rfl) ?_
      refine mx_get (C := RX12) (T := TX12) (N := 39) (ci := 12) X hW 0 rfl rfl tbc_X12 15 (by decide) kw_134 rfl dX12_led_28 ?_
      refine lv_iconst (v := 0) hx hb dX12_led_31 (by decide) ?_
      refine lv_iload_n hx hb dX12_led_32 rfl (lv_at hl 3 rfl) ?_
      refine lv_iadd hx hb dX12_led_33 ?_
      obtain ⟨hg2, hm⟩ := gd_s hm
      refine mx_iald X hW 2 rfl (inb_s hg2) dX12_led_34 ?_
      refine lv_iconst (v := 1) hx hb dX12_led_35 (by decide) ?_
      refine lv_icmp_eq (tgt := 42) hx hb dX12_led_36 (by decide) (fun c3 => ?_) (fun c3 => ?_)
      · have hm := (if_pos c3).symm.trans hm
        refine lv_iload_n hx hb dX12_led_42 rfl (lv_at hl 2 rfl) ?_
        refine lv_iload_n hx hb dX12_led_43 rfl (lv_at hl 1 rfl) ?_
        refine lv_icmp_ne (tgt := 49) hx hb dX12_led_44 (by decide) (fun c4 => ?_) (fun c4 => ?_)
        · have hm := (if_neg c4).symm.trans hm
          refine lv_iinc (v := x2 + 1) (lv' := [(2, .int (x2 + 1)), (0, .ref q_t), (1, .int x1), (3, .int x3)]) hx hb dX12_led_49 hl (k := 2) rfl rfl (by decide) rfl (fun ls hl => ?_)
          refine lv_iinc (v := x3 + 1) (lv' := [(3, .int (x3 + 1)), (2, .int (x2 + 1)), (0, .ref q_t), (1, .int x1)]) hx hb dX12_led_52 hl (k := 3) rfl rfl (by decide) rfl (fun ls hl => ?_)
          refine lv_goto (tgt := 9) hx hb dX12_led_55 (by decide) ?_
          exact ih (x2 + 1) (x3 + 1) _ _ _ hm hW (lv_sub hl [2, 3, 1, 0] rfl)
        · have hm := (if_pos c4).symm.trans hm
          refine lv_iload_n hx hb dX12_led_47 rfl (lv_at hl 3 rfl) ?_
          obtain rfl := Option.some.inj hm
          exact mx_iret X hW dX12_led_48
      · have hm := (if_neg c3).symm.trans hm
        refine lv_goto (tgt := 52) hx hb dX12_led_39 (by decide) ?_
        refine lv_iinc (v := x3 + 1) (lv' := [(3, .int (x3 + 1)), (0, .ref q_t), (1, .int x1), (2, .int x2)]) hx hb dX12_led_52 hl (k := 3) rfl rfl (by decide) rfl (fun ls hl => ?_)
        refine lv_goto (tgt := 9) hx hb dX12_led_55 (by decide) ?_
        exact ih x2 (x3 + 1) _ _ _ hm hW (lv_sub hl [1, 2, 3, 0] rfl)
set_option maxHeartbeats 4000000 in
set_option maxRecDepth 100000 in
theorem c_X12_led (l : Launch) (G : mx_G) (q_t : Nat) (q_t_river : Nat) (q_t_v : Nat) (v_t_trouble : Value) (v_t_where : Value) (v_t_read : Value) (v_t_tape : Value) (v_t_taped : Value) (v_t_size : Value) (v_t_spot : Value) (v_t_sort : Value) (v_t_place : Value) (v_t_number : Value) (v_t_fault : Value) (v_t_wrongAt : Value) (v_t_word : Value) (v_t_x : Value) (v_t_past : Value) (v_t_kept : Value) (v_t_acts : Value) (v_t_marks : Value) (v_t_width : Value) (v_t_water : Value) (v_t_depth : Value) (v_t_spill : Value) (v_t_below : Value) (v_t_fewest : Value) (v_t_shortest : Value) (v_t_shortestSum : Value) (v_t_many : Value) (v_t_changed : Value) (v_t_sets : Value) (v_t_some : Value) (v_t_each : Value) (v_t_fitDepth : Value) (v_t_askLeft : Value) (v_t_one : Value) (v_t_two : Value) (v_t_flooded : Value) (v_t_river_flow : Value) (v_t_river_tape : Value) (v_t_river_reaches : Value) (v_t_river_hands : Value) (v_t_river_boats : Value) (v_t_river_muds : Value) (v_t_river_loose : Value) (v_t_river_names : Value) (v_t_river_kind : Value) (v_t_river_wide : Value) (v_t_river_bank : Value) (v_t_river_mud : Value) (v_t_river_at : Value) (v_t_river_pulls : Value) (v_t_river_bears : Value) (v_t_river_strong : Value) (v_t_river_boatWide : Value) (v_t_river_boatDeep : Value) (v_t_river_name : Value) (v_t_river_nameSort : Value) (v_t_river_numberOf : Value) (t_thrown : Int32) (t_river_ropes : Int32) (t_v : Nat → Int32) (p1 : Int32) (out : Int32 × Int32) (hm : f_X12_led p1 t_thrown t_river_ropes t_v = some out) : mx_C l yX12_led cX12_led 4 (some .int) rm_X12_led G [.ref q_t, .int p1] [xO q_t 12 [.int t_thrown, v_t_trouble, v_t_where, .ref q_t_river, v_t_read, v_t_tape, v_t_taped, v_t_size, v_t_spot, v_t_sort, v_t_place, v_t_number, v_t_fault, v_t_wrongAt, v_t_word, .ref q_t_v, v_t_x, v_t_past, v_t_kept, v_t_acts, v_t_marks, v_t_width, v_t_water, v_t_depth, v_t_spill, v_t_below, v_t_fewest, v_t_shortest, v_t_shortestSum, v_t_many, v_t_changed, v_t_sets, v_t_some, v_t_each, v_t_fitDepth, v_t_askLeft, v_t_one, v_t_two, v_t_flooded], xO q_t_river 11 [v_t_river_flow, v_t_river_tape, v_t_river_reaches, .int t_river_ropes, v_t_river_hands, v_t_river_boats, v_t_river_muds, v_t_river_loose, v_t_river_names, v_t_river_kind, v_t_river_wide, v_t_river_bank, v_t_river_mud, v_t_river_at, v_t_river_pulls, v_t_river_bears, v_t_river_strong, v_t_river_boatWide, v_t_river_boatDeep, v_t_river_name, v_t_river_nameSort, v_t_river_numberOf], xI G q_t_v 16 t_v] (some (.int out.1)) [xO q_t 12 [.int out.2, v_t_trouble, v_t_where, .ref q_t_river, v_t_read, v_t_tape, v_t_taped, v_t_size, v_t_spot, v_t_sort, v_t_place, v_t_number, v_t_fault, v_t_wrongAt, v_t_word, .ref q_t_v, v_t_x, v_t_past, v_t_kept, v_t_acts, v_t_marks, v_t_width, v_t_water, v_t_depth, v_t_spill, v_t_below, v_t_fewest, v_t_shortest, v_t_shortestSum, v_t_many, v_t_changed, v_t_sets, v_t_some, v_t_each, v_t_fitDepth, v_t_askLeft, v_t_one, v_t_two, v_t_flooded], xO q_t_river 11 [v_t_river_flow, v_t_river_tape, v_t_river_reaches, .int t_river_ropes, v_t_river_hands, v_t_river_boats, v_t_river_muds, v_t_river_loose, v_t_river_names, v_t_river_kind, v_t_river_wide, v_t_river_bank, v_t_river_mud, v_t_river_at, v_t_river_pulls, v_t_river_bears, v_t_river_strong, v_t_river_boatWide, v_t_river_boatDeep, v_t_river_name, v_t_river_nameSort, v_t_river_numberOf], xI G q_t_v 16 t_v] := by
  refine mx_enter (own := RX12) (name := "led") (lv := [(0, .ref q_t), (1, .int p1)]) (by decide) rfl rfl (Nat.le_of_ble_eq_true rfl) rfl ?_
  intro p e s m args below meth c A ls X hW hl
  obtain ⟨hx, hb, hml, hown, hts, hKN, -⟩ := id X
  unfold f_X12_led at hm
  refine lv_aload_n hx hb dX12_led_0 rfl (lv_at hl 0 rfl) ?_
  refine lv_iconst (v := 0) hx hb dX12_led_1 (by decide) ?_
  refine mx_put (C := RX12) (T := TX12) (N := 39) (ci := 12) (w2 := [xO q_t 12 [.int 0, v_t_trouble, v_t_where, .ref q_t_river, v_t_read, v_t_tape, v_t_taped, v_t_size, v_t_spot, v_t_sort, v_t_place, v_t_number, v_t_fault, v_t_wrongAt, v_t_word, .ref q_t_v, v_t_x, v_t_past, v_t_kept, v_t_acts, v_t_marks, v_t_width, v_t_water, v_t_depth, v_t_spill, v_t_below, v_t_fewest, v_t_shortest, v_t_shortestSum, v_t_many, v_t_changed, v_t_sets, v_t_some, v_t_each, v_t_fitDepth, v_t_askLeft, v_t_one, v_t_two, v_t_flooded], xO q_t_river 11 [v_t_river_flow, v_t_river_tape, v_t_river_reaches, .int t_river_ropes, v_t_river_hands, v_t_river_boats, v_t_river_muds, v_t_river_loose, v_t_river_names, v_t_river_kind, v_t_river_wide, v_t_river_bank, v_t_river_mud, v_t_river_at, v_t_river_pulls, v_t_river_bears, v_t_river_strong, v_t_river_boatWide, v_t_river_boatDeep, v_t_river_name, v_t_river_nameSort, v_t_river_numberOf], xI G q_t_v 16 t_v]) X hW 0 rfl rfl tbc_X12 tyX12 tyX12_ok nmX12 0 (by decide) kw_159 rfl rfl rfl rfl (Nat.le_of_ble_eq_true rfl) rfl dX12_led_2 (fun H locs hW => ?_)
  refine lv_iconst (v := 0) hx hb dX12_led_5 (by decide) ?_
  refine lv_istore_n (lv' := [(2, .int 0), (0, .ref q_t), (1, .int p1)]) hx hb dX12_led_6 rfl hl (by decide) rfl (fun ls hl => ?_)
  refine lv_iconst (v := 0) hx hb dX12_led_7 (by decide) ?_
  refine lv_istore_n (lv' := [(3, .int 0), (2, .int 0), (0, .ref q_t), (1, .int p1)]) hx hb dX12_led_8 rfl hl (by decide) rfl (fun ls hl => ?_)
  refine w_X12_led_L9 X q_t q_t_river q_t_v (v_t_trouble) (v_t_where) (v_t_read) (v_t_tape) (v_t_taped) (v_t_size) (v_t_spot) (v_t_sort) (v_t_place) (v_t_number) (v_t_fault) (v_t_wrongAt) (v_t_word) (v_t_x) (v_t_past) (v_t_kept) (v_t_acts) (v_t_marks) (v_t_width) (v_t_water) (v_t_depth) (v_t_spill) (v_t_below) (v_t_fewest) (v_t_shortest) (v_t_shortestSum) (v_t_many) (v_t_changed) (v_t_sets) (v_t_some) (v_t_each) (v_t_fitDepth) (v_t_askLeft) (v_t_one) (v_t_two) (v_t_flooded) (v_t_river_flow) (v_t_river_tape) (v_t_river_reaches) (v_t_river_hands) (v_t_river_boats) (v_t_river_muds) (v_t_river_loose) (v_t_river_names) (v_t_river_kind) (v_t_river_wide) (v_t_river_bank) (v_t_river_mud) (v_t_river_at) (v_t_river_pulls) (v_t_river_bears) (v_t_river_strong) (v_t_river_boatWide) (v_t_river_boatDeep) (v_t_river_name) (v_t_river_nameSort) (v_t_river_numberOf) 0 t_river_ropes t_v p1 out _ (fun H locs ls hm hW hl => ?_) _ 0 0 _ _ _ hm hW (lv_sub hl [2, 3, 1, 0] rfl)
  refine lv_aload_n hx hb dX12_led_58 rfl (lv_at hl 0 rfl) ?_
  refine lv_iconst (v := 1) hx hb dX12_led_59 (by decide) ?_
  refine mx_put (C := RX12) (T := TX12) (N := 39) (ci := 12) (w2 := [xO q_t 12 [.int 1, v_t_trouble, v_t_where, .ref q_t_river, v_t_read, v_t_tape, v_t_taped, v_t_size, v_t_spot, v_t_sort, v_t_place, v_t_number, v_t_fault, v_t_wrongAt, v_t_word, .ref q_t_v, v_t_x, v_t_past, v_t_kept, v_t_acts, v_t_marks, v_t_width, v_t_water, v_t_depth, v_t_spill, v_t_below, v_t_fewest, v_t_shortest, v_t_shortestSum, v_t_many, v_t_changed, v_t_sets, v_t_some, v_t_each, v_t_fitDepth, v_t_askLeft, v_t_one, v_t_two, v_t_flooded], xO q_t_river 11 [v_t_river_flow, v_t_river_tape, v_t_river_reaches, .int t_river_ropes, v_t_river_hands, v_t_river_boats, v_t_river_muds, v_t_river_loose, v_t_river_names, v_t_river_kind, v_t_river_wide, v_t_river_bank, v_t_river_mud, v_t_river_at, v_t_river_pulls, v_t_river_bears, v_t_river_strong, v_t_river_boatWide, v_t_river_boatDeep, v_t_river_name, v_t_river_nameSort, v_t_river_numberOf], xI G q_t_v 16 t_v]) X hW 0 rfl rfl tbc_X12 tyX12 tyX12_ok nmX12 0 (by decide) kw_159 rfl rfl rfl rfl (Nat.le_of_ble_eq_true rfl) rfl dX12_led_60 (fun H locs hW => ?_)
  refine lv_iconst (v := 0) hx hb dX12_led_63 (by decide) ?_
  obtain rfl := Option.some.inj hm
  exact mx_iret X hW dX12_led_64

abbrev rm_X12_ledN : Room := { frames := 0, cells := 0, slots := 0, locals := 0 }
noncomputable def f_X12_ledN (p1 : Int32) (t_thrown : Int32) : Option (Int32 × Int32) :=
  some (0, 1)
set_option maxHeartbeats 4000000 in
set_option maxRecDepth 100000 in
theorem c_X12_ledN (l : Launch) (G : mx_G) (q_t : Nat) (v_t_trouble : Value) (v_t_where : Value) (v_t_read : Value) (v_t_tape : Value) (v_t_taped : Value) (v_t_size : Value) (v_t_spot : Value) (v_t_sort : Value) (v_t_place : Value) (v_t_number : Value) (v_t_fault : Value) (v_t_wrongAt : Value) (v_t_word : Value) (v_t_v : Value) (v_t_x : Value) (v_t_past : Value) (v_t_kept : Value) (v_t_acts : Value) (v_t_marks : Value) (v_t_width : Value) (v_t_water : Value) (v_t_depth : Value) (v_t_spill : Value) (v_t_below : Value) (v_t_fewest : Value) (v_t_shortest : Value) (v_t_shortestSum : Value) (v_t_many : Value) (v_t_changed : Value) (v_t_sets : Value) (v_t_some : Value) (v_t_each : Value) (v_t_fitDepth : Value) (v_t_askLeft : Value) (v_t_one : Value) (v_t_two : Value) (v_t_flooded : Value) (t_thrown : Int32) (p1 : Int32) (out : Int32 × Int32) (hm : f_X12_ledN p1 t_thrown = some out) : mx_C l yX12_led cX12_led 4 (some .int) rm_X12_ledN G [.ref q_t, .int p1] [xO q_t 12 [.int t_thrown, v_t_trouble, v_t_where, .null, v_t_read, v_t_tape, v_t_taped, v_t_size, v_t_spot, v_t_sort, v_t_place, v_t_number, v_t_fault, v_t_wrongAt, v_t_word, v_t_v, v_t_x, v_t_past, v_t_kept, v_t_acts, v_t_marks, v_t_width, v_t_water, v_t_depth, v_t_spill, v_t_below, v_t_fewest, v_t_shortest, v_t_shortestSum, v_t_many, v_t_changed, v_t_sets, v_t_some, v_t_each, v_t_fitDepth, v_t_askLeft, v_t_one, v_t_two, v_t_flooded]] (some (.int out.1)) [xO q_t 12 [.int out.2, v_t_trouble, v_t_where, .null, v_t_read, v_t_tape, v_t_taped, v_t_size, v_t_spot, v_t_sort, v_t_place, v_t_number, v_t_fault, v_t_wrongAt, v_t_word, v_t_v, v_t_x, v_t_past, v_t_kept, v_t_acts, v_t_marks, v_t_width, v_t_water, v_t_depth, v_t_spill, v_t_below, v_t_fewest, v_t_shortest, v_t_shortestSum, v_t_many, v_t_changed, v_t_sets, v_t_some, v_t_each, v_t_fitDepth, v_t_askLeft, v_t_one, v_t_two, v_t_flooded]] := by
  refine mx_enter (own := RX12) (name := "led") (lv := [(0, .ref q_t), (1, .int p1)]) (by decide) rfl rfl (Nat.le_of_ble_eq_true rfl) rfl ?_
  intro p e s m args below meth c A ls X hW hl
  obtain ⟨hx, hb, hml, hown, hts, hKN, -⟩ := id X
  unfold f_X12_ledN at hm
  refine lv_aload_n hx hb dX12_led_0 rfl (lv_at hl 0 rfl) ?_
  refine lv_iconst (v := 0) hx hb dX12_led_1 (by decide) ?_
  refine mx_put (C := RX12) (T := TX12) (N := 39) (ci := 12) (w2 := [xO q_t 12 [.int 0, v_t_trouble, v_t_where, .null, v_t_read, v_t_tape, v_t_taped, v_t_size, v_t_spot, v_t_sort, v_t_place, v_t_number, v_t_fault, v_t_wrongAt, v_t_word, v_t_v, v_t_x, v_t_past, v_t_kept, v_t_acts, v_t_marks, v_t_width, v_t_water, v_t_depth, v_t_spill, v_t_below, v_t_fewest, v_t_shortest, v_t_shortestSum, v_t_many, v_t_changed, v_t_sets, v_t_some, v_t_each, v_t_fitDepth, v_t_askLeft, v_t_one, v_t_two, v_t_flooded]]) X hW 0 rfl rfl tbc_X12 tyX12 tyX12_ok nmX12 0 (by decide) kw_159 rfl rfl rfl rfl (Nat.le_of_ble_eq_true rfl) rfl dX12_led_2 (fun H locs hW => ?_)
  refine lv_iconst (v := 0) hx hb dX12_led_5 (by decide) ?_
  refine lv_istore_n (lv' := [(2, .int 0), (0, .ref q_t), (1, .int p1)]) hx hb dX12_led_6 rfl hl (by decide) rfl (fun ls hl => ?_)
  refine lv_iconst (v := 0) hx hb dX12_led_7 (by decide) ?_
  refine lv_istore_n (lv' := [(3, .int 0), (2, .int 0), (0, .ref q_t), (1, .int p1)]) hx hb dX12_led_8 rfl hl (by decide) rfl (fun ls hl => ?_)
  refine lv_aload_n hx hb dX12_led_9 rfl (lv_at hl 2 rfl) ?_
  refine mx_get (C := RX12) (T := TX12) (N := 39) (ci := 12) X hW 0 rfl rfl tbc_X12 3 (by decide) kw_363 rfl dX12_led_10 ?_
  refine lv_ifnullN (tgt := 58) hx hb dX12_led_13 (by decide) ?_
  refine lv_aload_n hx hb dX12_led_58 rfl (lv_at hl 2 rfl) ?_
  refine lv_iconst (v := 1) hx hb dX12_led_59 (by decide) ?_
  refine mx_put (C := RX12) (T := TX12) (N := 39) (ci := 12) (w2 := [xO q_t 12 [.int 1, v_t_trouble, v_t_where, .null, v_t_read, v_t_tape, v_t_taped, v_t_size, v_t_spot, v_t_sort, v_t_place, v_t_number, v_t_fault, v_t_wrongAt, v_t_word, v_t_v, v_t_x, v_t_past, v_t_kept, v_t_acts, v_t_marks, v_t_width, v_t_water, v_t_depth, v_t_spill, v_t_below, v_t_fewest, v_t_shortest, v_t_shortestSum, v_t_many, v_t_changed, v_t_sets, v_t_some, v_t_each, v_t_fitDepth, v_t_askLeft, v_t_one, v_t_two, v_t_flooded]]) X hW 0 rfl rfl tbc_X12 tyX12 tyX12_ok nmX12 0 (by decide) kw_159 rfl rfl rfl rfl (Nat.le_of_ble_eq_true rfl) rfl dX12_led_60 (fun H locs hW => ?_)
  refine lv_iconst (v := 0) hx hb dX12_led_63 (by decide) ?_
  obtain rfl := Option.some.inj hm
  exact mx_iret X hW dX12_led_64

abbrev rm_X12_size : Room := { frames := 1, cells := 0, slots := 0, locals := 22 }
noncomputable def f_X12_size (p1 : Int32) (t_thrown : Int32) (t_river_flow : Int32) (t_river_tape : Int32) (t_river_reaches : Int32) (t_river_ropes : Int32) (t_river_hands : Int32) (t_river_boats : Int32) (t_river_muds : Int32) (t_taped : Int32) (t_v : Nat → Int32) (t_acts : Int32) (t_marks : Int32) : Option (Int32 × Int32) :=
  (if p1 = 11 then
    some (t_taped, 0)
  else
    (f_X12_in p1 0 10).bind fun o2 => (if o2 = 0 then
      some ((-1), 0)
    else
      
    (if p1 = 0 then
      some (t_river_flow, 0)
    else (if p1 = 1 then
      some (t_river_tape, 0)
    else (if p1 = 2 then
      some (t_river_reaches, 0)
    else (if p1 = 3 then
      some (t_river_ropes, 0)
    else (if p1 = 4 then
      some (t_river_hands, 0)
    else (if p1 = 5 then
      some (t_river_boats, 0)
    else (if p1 = 6 then
      some (t_river_muds, 0)
    else (if p1 = 7 then
      gd (inb 14 16) <| some (t_v (14 : Int32).toNatClampNeg, 0)
    else (if p1 = 8 then
      gd (inb 15 16) <| some (t_v (15 : Int32).toNatClampNeg, 0)
    else (if p1 = 9 then
      some (t_acts, 0)
    else 
      some (t_marks, 0)))))))))))))
set_option maxHeartbeats 4000000 in
set_option maxRecDepth 100000 in
theorem c_X12_size (l : Launch) (G : mx_G) (q_t : Nat) (q_t_river : Nat) (q_t_v : Nat) (v_t_trouble : Value) (v_t_where : Value) (v_t_read : Value) (v_t_tape : Value) (v_t_size : Value) (v_t_spot : Value) (v_t_sort : Value) (v_t_place : Value) (v_t_number : Value) (v_t_fault : Value) (v_t_wrongAt : Value) (v_t_word : Value) (v_t_x : Value) (v_t_past : Value) (v_t_kept : Value) (v_t_width : Value) (v_t_water : Value) (v_t_depth : Value) (v_t_spill : Value) (v_t_below : Value) (v_t_fewest : Value) (v_t_shortest : Value) (v_t_shortestSum : Value) (v_t_many : Value) (v_t_changed : Value) (v_t_sets : Value) (v_t_some : Value) (v_t_each : Value) (v_t_fitDepth : Value) (v_t_askLeft : Value) (v_t_one : Value) (v_t_two : Value) (v_t_flooded : Value) (v_t_river_loose : Value) (v_t_river_names : Value) (v_t_river_kind : Value) (v_t_river_wide : Value) (v_t_river_bank : Value) (v_t_river_mud : Value) (v_t_river_at : Value) (v_t_river_pulls : Value) (v_t_river_bears : Value) (v_t_river_strong : Value) (v_t_river_boatWide : Value) (v_t_river_boatDeep : Value) (v_t_river_name : Value) (v_t_river_nameSort : Value) (v_t_river_numberOf : Value) (t_thrown : Int32) (t_river_flow : Int32) (t_river_tape : Int32) (t_river_reaches : Int32) (t_river_ropes : Int32) (t_river_hands : Int32) (t_river_boats : Int32) (t_river_muds : Int32) (t_taped : Int32) (t_v : Nat → Int32) (t_acts : Int32) (t_marks : Int32) (p1 : Int32) (out : Int32 × Int32) (hm : f_X12_size p1 t_thrown t_river_flow t_river_tape t_river_reaches t_river_ropes t_river_hands t_river_boats t_river_muds t_taped t_v t_acts t_marks = some out) : mx_C l yX12_size cX12_size 2 (some .int) rm_X12_size G [.ref q_t, .int p1] [xO q_t 12 [.int t_thrown, v_t_trouble, v_t_where, .ref q_t_river, v_t_read, v_t_tape, .int t_taped, v_t_size, v_t_spot, v_t_sort, v_t_place, v_t_number, v_t_fault, v_t_wrongAt, v_t_word, .ref q_t_v, v_t_x, v_t_past, v_t_kept, .int t_acts, .int t_marks, v_t_width, v_t_water, v_t_depth, v_t_spill, v_t_below, v_t_fewest, v_t_shortest, v_t_shortestSum, v_t_many, v_t_changed, v_t_sets, v_t_some, v_t_each, v_t_fitDepth, v_t_askLeft, v_t_one, v_t_two, v_t_flooded], xO q_t_river 11 [.int t_river_flow, .int t_river_tape, .int t_river_reaches, .int t_river_ropes, .int t_river_hands, .int t_river_boats, .int t_river_muds, v_t_river_loose, v_t_river_names, v_t_river_kind, v_t_river_wide, v_t_river_bank, v_t_river_mud, v_t_river_at, v_t_river_pulls, v_t_river_bears, v_t_river_strong, v_t_river_boatWide, v_t_river_boatDeep, v_t_river_name, v_t_river_nameSort, v_t_river_numberOf], xI G q_t_v 16 t_v] (some (.int out.1)) [xO q_t 12 [.int out.2, v_t_trouble, v_t_where, .ref q_t_river, v_t_read, v_t_tape, .int t_taped, v_t_size, v_t_spot, v_t_sort, v_t_place, v_t_number, v_t_fault, v_t_wrongAt, v_t_word, .ref q_t_v, v_t_x, v_t_past, v_t_kept, .int t_acts, .int t_marks, v_t_width, v_t_water, v_t_depth, v_t_spill, v_t_below, v_t_fewest, v_t_shortest, v_t_shortestSum, v_t_many, v_t_changed, v_t_sets, v_t_some, v_t_each, v_t_fitDepth, v_t_askLeft, v_t_one, v_t_two, v_t_flooded], xO q_t_river 11 [.int t_river_flow, .int t_river_tape, .int t_river_reaches, .int t_river_ropes, .int t_river_hands, .int t_river_boats, .int t_river_muds, v_t_river_loose, v_t_river_names, v_t_river_kind, v_t_river_wide, v_t_river_bank, v_t_river_mud, v_t_river_at, v_t_river_pulls, v_t_river_bears, v_t_river_strong, v_t_river_boatWide, v_t_river_boatDeep, v_t_river_name, v_t_river_nameSort, v_t_river_numberOf], xI G q_t_v 16 t_v] := by
  refine mx_enter (own := RX12) (name := "size") (lv := [(0, .ref q_t), (1, .int p1)]) (by decide) rfl rfl (Nat.le_of_ble_eq_true rfl) rfl ?_
  intro p e s m args below meth c A ls X hW hl
  obtain ⟨hx, hb, hml, hown, hts, hKN, -⟩ := id X
  unfold f_X12_size at hm
  refine lv_aload_n hx hb dX12_size_0 rfl (lv_at hl 0 rfl) ?_
  refine lv_iconst (v := 0) hx hb dX12_size_1 (by decide) ?_
  refine mx_put (C := RX12) (T := TX12) (N := 39) (ci := 12) (w2 := [xO q_t 12 [.int 0, v_t_trouble, v_t_where, .ref q_t_river, v_t_read, v_t_tape, .int t_taped, v_t_size, v_t_spot, v_t_sort, v_t_place, v_t_number, v_t_fault, v_t_wrongAt, v_t_word, .ref q_t_v, v_t_x, v_t_past, v_t_kept, .int t_acts, .int t_marks, v_t_width, v_t_water, v_t_depth, v_t_spill, v_t_below, v_t_fewest, v_t_shortest, v_t_shortestSum, v_t_many, v_t_changed, v_t_sets, v_t_some, v_t_each, v_t_fitDepth, v_t_askLeft, v_t_one, v_t_two, v_t_flooded], xO q_t_river 11 [.int t_river_flow, .int t_river_tape, .int t_river_reaches, .int t_river_ropes, .int t_river_hands, .int t_river_boats, .int t_river_muds, v_t_river_loose, v_t_river_names, v_t_river_kind, v_t_river_wide, v_t_river_bank, v_t_river_mud, v_t_river_at, v_t_river_pulls, v_t_river_bears, v_t_river_strong, v_t_river_boatWide, v_t_river_boatDeep, v_t_river_name, v_t_river_nameSort, v_t_river_numberOf], xI G q_t_v 16 t_v]) X hW 0 rfl rfl tbc_X12 tyX12 tyX12_ok nmX12 0 (by decide) kw_159 rfl rfl rfl rfl (Nat.le_of_ble_eq_true rfl) rfl dX12_size_2 (fun H locs hW => ?_)
  refine lv_iload_n hx hb dX12_size_5 rfl (lv_at hl 1 rfl) ?_
  refine lv_bipush (v := 11) hx hb dX12_size_6 (by decide) ?_
  refine lv_icmp_ne (tgt := 16) hx hb dX12_size_8 (by decide) (fun c1 => ?_) (fun c1 => ?_)
  · have hm := (if_neg c1).symm.trans hm
    refine lv_iload_n hx hb dX12_size_16 rfl (lv_at hl 1 rfl) ?_
    refine lv_iconst (v := 0) hx hb dX12_size_17 (by decide) ?_
    refine lv_bipush (v := 10) hx hb dX12_size_18 (by decide) ?_
    obtain ⟨o2, ho2, hm⟩ := bd_s hm
    refine mx_callS (n := 3) (As := [.int p1, .int 0, .int 10]) (rest := []) (st1 := [.int o2]) (w2 := [xO q_t 12 [.int 0, v_t_trouble, v_t_where, .ref q_t_river, v_t_read, v_t_tape, .int t_taped, v_t_size, v_t_spot, v_t_sort, v_t_place, v_t_number, v_t_fault, v_t_wrongAt, v_t_word, .ref q_t_v, v_t_x, v_t_past, v_t_kept, .int t_acts, .int t_marks, v_t_width, v_t_water, v_t_depth, v_t_spill, v_t_below, v_t_fewest, v_t_shortest, v_t_shortestSum, v_t_many, v_t_changed, v_t_sets, v_t_some, v_t_each, v_t_fitDepth, v_t_askLeft, v_t_one, v_t_two, v_t_flooded], xO q_t_river 11 [.int t_river_flow, .int t_river_tape, .int t_river_reaches, .int t_river_ropes, .int t_river_hands, .int t_river_boats, .int t_river_muds, v_t_river_loose, v_t_river_names, v_t_river_kind, v_t_river_wide, v_t_river_bank, v_t_river_mud, v_t_river_at, v_t_river_pulls, v_t_river_bears, v_t_river_strong, v_t_river_boatWide, v_t_river_boatDeep, v_t_river_name, v_t_river_nameSort, v_t_river_numberOf], xI G q_t_v 16 t_v]) X hW hl.1 (c_X12_in l G p1 0 10 o2 ho2) kw_488 kw_489 kw_5 kw_490 (by decide +kernel) ⟨rfl, rfl⟩ ⟨by decide, by decide⟩ ⟨Nat.zero_le _, Nat.zero_le _⟩ [] (by decide) rfl rfl rfl rfl rfl rfl (Nat.le_of_ble_eq_true rfl) rfl dX12_size_20 (fun H locs hW => ?_)
    refine lv_if_ne (tgt := 28) hx hb dX12_size_23 (by decide) (fun c3 => ?_) (fun c3 => ?_)
    · have hm := (if_neg c3).symm.trans hm
      refine lv_aload_n hx hb dX12_size_28 rfl (lv_at hl 0 rfl) ?_
      refine mx_get (C := RX12) (T := TX12) (N := 39) (ci := 12) X hW 0 rfl rfl tbc_X12 3 (by decide) kw_363 rfl dX12_size_29 ?_
      refine lv_ifnonnull (tgt := 37) hx hb dX12_size_32 (by decide) ?_
      refine lv_iload_n hx hb dX12_size_37 rfl (lv_at hl 1 rfl) ?_
      by_cases c4 : p1 = 0
      · have hm := (if_pos c4).symm.trans hm
        refine lv_tableIn (off := 54) (tgt := 92) hx hb dX12_size_38 (by rw [c4]; decide) (by rw [c4]; decide) (by rw [c4]; rfl) (by decide) ?_
        refine lv_aload_n hx hb dX12_size_92 rfl (lv_at hl 0 rfl) ?_
        refine mx_get (C := RX12) (T := TX12) (N := 39) (ci := 12) X hW 0 rfl rfl tbc_X12 3 (by decide) kw_363 rfl dX12_size_93 ?_
        refine mx_getN (C := RX11) (T := TX11) (N := 22) (ci := 11) X hW 1 rfl rfl tbc_X11 0 (by decide) kn_23 rfl dX12_size_96 ?_
        obtain rfl := Option.some.inj hm
        exact mx_iret X hW dX12_size_99
      have hm := (if_neg c4).symm.trans hm
      by_cases c5 : p1 = 1
      · have hm := (if_pos c5).symm.trans hm
        refine lv_tableIn (off := 62) (tgt := 100) hx hb dX12_size_38 (by rw [c5]; decide) (by rw [c5]; decide) (by rw [c5]; rfl) (by decide) ?_
        refine lv_aload_n hx hb dX12_size_100 rfl (lv_at hl 0 rfl) ?_
        refine mx_get (C := RX12) (T := TX12) (N := 39) (ci := 12) X hW 0 rfl rfl tbc_X12 3 (by decide) kw_363 rfl dX12_size_101 ?_
        refine mx_getN (C := RX11) (T := TX11) (N := 22) (ci := 11) X hW 1 rfl rfl tbc_X11 1 (by decide) kn_24 rfl dX12_size_104 ?_
        obtain rfl := Option.some.inj hm
        exact mx_iret X hW dX12_size_107
      have hm := (if_neg c5).symm.trans hm
      by_cases c6 : p1 = 2
      · have hm := (if_pos c6).symm.trans hm
        refine lv_tableIn (off := 70) (tgt := 108) hx hb dX12_size_38 (by rw [c6]; decide) (by rw [c6]; decide) (by rw [c6]; rfl) (by decide) ?_
        refine lv_aload_n hx hb dX12_size_108 rfl (lv_at hl 0 rfl) ?_
        refine mx_get (C := RX12) (T := TX12) (N := 39) (ci := 12) X hW 0 rfl rfl tbc_X12 3 (by decide) kw_363 rfl dX12_size_109 ?_
        refine mx_getN (C := RX11) (T := TX11) (N := 22) (ci := 11) X hW 1 rfl rfl tbc_X11 2 (by decide) kn_25 rfl dX12_size_112 ?_
        obtain rfl := Option.some.inj hm
        exact mx_iret X hW dX12_size_115
      have hm := (if_neg c6).symm.trans hm
      by_cases c7 : p1 = 3
      · have hm := (if_pos c7).symm.trans hm
        refine lv_tableIn (off := 78) (tgt := 116) hx hb dX12_size_38 (by rw [c7]; decide) (by rw [c7]; decide) (by rw [c7]; rfl) (by decide) ?_
        refine lv_aload_n hx hb dX12_size_116 rfl (lv_at hl 0 rfl) ?_
        refine mx_get (C := RX12) (T := TX12) (N := 39) (ci := 12) X hW 0 rfl rfl tbc_X12 3 (by decide) kw_363 rfl dX12_size_117 ?_
        refine mx_getN (C := RX11) (T := TX11) (N := 22) (ci := 11) X hW 1 rfl rfl tbc_X11 3 (by decide) kn_26 rfl dX12_size_120 ?_
        obtain rfl := Option.some.inj hm
        exact mx_iret X hW dX12_size_123
      have hm := (if_neg c7).symm.trans hm
      by_cases c8 : p1 = 4
      · have hm := (if_pos c8).symm.trans hm
        refine lv_tableIn (off := 86) (tgt := 124) hx hb dX12_size_38 (by rw [c8]; decide) (by rw [c8]; decide) (by rw [c8]; rfl) (by decide) ?_
        refine lv_aload_n hx hb dX12_size_124 rfl (lv_at hl 0 rfl) ?_
        refine mx_get (C := RX12) (T := TX12) (N := 39) (ci := 12) X hW 0 rfl rfl tbc_X12 3 (by decide) kw_363 rfl dX12_size_125 ?_
        refine mx_getN (C := RX11) (T := TX11) (N := 22) (ci := 11) X hW 1 rfl rfl tbc_X11 4 (by decide) kn_27 rfl dX12_size_128 ?_
        obtain rfl := Option.some.inj hm
        exact mx_iret X hW dX12_size_131
      have hm := (if_neg c8).symm.trans hm
      by_cases c9 : p1 = 5
      · have hm := (if_pos c9).symm.trans hm
        refine lv_tableIn (off := 94) (tgt := 132) hx hb dX12_size_38 (by rw [c9]; decide) (by rw [c9]; decide) (by rw [c9]; rfl) (by decide) ?_
        refine lv_aload_n hx hb dX12_size_132 rfl (lv_at hl 0 rfl) ?_
        refine mx_get (C := RX12) (T := TX12) (N := 39) (ci := 12) X hW 0 rfl rfl tbc_X12 3 (by decide) kw_363 rfl dX12_size_133 ?_
        refine mx_getN (C := RX11) (T := TX11) (N := 22) (ci := 11) X hW 1 rfl rfl tbc_X11 5 (by decide) kn_28 rfl dX12_size_136 ?_
        obtain rfl := Option.some.inj hm
        exact mx_iret X hW dX12_size_139
      have hm := (if_neg c9).symm.trans hm
      by_cases c10 : p1 = 6
      · have hm := (if_pos c10).symm.trans hm
        refine lv_tableIn (off := 102) (tgt := 140) hx hb dX12_size_38 (by rw [c10]; decide) (by rw [c10]; decide) (by rw [c10]; rfl) (by decide) ?_
        refine lv_aload_n hx hb dX12_size_140 rfl (lv_at hl 0 rfl) ?_
        refine mx_get (C := RX12) (T := TX12) (N := 39) (ci := 12) X hW 0 rfl rfl tbc_X12 3 (by decide) kw_363 rfl dX12_size_141 ?_
        refine mx_getN (C := RX11) (T := TX11) (N := 22) (ci := 11) X hW 1 rfl rfl tbc_X11 6 (by decide) kn_29 rfl dX12_size_144 ?_
        obtain rfl := Option.some.inj hm
        exact mx_iret X hW dX12_size_147
      have hm := (if_neg c10).symm.trans hm
      by_cases c11 : p1 = 7
      · have hm := (if_pos c11).symm.trans hm
        refine lv_tableIn (off := 110) (tgt := 148) hx hb dX12_size_38 (by rw [c11]; decide) (by rw [c11]; decide) (by rw [c11]; rfl) (by decide) ?_
        refine lv_aload_n hx hb dX12_size_148 rfl (lv_at hl 0 rfl) ?_
        refine mx_get (C := RX12) (T := TX12) (N := 39) (ci := 12) X hW 0 rfl rfl tbc_X12 15 (by decide) kw_134 rfl dX12_size_149 ?_
        refine lv_bipush (v := 14) hx hb dX12_size_152 (by decide) ?_
        obtain ⟨hg12, hm⟩ := gd_s hm
        refine mx_iald X hW 2 rfl (inb_s hg12) dX12_size_154 ?_
        obtain rfl := Option.some.inj hm
        exact mx_iret X hW dX12_size_155
      have hm := (if_neg c11).symm.trans hm
      by_cases c13 : p1 = 8
      · have hm := (if_pos c13).symm.trans hm
        refine lv_tableIn (off := 118) (tgt := 156) hx hb dX12_size_38 (by rw [c13]; decide) (by rw [c13]; decide) (by rw [c13]; rfl) (by decide) ?_
        refine lv_aload_n hx hb dX12_size_156 rfl (lv_at hl 0 rfl) ?_
        refine mx_get (C := RX12) (T := TX12) (N := 39) (ci := 12) X hW 0 rfl rfl tbc_X12 15 (by decide) kw_134 rfl dX12_size_157 ?_
        refine lv_bipush (v := 15) hx hb dX12_size_160 (by decide) ?_
        obtain ⟨hg14, hm⟩ := gd_s hm
        refine mx_iald X hW 2 rfl (inb_s hg14) dX12_size_162 ?_
        obtain rfl := Option.some.inj hm
        exact mx_iret X hW dX12_size_163
      have hm := (if_neg c13).symm.trans hm
      by_cases c15 : p1 = 9
      · have hm := (if_pos c15).symm.trans hm
        refine lv_tableIn (off := 126) (tgt := 164) hx hb dX12_size_38 (by rw [c15]; decide) (by rw [c15]; decide) (by rw [c15]; rfl) (by decide) ?_
        refine lv_aload_n hx hb dX12_size_164 rfl (lv_at hl 0 rfl) ?_
        refine mx_get (C := RX12) (T := TX12) (N := 39) (ci := 12) X hW 0 rfl rfl tbc_X12 19 (by decide) kw_364 rfl dX12_size_165 ?_
        obtain rfl := Option.some.inj hm
        exact mx_iret X hW dX12_size_168
      have hm := (if_neg c15).symm.trans hm
      have tc4 := ne_i (k := 0) (n := 0) rfl c4
      have tc5 := ne_i (k := 1) (n := 1) rfl c5
      have tc6 := ne_i (k := 2) (n := 2) rfl c6
      have tc7 := ne_i (k := 3) (n := 3) rfl c7
      have tc8 := ne_i (k := 4) (n := 4) rfl c8
      have tc9 := ne_i (k := 5) (n := 5) rfl c9
      have tc10 := ne_i (k := 6) (n := 6) rfl c10
      have tc11 := ne_i (k := 7) (n := 7) rfl c11
      have tc13 := ne_i (k := 8) (n := 8) rfl c13
      have tc15 := ne_i (k := 9) (n := 9) rfl c15
      refine lv_tableOut (tgt := 169) hx hb dX12_size_38 (by omega) (by decide) ?_
      refine lv_aload_n hx hb dX12_size_169 rfl (lv_at hl 0 rfl) ?_
      refine mx_get (C := RX12) (T := TX12) (N := 39) (ci := 12) X hW 0 rfl rfl tbc_X12 20 (by decide) kw_365 rfl dX12_size_170 ?_
      obtain rfl := Option.some.inj hm
      exact mx_iret X hW dX12_size_173
    · have hm := (if_pos c3).symm.trans hm
      refine lv_iconst (v := (-1)) hx hb dX12_size_26 (by decide) ?_
      obtain rfl := Option.some.inj hm
      exact mx_iret X hW dX12_size_27
  · have hm := (if_pos c1).symm.trans hm
    refine lv_aload_n hx hb dX12_size_11 rfl (lv_at hl 0 rfl) ?_
    refine mx_get (C := RX12) (T := TX12) (N := 39) (ci := 12) X hW 0 rfl rfl tbc_X12 6 (by decide) kw_160 rfl dX12_size_12 ?_
    obtain rfl := Option.some.inj hm
    exact mx_iret X hW dX12_size_15

abbrev rm_X12_sizeN : Room := { frames := 1, cells := 0, slots := 0, locals := 22 }
noncomputable def f_X12_sizeN (p1 : Int32) (t_thrown : Int32) (t_taped : Int32) : Option (Int32 × Int32) :=
  (if p1 = 11 then
    some (t_taped, 0)
  else
    (f_X12_in p1 0 10).bind fun o2 => (if o2 = 0 then
      some ((-1), 0)
    else
      some (0, 0)))
set_option maxHeartbeats 4000000 in
set_option maxRecDepth 100000 in
theorem c_X12_sizeN (l : Launch) (G : mx_G) (q_t : Nat) (v_t_trouble : Value) (v_t_where : Value) (v_t_read : Value) (v_t_tape : Value) (v_t_size : Value) (v_t_spot : Value) (v_t_sort : Value) (v_t_place : Value) (v_t_number : Value) (v_t_fault : Value) (v_t_wrongAt : Value) (v_t_word : Value) (v_t_v : Value) (v_t_x : Value) (v_t_past : Value) (v_t_kept : Value) (v_t_acts : Value) (v_t_marks : Value) (v_t_width : Value) (v_t_water : Value) (v_t_depth : Value) (v_t_spill : Value) (v_t_below : Value) (v_t_fewest : Value) (v_t_shortest : Value) (v_t_shortestSum : Value) (v_t_many : Value) (v_t_changed : Value) (v_t_sets : Value) (v_t_some : Value) (v_t_each : Value) (v_t_fitDepth : Value) (v_t_askLeft : Value) (v_t_one : Value) (v_t_two : Value) (v_t_flooded : Value) (t_thrown : Int32) (t_taped : Int32) (p1 : Int32) (out : Int32 × Int32) (hm : f_X12_sizeN p1 t_thrown t_taped = some out) : mx_C l yX12_size cX12_size 2 (some .int) rm_X12_sizeN G [.ref q_t, .int p1] [xO q_t 12 [.int t_thrown, v_t_trouble, v_t_where, .null, v_t_read, v_t_tape, .int t_taped, v_t_size, v_t_spot, v_t_sort, v_t_place, v_t_number, v_t_fault, v_t_wrongAt, v_t_word, v_t_v, v_t_x, v_t_past, v_t_kept, v_t_acts, v_t_marks, v_t_width, v_t_water, v_t_depth, v_t_spill, v_t_below, v_t_fewest, v_t_shortest, v_t_shortestSum, v_t_many, v_t_changed, v_t_sets, v_t_some, v_t_each, v_t_fitDepth, v_t_askLeft, v_t_one, v_t_two, v_t_flooded]] (some (.int out.1)) [xO q_t 12 [.int out.2, v_t_trouble, v_t_where, .null, v_t_read, v_t_tape, .int t_taped, v_t_size, v_t_spot, v_t_sort, v_t_place, v_t_number, v_t_fault, v_t_wrongAt, v_t_word, v_t_v, v_t_x, v_t_past, v_t_kept, v_t_acts, v_t_marks, v_t_width, v_t_water, v_t_depth, v_t_spill, v_t_below, v_t_fewest, v_t_shortest, v_t_shortestSum, v_t_many, v_t_changed, v_t_sets, v_t_some, v_t_each, v_t_fitDepth, v_t_askLeft, v_t_one, v_t_two, v_t_flooded]] := by
  refine mx_enter (own := RX12) (name := "size") (lv := [(0, .ref q_t), (1, .int p1)]) (by decide) rfl rfl (Nat.le_of_ble_eq_true rfl) rfl ?_
  intro p e s m args below meth c A ls X hW hl
  obtain ⟨hx, hb, hml, hown, hts, hKN, -⟩ := id X
  unfold f_X12_sizeN at hm
  refine lv_aload_n hx hb dX12_size_0 rfl (lv_at hl 0 rfl) ?_
  refine lv_iconst (v := 0) hx hb dX12_size_1 (by decide) ?_
  refine mx_put (C := RX12) (T := TX12) (N := 39) (ci := 12) (w2 := [xO q_t 12 [.int 0, v_t_trouble, v_t_where, .null, v_t_read, v_t_tape, .int t_taped, v_t_size, v_t_spot, v_t_sort, v_t_place, v_t_number, v_t_fault, v_t_wrongAt, v_t_word, v_t_v, v_t_x, v_t_past, v_t_kept, v_t_acts, v_t_marks, v_t_width, v_t_water, v_t_depth, v_t_spill, v_t_below, v_t_fewest, v_t_shortest, v_t_shortestSum, v_t_many, v_t_changed, v_t_sets, v_t_some, v_t_each, v_t_fitDepth, v_t_askLeft, v_t_one, v_t_two, v_t_flooded]]) X hW 0 rfl rfl tbc_X12 tyX12 tyX12_ok nmX12 0 (by decide) kw_159 rfl rfl rfl rfl (Nat.le_of_ble_eq_true rfl) rfl dX12_size_2 (fun H locs hW => ?_)
  refine lv_iload_n hx hb dX12_size_5 rfl (lv_at hl 1 rfl) ?_
  refine lv_bipush (v := 11) hx hb dX12_size_6 (by decide) ?_
  refine lv_icmp_ne (tgt := 16) hx hb dX12_size_8 (by decide) (fun c1 => ?_) (fun c1 => ?_)
  · have hm := (if_neg c1).symm.trans hm
    refine lv_iload_n hx hb dX12_size_16 rfl (lv_at hl 1 rfl) ?_
    refine lv_iconst (v := 0) hx hb dX12_size_17 (by decide) ?_
    refine lv_bipush (v := 10) hx hb dX12_size_18 (by decide) ?_
    obtain ⟨o2, ho2, hm⟩ := bd_s hm
    refine mx_callS (n := 3) (As := [.int p1, .int 0, .int 10]) (rest := []) (st1 := [.int o2]) (w2 := [xO q_t 12 [.int 0, v_t_trouble, v_t_where, .null, v_t_read, v_t_tape, .int t_taped, v_t_size, v_t_spot, v_t_sort, v_t_place, v_t_number, v_t_fault, v_t_wrongAt, v_t_word, v_t_v, v_t_x, v_t_past, v_t_kept, v_t_acts, v_t_marks, v_t_width, v_t_water, v_t_depth, v_t_spill, v_t_below, v_t_fewest, v_t_shortest, v_t_shortestSum, v_t_many, v_t_changed, v_t_sets, v_t_some, v_t_each, v_t_fitDepth, v_t_askLeft, v_t_one, v_t_two, v_t_flooded]]) X hW hl.1 (c_X12_in l G p1 0 10 o2 ho2) kw_488 kw_489 kw_5 kw_490 (by decide +kernel) ⟨rfl, rfl⟩ ⟨by decide, by decide⟩ ⟨Nat.zero_le _, Nat.zero_le _⟩ [] (by decide) rfl rfl rfl rfl rfl rfl (Nat.le_of_ble_eq_true rfl) rfl dX12_size_20 (fun H locs hW => ?_)
    refine lv_if_ne (tgt := 28) hx hb dX12_size_23 (by decide) (fun c3 => ?_) (fun c3 => ?_)
    · have hm := (if_neg c3).symm.trans hm
      refine lv_aload_n hx hb dX12_size_28 rfl (lv_at hl 0 rfl) ?_
      refine mx_get (C := RX12) (T := TX12) (N := 39) (ci := 12) X hW 0 rfl rfl tbc_X12 3 (by decide) kw_363 rfl dX12_size_29 ?_
      refine lv_ifnonnullN hx hb dX12_size_32 ?_
      refine lv_iconst (v := 0) hx hb dX12_size_35 (by decide) ?_
      obtain rfl := Option.some.inj hm
      exact mx_iret X hW dX12_size_36
    · have hm := (if_pos c3).symm.trans hm
      refine lv_iconst (v := (-1)) hx hb dX12_size_26 (by decide) ?_
      obtain rfl := Option.some.inj hm
      exact mx_iret X hW dX12_size_27
  · have hm := (if_pos c1).symm.trans hm
    refine lv_aload_n hx hb dX12_size_11 rfl (lv_at hl 0 rfl) ?_
    refine mx_get (C := RX12) (T := TX12) (N := 39) (ci := 12) X hW 0 rfl rfl tbc_X12 6 (by decide) kw_160 rfl dX12_size_12 ?_
    obtain rfl := Option.some.inj hm
    exact mx_iret X hW dX12_size_15

abbrev rm_X12_trouble : Room := { frames := 0, cells := 0, slots := 0, locals := 0 }
noncomputable def f_X12_trouble (t_thrown : Int32) (t_trouble : Int32) : Option (Int32 × Int32) :=
  some (t_trouble, 0)
set_option maxHeartbeats 4000000 in
set_option maxRecDepth 100000 in
theorem c_X12_trouble (l : Launch) (G : mx_G) (q_t : Nat) (v_t_where : Value) (v_t_river : Value) (v_t_read : Value) (v_t_tape : Value) (v_t_taped : Value) (v_t_size : Value) (v_t_spot : Value) (v_t_sort : Value) (v_t_place : Value) (v_t_number : Value) (v_t_fault : Value) (v_t_wrongAt : Value) (v_t_word : Value) (v_t_v : Value) (v_t_x : Value) (v_t_past : Value) (v_t_kept : Value) (v_t_acts : Value) (v_t_marks : Value) (v_t_width : Value) (v_t_water : Value) (v_t_depth : Value) (v_t_spill : Value) (v_t_below : Value) (v_t_fewest : Value) (v_t_shortest : Value) (v_t_shortestSum : Value) (v_t_many : Value) (v_t_changed : Value) (v_t_sets : Value) (v_t_some : Value) (v_t_each : Value) (v_t_fitDepth : Value) (v_t_askLeft : Value) (v_t_one : Value) (v_t_two : Value) (v_t_flooded : Value) (t_thrown : Int32) (t_trouble : Int32) (out : Int32 × Int32) (hm : f_X12_trouble t_thrown t_trouble = some out) : mx_C l yX12_trouble cX12_trouble 1 (some .int) rm_X12_trouble G [.ref q_t] [xO q_t 12 [.int t_thrown, .int t_trouble, v_t_where, v_t_river, v_t_read, v_t_tape, v_t_taped, v_t_size, v_t_spot, v_t_sort, v_t_place, v_t_number, v_t_fault, v_t_wrongAt, v_t_word, v_t_v, v_t_x, v_t_past, v_t_kept, v_t_acts, v_t_marks, v_t_width, v_t_water, v_t_depth, v_t_spill, v_t_below, v_t_fewest, v_t_shortest, v_t_shortestSum, v_t_many, v_t_changed, v_t_sets, v_t_some, v_t_each, v_t_fitDepth, v_t_askLeft, v_t_one, v_t_two, v_t_flooded]] (some (.int out.1)) [xO q_t 12 [.int out.2, .int t_trouble, v_t_where, v_t_river, v_t_read, v_t_tape, v_t_taped, v_t_size, v_t_spot, v_t_sort, v_t_place, v_t_number, v_t_fault, v_t_wrongAt, v_t_word, v_t_v, v_t_x, v_t_past, v_t_kept, v_t_acts, v_t_marks, v_t_width, v_t_water, v_t_depth, v_t_spill, v_t_below, v_t_fewest, v_t_shortest, v_t_shortestSum, v_t_many, v_t_changed, v_t_sets, v_t_some, v_t_each, v_t_fitDepth, v_t_askLeft, v_t_one, v_t_two, v_t_flooded]] := by
  refine mx_enter (own := RX12) (name := "trouble") (lv := [(0, .ref q_t)]) (by decide) rfl rfl (Nat.le_of_ble_eq_true rfl) rfl ?_
  intro p e s m args below meth c A ls X hW hl
  obtain ⟨hx, hb, hml, hown, hts, hKN, -⟩ := id X
  unfold f_X12_trouble at hm
  refine lv_aload_n hx hb dX12_trouble_0 rfl (lv_at hl 0 rfl) ?_
  refine lv_iconst (v := 0) hx hb dX12_trouble_1 (by decide) ?_
  refine mx_put (C := RX12) (T := TX12) (N := 39) (ci := 12) (w2 := [xO q_t 12 [.int 0, .int t_trouble, v_t_where, v_t_river, v_t_read, v_t_tape, v_t_taped, v_t_size, v_t_spot, v_t_sort, v_t_place, v_t_number, v_t_fault, v_t_wrongAt, v_t_word, v_t_v, v_t_x, v_t_past, v_t_kept, v_t_acts, v_t_marks, v_t_width, v_t_water, v_t_depth, v_t_spill, v_t_below, v_t_fewest, v_t_shortest, v_t_shortestSum, v_t_many, v_t_changed, v_t_sets, v_t_some, v_t_each, v_t_fitDepth, v_t_askLeft, v_t_one, v_t_two, v_t_flooded]]) X hW 0 rfl rfl tbc_X12 tyX12 tyX12_ok nmX12 0 (by decide) kw_159 rfl rfl rfl rfl (Nat.le_of_ble_eq_true rfl) rfl dX12_trouble_2 (fun H locs hW => ?_)
  refine lv_aload_n hx hb dX12_trouble_5 rfl (lv_at hl 0 rfl) ?_
  refine mx_get (C := RX12) (T := TX12) (N := 39) (ci := 12) X hW 0 rfl rfl tbc_X12 1 (by decide) kw_361 rfl dX12_trouble_6 ?_
  obtain rfl := Option.some.inj hm
  exact mx_iret X hW dX12_trouble_9
