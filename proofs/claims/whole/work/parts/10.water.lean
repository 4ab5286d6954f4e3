abbrev rm_X10_isIn : Room := { frames := 0, cells := 0, slots := 0, locals := 0 }
noncomputable def f_X10_isIn (p1 : Int32) (p2 : Int32) : Option (Int32) :=
  (if ((p1 >>> (p2 &&& 31)) &&& 1) = 1 then
    some 1
  else
    some 0)
set_option maxHeartbeats 4000000 in
set_option maxRecDepth 100000 in
theorem c_X10_isIn (l : Launch) (G : mx_G) (p1 : Int32) (p2 : Int32) (out : Int32) (hm : f_X10_isIn p1 p2 = some out) : mx_C l yX10_isIn cX10_isIn 2 (some .boolean) rm_X10_isIn G [.int p1, .int p2] [] (some (.int out)) [] := by
  refine mx_enter (own := RX10) (name := "isIn") (lv := [(0, .int p1), (1, .int p2)]) (by decide) rfl rfl (Nat.le_of_ble_eq_true rfl) rfl ?_
  intro p e s m args below meth c A ls X hW hl
  obtain ⟨hx, hb, hml, hown, hts, hKN, -⟩ := id X
  unfold f_X10_isIn at hm
  refine lv_iload_n hx hb dX10_isIn_0 rfl (lv_at hl 0 rfl) ?_
  refine lv_iload_n hx hb dX10_isIn_1 rfl (lv_at hl 1 rfl) ?_
  refine lv_ishr hx hb dX10_isIn_2 ?_
  refine lv_iconst (v := 1) hx hb dX10_isIn_3 (by decide) ?_
  refine lv_iand hx hb dX10_isIn_4 ?_
  refine lv_iconst (v := 1) hx hb dX10_isIn_5 (by decide) ?_
  refine lv_icmp_ne (tgt := 13) hx hb dX10_isIn_6 (by decide) (fun c1 => ?_) (fun c1 => ?_)
  · have hm := (if_neg c1).symm.trans hm
    refine lv_iconst (v := 0) hx hb dX10_isIn_13 (by decide) ?_
    obtain rfl := Option.some.inj hm
    exact mx_zret X nb0 hW dX10_isIn_14
  · have hm := (if_pos c1).symm.trans hm
    refine lv_iconst (v := 1) hx hb dX10_isIn_9 (by decide) ?_
    refine lv_goto (tgt := 14) hx hb dX10_isIn_10 (by decide) ?_
    obtain rfl := Option.some.inj hm
    exact mx_zret X nb1 hW dX10_isIn_14

abbrev rm_X8_slack : Room := { frames := 0, cells := 0, slots := 0, locals := 0 }
noncomputable def f_X8_slack (p3 : Int32) (t_depth : Nat → Int32) (a_ropeAt : Nat → Int32) (a_bears : Nat → Int32) (b_wear : Nat → Int32) : Option (Int32) :=
  gd (inb p3 7) <| gd (inb p3 7) <| gd (inb p3 7) <| gd (inb (a_ropeAt p3.toNatClampNeg) 6) <| some (((a_bears p3.toNatClampNeg) - (b_wear p3.toNatClampNeg)) - (t_depth (a_ropeAt p3.toNatClampNeg).toNatClampNeg))
set_option maxHeartbeats 4000000 in
set_option maxRecDepth 100000 in
theorem c_X8_slack (l : Launch) (G : mx_G) (q_t : Nat) (q_t_depth : Nat) (q_a : Nat) (q_a_ropeAt : Nat) (q_a_bears : Nat) (q_b : Nat) (q_b_wear : Nat) (v_t_width : Value) (v_t_comes : Value) (v_t_spill : Value) (v_t_harmAt : Value) (v_t_below : Value) (v_t_allHarm : Value) (v_t_spilling : Value) (v_a_flow : Value) (v_a_tape : Value) (v_a_reaches : Value) (v_a_ropes : Value) (v_a_hands : Value) (v_a_boats : Value) (v_a_muds : Value) (v_a_loose : Value) (v_a_kind : Value) (v_a_wide : Value) (v_a_bank : Value) (v_a_mud : Value) (v_a_pulls : Value) (v_a_strong : Value) (v_a_boatWide : Value) (v_a_boatDeep : Value) (v_b_laced : Value) (v_b_burst : Value) (v_b_flow : Value) (v_b_seed : Value) (t_depth : Nat → Int32) (a_ropeAt : Nat → Int32) (a_bears : Nat → Int32) (b_wear : Nat → Int32) (p3 : Int32) (out : Int32) (hm : f_X8_slack p3 t_depth a_ropeAt a_bears b_wear = some out) : mx_C l yX8_slack cX8_slack 4 (some .int) rm_X8_slack G [.ref q_t, .ref q_a, .ref q_b, .int p3] [xO q_t 8 [v_t_width, v_t_comes, .ref q_t_depth, v_t_spill, v_t_harmAt, v_t_below, v_t_allHarm, v_t_spilling], xI G q_t_depth 6 t_depth, xO q_a 6 [v_a_flow, v_a_tape, v_a_reaches, v_a_ropes, v_a_hands, v_a_boats, v_a_muds, v_a_loose, v_a_kind, v_a_wide, v_a_bank, v_a_mud, .ref q_a_ropeAt, v_a_pulls, .ref q_a_bears, v_a_strong, v_a_boatWide, v_a_boatDeep], xI G q_a_ropeAt 7 a_ropeAt, xI G q_a_bears 7 a_bears, xO q_b 7 [v_b_laced, v_b_burst, v_b_flow, v_b_seed, .ref q_b_wear], xI G q_b_wear 7 b_wear] (some (.int out)) [xO q_t 8 [v_t_width, v_t_comes, .ref q_t_depth, v_t_spill, v_t_harmAt, v_t_below, v_t_allHarm, v_t_spilling], xI G q_t_depth 6 t_depth, xO q_a 6 [v_a_flow, v_a_tape, v_a_reaches, v_a_ropes, v_a_hands, v_a_boats, v_a_muds, v_a_loose, v_a_kind, v_a_wide, v_a_bank, v_a_mud, .ref q_a_ropeAt, v_a_pulls, .ref q_a_bears, v_a_strong, v_a_boatWide, v_a_boatDeep], xI G q_a_ropeAt 7 a_ropeAt, xI G q_a_bears 7 a_bears, xO q_b 7 [v_b_laced, v_b_burst, v_b_flow, v_b_seed, .ref q_b_wear], xI G q_b_wear 7 b_wear] := by
  refine mx_enter (own := RX8) (name := "slack") (lv := [(0, .ref q_t), (1, .ref q_a), (2, .ref q_b), (3, .int p3)]) (by decide) rfl rfl (Nat.le_of_ble_eq_true rfl) rfl ?_
  intro p e s m args below meth c A ls X hW hl
  obtain ⟨hx, hb, hml, hown, hts, hKN, -⟩ := id X
  unfold f_X8_slack at hm
  refine lv_aload_n hx hb dX8_slack_0 rfl (lv_at hl 1 rfl) ?_
  refine mx_get (C := RX6) (T := TX6) (N := 18) (ci := 6) X hW 2 rfl rfl tbc_X6 14 (by decide) kw_699 rfl dX8_slack_1 ?_
  refine lv_iload_n hx hb dX8_slack_4 rfl (lv_at hl 3 rfl) ?_
  obtain ⟨hg1, hm⟩ := gd_s hm
  refine mx_iald X hW 4 rfl (inb_s hg1) dX8_slack_5 ?_
  refine lv_aload_n hx hb dX8_slack_6 rfl (lv_at hl 2 rfl) ?_
  refine mx_get (C := RX7) (T := TX7) (N := 5) (ci := 7) X hW 5 rfl rfl tbc_X7 4 (by decide) kw_700 rfl dX8_slack_7 ?_
  refine lv_iload_n hx hb dX8_slack_10 rfl (lv_at hl 3 rfl) ?_
  obtain ⟨hg2, hm⟩ := gd_s hm
  refine mx_iald X hW 6 rfl (inb_s hg2) dX8_slack_11 ?_
  refine lv_isub hx hb dX8_slack_12 ?_
  refine lv_aload_n hx hb dX8_slack_13 rfl (lv_at hl 0 rfl) ?_
  refine mx_get (C := RX8) (T := TX8) (N := 8) (ci := 8) X hW 0 rfl rfl tbc_X8 2 (by decide) kw_94 rfl dX8_slack_14 ?_
  refine lv_aload_n hx hb dX8_slack_17 rfl (lv_at hl 1 rfl) ?_
  refine mx_get (C := RX6) (T := TX6) (N := 18) (ci := 6) X hW 2 rfl rfl tbc_X6 12 (by decide) kw_602 rfl dX8_slack_18 ?_
  refine lv_iload_n hx hb dX8_slack_21 rfl (lv_at hl 3 rfl) ?_
  obtain ⟨hg3, hm⟩ := gd_s hm
  refine mx_iald X hW 3 rfl (inb_s hg3) dX8_slack_22 ?_
  obtain ⟨hg4, hm⟩ := gd_s hm
  refine mx_iald X hW 1 rfl (inb_s hg4) dX8_slack_23 ?_
  refine lv_isub hx hb dX8_slack_24 ?_
  obtain rfl := Option.some.inj hm
  exact mx_iret X hW dX8_slack_25

abbrev rm_X8_bursting : Room := { frames := 1, cells := 0, slots := 0, locals := 23 }
noncomputable def f_X8_bursting_L6 (k_50 : Int32 → Option (Int32)) (x3 : Int32) (t_depth : Nat → Int32) (a_ropes : Int32) (a_ropeAt : Nat → Int32) (a_bears : Nat → Int32) (b_wear : Nat → Int32) : Nat → Int32 → Int32 → Option (Int32)
  | 0, _, _ => none
  | n + 1, x4, x5 =>
    (if a_ropes ≤ x5 then
      k_50 x4
    else
      (f_X10_isIn x3 x5).bind fun o2 => (if o2 = 0 then
        f_X8_bursting_L6 k_50 x3 t_depth a_ropes a_ropeAt a_bears b_wear n x4 (x5 + 1)
      else
        (f_X8_slack x5 t_depth a_ropeAt a_bears b_wear).bind fun o4 => (if 0 ≤ o4 then
          f_X8_bursting_L6 k_50 x3 t_depth a_ropes a_ropeAt a_bears b_wear n x4 (x5 + 1)
        else
          nm (x4 ||| (1 <<< (x5 &&& 31))) fun z6 =>f_X8_bursting_L6 k_50 x3 t_depth a_ropes a_ropeAt a_bears b_wear n z6 (x5 + 1))))
noncomputable def f_X8_bursting (p3 : Int32) (t_depth : Nat → Int32) (a_ropes : Int32) (a_ropeAt : Nat → Int32) (a_bears : Nat → Int32) (b_wear : Nat → Int32) : Option (Int32) :=
  f_X8_bursting_L6 (fun x4_6 =>
    some x4_6) p3 t_depth a_ropes a_ropeAt a_bears b_wear 2000 0 0
set_option maxHeartbeats 4000000 in
set_option maxRecDepth 100000 in
theorem w_X8_bursting_L6 {p : Program} {l : Launch} {e : Env} {s : State} {m : MethodId} {args : Array Value} {below : List Frame} {meth : Method} {c : Code} {A : Nat → Prop} {G : mx_G} (X : mx_X p s m args meth c RX8 "bursting" cX8_bursting 6 (some .int) G) (q_t : Nat) (q_t_depth : Nat) (q_a : Nat) (q_a_ropeAt : Nat) (q_a_bears : Nat) (q_b : Nat) (q_b_wear : Nat) (v_t_width : Value) (v_t_comes : Value) (v_t_spill : Value) (v_t_harmAt : Value) (v_t_below : Value) (v_t_allHarm : Value) (v_t_spilling : Value) (v_a_flow : Value) (v_a_tape : Value) (v_a_reaches : Value) (v_a_hands : Value) (v_a_boats : Value) (v_a_muds : Value) (v_a_loose : Value) (v_a_kind : Value) (v_a_wide : Value) (v_a_bank : Value) (v_a_mud : Value) (v_a_pulls : Value) (v_a_strong : Value) (v_a_boatWide : Value) (v_a_boatDeep : Value) (v_b_laced : Value) (v_b_burst : Value) (v_b_flow : Value) (v_b_seed : Value) (t_depth : Nat → Int32) (a_ropes : Int32) (a_ropeAt : Nat → Int32) (a_bears : Nat → Int32) (b_wear : Nat → Int32) (x3 : Int32) (out : Int32) (k_50 : Int32 → Option (Int32)) (hk_50 : ∀ (x4 : Int32) (H : Heap) (locs : List Loc) (ls : Array Slot), k_50 x4 = some out → mx_W G s A [xO q_t 8 [v_t_width, v_t_comes, .ref q_t_depth, v_t_spill, v_t_harmAt, v_t_below, v_t_allHarm, v_t_spilling], xI G q_t_depth 6 t_depth, xO q_a 6 [v_a_flow, v_a_tape, v_a_reaches, .int a_ropes, v_a_hands, v_a_boats, v_a_muds, v_a_loose, v_a_kind, v_a_wide, v_a_bank, v_a_mud, .ref q_a_ropeAt, v_a_pulls, .ref q_a_bears, v_a_strong, v_a_boatWide, v_a_boatDeep], xI G q_a_ropeAt 7 a_ropeAt, xI G q_a_bears 7 a_bears, xO q_b 7 [v_b_laced, v_b_burst, v_b_flow, v_b_seed, .ref q_b_wear], xI G q_b_wear 7 b_wear] H locs → lv_has ls 6 [(4, .int x4)] → W p l e rm_X8_bursting s m args below meth c H locs 0 0 (MQ below (mx_Q G (some (.int out)) [xO q_t 8 [v_t_width, v_t_comes, .ref q_t_depth, v_t_spill, v_t_harmAt, v_t_below, v_t_allHarm, v_t_spilling], xI G q_t_depth 6 t_depth, xO q_a 6 [v_a_flow, v_a_tape, v_a_reaches, .int a_ropes, v_a_hands, v_a_boats, v_a_muds, v_a_loose, v_a_kind, v_a_wide, v_a_bank, v_a_mud, .ref q_a_ropeAt, v_a_pulls, .ref q_a_bears, v_a_strong, v_a_boatWide, v_a_boatDeep], xI G q_a_ropeAt 7 a_ropeAt, xI G q_a_bears 7 a_bears, xO q_b 7 [v_b_laced, v_b_burst, v_b_flow, v_b_seed, .ref q_b_wear], xI G q_b_wear 7 b_wear] A) args s 0 0 A) (F0 m 50 ls [])) : ∀ (n : Nat) (x4 : Int32) (x5 : Int32) (H : Heap) (locs : List Loc) (ls : Array Slot), f_X8_bursting_L6 k_50 x3 t_depth a_ropes a_ropeAt a_bears b_wear n x4 x5 = some out → mx_W G s A [xO q_t 8 [v_t_width, v_t_comes, .ref q_t_depth, v_t_spill, v_t_harmAt, v_t_below, v_t_allHarm, v_t_spilling], xI G q_t_depth 6 t_depth, xO q_a 6 [v_a_flow, v_a_tape, v_a_reaches, .int a_ropes, v_a_hands, v_a_boats, v_a_muds, v_a_loose, v_a_kind, v_a_wide, v_a_bank, v_a_mud, .ref q_a_ropeAt, v_a_pulls, .ref q_a_bears, v_a_strong, v_a_boatWide, v_a_boatDeep], xI G q_a_ropeAt 7 a_ropeAt, xI G q_a_bears 7 a_bears, xO q_b 7 [v_b_laced, v_b_burst, v_b_flow, v_b_seed, .ref q_b_wear], xI G q_b_wear 7 b_wear] H locs → lv_has ls 6 [(0, .ref q_t), (1, .ref q_a), (2, .ref q_b), (3, .int x3), (4, .int x4), (5, .int x5)] → W p l e rm_X8_bursting s m args below meth c H locs 0 0 (MQ below (mx_Q G (some (.int out)) [xO q_t 8 [v_t_width, v_t_comes, .ref q_t_depth, v_t_spill, v_t_harmAt, v_t_below, v_t_allHarm, v_t_spilling], xI G q_t_depth 6 t_depth, xO q_a 6 [v_a_flow, v_a_tape, v_a_reaches, .int a_ropes, v_a_hands, v_a_boats, v_a_muds, v_a_loose, v_a_kind, v_a_wide, v_a_bank, v_a_mud, .ref q_a_ropeAt, v_a_pulls, .ref q_a_bears, v_a_strong, v_a_boatWide, v_a_boatDeep], xI G q_a_ropeAt 7 a_ropeAt, xI G q_a_bears 7 a_bears, xO q_b 7 [v_b_laced, v_b_burst, v_b_flow, v_b_seed, .ref q_b_wear], xI G q_b_wear 7 b_wear] A) args s 0 0 A) (F0 m 6 ls []) := by
  obtain ⟨hx, hb, hml, hown, hts, hKN, -⟩ := id X
  intro n
  induction n with
  | zero => intro x4 x5 H locs ls hm hW hl; exact absurd (show none = some out from hm) (fun h => by cases h)
  | succ n ih =>
    intro x4 x5 H locs ls hm hW hl
    rw [f_X8_bursting_L6] at hm
    refine lv_iload hx hb dX8_bursting_6 (lv_at hl 5 rfl) ?_
    refine lv_aload_n hx hb dX8_bursting_8 rfl (lv_at hl 1 rfl) ?_
    refine mx_get (C := RX6) (T := TX6) (N := 18) (ci := 6) X hW 2 rfl rfl tbc_X6 3 (by decide) kw_601 rfl dX8_bursting_9 ?_
    refine lv_icmp_ge (tgt := 50) hx hb dX8_bursting_12 (by decide) (fun c1 => ?_) (fun c1 => ?_)
    · have hm := (if_pos c1).symm.trans hm
      exact hk_50 x4 _ _ _ hm hW (lv_sub hl [4] rfl)
    · have hm := (if_neg c1).symm.trans hm
      refine lv_iload_n hx hb dX8_bursting_15 rfl (lv_at hl 3 rfl) ?_
      refine lv_iload hx hb dX8_bursting_16 (lv_at hl 5 rfl) ?_
      obtain ⟨o2, ho2, hm⟩ := bd_s hm
      refine mx_callSN (n := 2) (As := [.int x3, .int x5]) (rest := []) (st1 := [.int o2]) (w2 := [xO q_t 8 [v_t_width, v_t_comes, .ref q_t_depth, v_t_spill, v_t_harmAt, v_t_below, v_t_allHarm, v_t_spilling], xI G q_t_depth 6 t_depth, xO q_a 6 [v_a_flow, v_a_tape, v_a_reaches, .int a_ropes, v_a_hands, v_a_boats, v_a_muds, v_a_loose, v_a_kind, v_a_wide, v_a_bank, v_a_mud, .ref q_a_ropeAt, v_a_pulls, .ref q_a_bears, v_a_strong, v_a_boatWide, v_a_boatDeep], xI G q_a_ropeAt 7 a_ropeAt, xI G q_a_bears 7 a_bears, xO q_b 7 [v_b_laced, v_b_burst, v_b_flow, v_b_seed, .ref q_b_wear], xI G q_b_wear 7 b_wear]) X hW hl.1 (c_X10_isIn l G x3 x5 o2 ho2) kn_18 kw_302 kw_2 kw_303 (by decide +kernel) ⟨rfl, rfl⟩ ⟨by decide, by decide⟩ ⟨Nat.zero_le _, Nat.zero_le _⟩ [] (by decide) rfl rfl rfl rfl rfl rfl (Nat.le_of_ble_eq_true rfl) rfl dX8_bursting_18 (fun H locs hW => ?_)
      refine lv_if_eq (tgt := 44) hx hb dX8_bursting_21 (by decide) (fun c3 => ?_) (fun c3 => ?_)
      · have hm := (if_pos c3).symm.trans hm
        refine lv_iinc (v := x5 + 1) (lv' := [(5, .int (x5 + 1)), (0, .ref q_t), (1, .ref q_a), (2, .ref q_b), (3, .int x3), (4, .int x4)]) hx hb dX8_bursting_44 hl (k := 5) rfl rfl (by decide) rfl (fun ls hl => ?_)
        refine lv_goto (tgt := 6) hx hb dX8_bursting_47 (by decide) ?_
        exact ih x4 (x5 + 1) _ _ _ hm hW (lv_sub hl [1, 2, 3, 4, 5, 0] rfl)
      · have hm := (if_neg c3).symm.trans hm
        refine lv_aload_n hx hb dX8_bursting_24 rfl (lv_at hl 0 rfl) ?_
        refine lv_aload_n hx hb dX8_bursting_25 rfl (lv_at hl 1 rfl) ?_
        refine lv_aload_n hx hb dX8_bursting_26 rfl (lv_at hl 2 rfl) ?_
        refine lv_iload hx hb dX8_bursting_27 (lv_at hl 5 rfl) ?_
        obtain ⟨o4, ho4, hm⟩ := bd_s hm
        refine mx_callV (C := RX8) (T := TX8) (N := 8) (ci := 8) (n := 3) (As := [.ref q_a, .ref q_b, .int x5]) (rest := []) (st1 := [.int o4]) (w2 := [xO q_t 8 [v_t_width, v_t_comes, .ref q_t_depth, v_t_spill, v_t_harmAt, v_t_below, v_t_allHarm, v_t_spilling], xI G q_t_depth 6 t_depth, xO q_a 6 [v_a_flow, v_a_tape, v_a_reaches, .int a_ropes, v_a_hands, v_a_boats, v_a_muds, v_a_loose, v_a_kind, v_a_wide, v_a_bank, v_a_mud, .ref q_a_ropeAt, v_a_pulls, .ref q_a_bears, v_a_strong, v_a_boatWide, v_a_boatDeep], xI G q_a_ropeAt 7 a_ropeAt, xI G q_a_bears 7 a_bears, xO q_b 7 [v_b_laced, v_b_burst, v_b_flow, v_b_seed, .ref q_b_wear], xI G q_b_wear 7 b_wear]) X hW hl.1 (c_X8_slack l G q_t q_t_depth q_a q_a_ropeAt q_a_bears q_b q_b_wear (v_t_width) (v_t_comes) (v_t_spill) (v_t_harmAt) (v_t_below) (v_t_allHarm) (v_t_spilling) (v_a_flow) (v_a_tape) (v_a_reaches) (.int a_ropes) (v_a_hands) (v_a_boats) (v_a_muds) (v_a_loose) (v_a_kind) (v_a_wide) (v_a_bank) (v_a_mud) (v_a_pulls) (v_a_strong) (v_a_boatWide) (v_a_boatDeep) (v_b_laced) (v_b_burst) (v_b_flow) (v_b_seed) t_depth a_ropeAt a_bears b_wear x5 o4 ho4) 0 rfl rfl kw_695 kw_696 kw_697 kw_27 kw_698 (by decide +kernel) ⟨rfl, rfl⟩ ⟨by decide, by decide⟩ ⟨Nat.zero_le _, Nat.zero_le _⟩ [0, 1, 2, 3, 4, 5, 6] (by decide) rfl rfl rfl rfl rfl rfl (Nat.le_of_ble_eq_true rfl) rfl dX8_bursting_29 (fun H locs hW => ?_)
        refine lv_if_ge (tgt := 44) hx hb dX8_bursting_32 (by decide) (fun c5 => ?_) (fun c5 => ?_)
        · have hm := (if_pos c5).symm.trans hm
          refine lv_iinc (v := x5 + 1) (lv' := [(5, .int (x5 + 1)), (0, .ref q_t), (1, .ref q_a), (2, .ref q_b), (3, .int x3), (4, .int x4)]) hx hb dX8_bursting_44 hl (k := 5) rfl rfl (by decide) rfl (fun ls hl => ?_)
          refine lv_goto (tgt := 6) hx hb dX8_bursting_47 (by decide) ?_
          exact ih x4 (x5 + 1) _ _ _ hm hW (lv_sub hl [1, 2, 3, 4, 5, 0] rfl)
        · have hm := (if_neg c5).symm.trans hm
          refine lv_iload hx hb dX8_bursting_35 (lv_at hl 4 rfl) ?_
          refine lv_iconst (v := 1) hx hb dX8_bursting_37 (by decide) ?_
          refine lv_iload hx hb dX8_bursting_38 (lv_at hl 5 rfl) ?_
          refine lv_ishl hx hb dX8_bursting_40 ?_
          refine lv_ior hx hb dX8_bursting_41 ?_
          refine lv_topi (fun z6 ez6 => ?_)
          have hm := nm_s ez6 hm
          refine lv_istore (lv' := [(4, .int z6), (0, .ref q_t), (1, .ref q_a), (2, .ref q_b), (3, .int x3), (5, .int x5)]) hx hb dX8_bursting_42 hl (by decide) rfl (fun ls hl => ?_)
          refine lv_iinc (v := x5 + 1) (lv' := [(5, .int (x5 + 1)), (4, .int z6), (0, .ref q_t), (1, .ref q_a), (2, .ref q_b), (3, .int x3)]) hx hb dX8_bursting_44 hl (k := 5) rfl rfl (by decide) rfl (fun ls hl => ?_)
          refine lv_goto (tgt := 6) hx hb dX8_bursting_47 (by decide) ?_
          exact ih z6 (x5 + 1) _ _ _ hm hW (lv_sub hl [2, 3, 4, 5, 1, 0] rfl)
set_option maxHeartbeats 4000000 in
set_option maxRecDepth 100000 in
theorem c_X8_bursting (l : Launch) (G : mx_G) (q_t : Nat) (q_t_depth : Nat) (q_a : Nat) (q_a_ropeAt : Nat) (q_a_bears : Nat) (q_b : Nat) (q_b_wear : Nat) (v_t_width : Value) (v_t_comes : Value) (v_t_spill : Value) (v_t_harmAt : Value) (v_t_below : Value) (v_t_allHarm : Value) (v_t_spilling : Value) (v_a_flow : Value) (v_a_tape : Value) (v_a_reaches : Value) (v_a_hands : Value) (v_a_boats : Value) (v_a_muds : Value) (v_a_loose : Value) (v_a_kind : Value) (v_a_wide : Value) (v_a_bank : Value) (v_a_mud : Value) (v_a_pulls : Value) (v_a_strong : Value) (v_a_boatWide : Value) (v_a_boatDeep : Value) (v_b_laced : Value) (v_b_burst : Value) (v_b_flow : Value) (v_b_seed : Value) (t_depth : Nat → Int32) (a_ropes : Int32) (a_ropeAt : Nat → Int32) (a_bears : Nat → Int32) (b_wear : Nat → Int32) (p3 : Int32) (out : Int32) (hm : f_X8_bursting p3 t_depth a_ropes a_ropeAt a_bears b_wear = some out) : mx_C l yX8_bursting cX8_bursting 6 (some .int) rm_X8_bursting G [.ref q_t, .ref q_a, .ref q_b, .int p3] [xO q_t 8 [v_t_width, v_t_comes, .ref q_t_depth, v_t_spill, v_t_harmAt, v_t_below, v_t_allHarm, v_t_spilling], xI G q_t_depth 6 t_depth, xO q_a 6 [v_a_flow, v_a_tape, v_a_reaches, .int a_ropes, v_a_hands, v_a_boats, v_a_muds, v_a_loose, v_a_kind, v_a_wide, v_a_bank, v_a_mud, .ref q_a_ropeAt, v_a_pulls, .ref q_a_bears, v_a_strong, v_a_boatWide, v_a_boatDeep], xI G q_a_ropeAt 7 a_ropeAt, xI G q_a_bears 7 a_bears, xO q_b 7 [v_b_laced, v_b_burst, v_b_flow, v_b_seed, .ref q_b_wear], xI G q_b_wear 7 b_wear] (some (.int out)) [xO q_t 8 [v_t_width, v_t_comes, .ref q_t_depth, v_t_spill, v_t_harmAt, v_t_below, v_t_allHarm, v_t_spilling], xI G q_t_depth 6 t_depth, xO q_a 6 [v_a_flow, v_a_tape, v_a_reaches, .int a_ropes, v_a_hands, v_a_boats, v_a_muds, v_a_loose, v_a_kind, v_a_wide, v_a_bank, v_a_mud, .ref q_a_ropeAt, v_a_pulls, .ref q_a_bears, v_a_strong, v_a_boatWide, v_a_boatDeep], xI G q_a_ropeAt 7 a_ropeAt, xI G q_a_bears 7 a_bears, xO q_b 7 [v_b_laced, v_b_burst, v_b_flow, v_b_seed, .ref q_b_wear], xI G q_b_wear 7 b_wear] := by
  refine mx_enter (own := RX8) (name := "bursting") (lv := [(0, .ref q_t), (1, .ref q_a), (2, .ref q_b), (3, .int p3)]) (by decide) rfl rfl (Nat.le_of_ble_eq_true rfl) rfl ?_
  intro p e s m args below meth c A ls X hW hl
  obtain ⟨hx, hb, hml, hown, hts, hKN, -⟩ := id X
  unfold f_X8_bursting at hm
  refine lv_iconst (v := 0) hx hb dX8_bursting_0 (by decide) ?_
  refine lv_istore (lv' := [(4, .int 0), (0, .ref q_t), (1, .ref q_a), (2, .ref q_b), (3, .int p3)]) hx hb dX8_bursting_1 hl (by decide) rfl (fun ls hl => ?_)
  refine lv_iconst (v := 0) hx hb dX8_bursting_3 (by decide) ?_
  refine lv_istore (lv' := [(5, .int 0), (4, .int 0), (0, .ref q_t), (1, .ref q_a), (2, .ref q_b), (3, .int p3)]) hx hb dX8_bursting_4 hl (by decide) rfl (fun ls hl => ?_)
  refine w_X8_bursting_L6 X q_t q_t_depth q_a q_a_ropeAt q_a_bears q_b q_b_wear (v_t_width) (v_t_comes) (v_t_spill) (v_t_harmAt) (v_t_below) (v_t_allHarm) (v_t_spilling) (v_a_flow) (v_a_tape) (v_a_reaches) (v_a_hands) (v_a_boats) (v_a_muds) (v_a_loose) (v_a_kind) (v_a_wide) (v_a_bank) (v_a_mud) (v_a_pulls) (v_a_strong) (v_a_boatWide) (v_a_boatDeep) (v_b_laced) (v_b_burst) (v_b_flow) (v_b_seed) t_depth a_ropes a_ropeAt a_bears b_wear p3 out _ (fun x4_6 H locs ls hm hW hl => ?_) _ 0 0 _ _ _ hm hW (lv_sub hl [2, 3, 4, 5, 1, 0] rfl)
  refine lv_iload hx hb dX8_bursting_50 (lv_at hl 0 rfl) ?_
  obtain rfl := Option.some.inj hm
  exact mx_iret X hW dX8_bursting_52

abbrev rm_X8_narrow : Room := { frames := 1, cells := 0, slots := 0, locals := 21 }
noncomputable def f_X8_narrow_L2 (k_28 : (Nat → Int32) → Option (Nat → Int32)) (a_reaches : Int32) (a_wide : Nat → Int32) : Nat → Int32 → (Nat → Int32) → Option (Nat → Int32)
  | 0, _, _ => none
  | n + 1, x3, t_width =>
    (if a_reaches ≤ x3 then
      k_28 t_width
    else
      gd (inb x3 6) <| nm (a_wide x3.toNatClampNeg) fun z3 => gd (inb x3 6) <| nm (upd t_width x3.toNatClampNeg z3) fun r5 =>f_X8_narrow_L2 k_28 a_reaches a_wide n (x3 + 1) r5)
noncomputable def f_X8_narrow_L30 (k_72 : (Nat → Int32) → Option (Nat → Int32)) (x2 : Int32) (a_ropes : Int32) (a_ropeAt : Nat → Int32) (a_pulls : Nat → Int32) : Nat → Int32 → (Nat → Int32) → Option (Nat → Int32)
  | 0, _, _ => none
  | n + 1, x3, t_width =>
    (if a_ropes ≤ x3 then
      k_72 t_width
    else
      (f_X10_isIn x2 x3).bind fun o7 => (if o7 = 0 then
        f_X8_narrow_L30 k_72 x2 a_ropes a_ropeAt a_pulls n (x3 + 1) t_width
      else
        gd (inb x3 7) <| gd (inb (a_ropeAt x3.toNatClampNeg) 6) <| gd (inb x3 7) <| nm ((t_width (a_ropeAt x3.toNatClampNeg).toNatClampNeg) - (a_pulls x3.toNatClampNeg)) fun z12 => gd (inb (a_ropeAt x3.toNatClampNeg) 6) <| nm (upd t_width (a_ropeAt x3.toNatClampNeg).toNatClampNeg z12) fun r14 =>f_X8_narrow_L30 k_72 x2 a_ropes a_ropeAt a_pulls n (x3 + 1) r14))
noncomputable def f_X8_narrow_L74 (k_104 : (Nat → Int32) → Option (Nat → Int32)) (a_reaches : Int32) : Nat → Int32 → (Nat → Int32) → Option (Nat → Int32)
  | 0, _, _ => none
  | n + 1, x3, t_width =>
    (if a_reaches ≤ x3 then
      k_104 t_width
    else
      gd (inb x3 6) <| nm (if 1 < (t_width x3.toNatClampNeg) then (t_width x3.toNatClampNeg) else 1) fun z17 => gd (inb x3 6) <| nm (upd t_width x3.toNatClampNeg z17) fun r19 =>f_X8_narrow_L74 k_104 a_reaches n (x3 + 1) r19)
noncomputable def f_X8_narrow (p2 : Int32) (t_width : Nat → Int32) (a_reaches : Int32) (a_ropes : Int32) (a_wide : Nat → Int32) (a_ropeAt : Nat → Int32) (a_pulls : Nat → Int32) : Option (Nat → Int32) :=
  f_X8_narrow_L2 (fun t_width_2 =>
    f_X8_narrow_L30 (fun t_width_30 =>
      f_X8_narrow_L74 (fun t_width_74 =>
        some t_width_74) a_reaches 2000 0 t_width_30) p2 a_ropes a_ropeAt a_pulls 2000 0 t_width_2) a_reaches a_wide 2000 0 t_width
set_option maxHeartbeats 4000000 in
set_option maxRecDepth 100000 in
theorem w_X8_narrow_L2 {p : Program} {l : Launch} {e : Env} {s : State} {m : MethodId} {args : Array Value} {below : List Frame} {meth : Method} {c : Code} {A : Nat → Prop} {G : mx_G} (X : mx_X p s m args meth c RX8 "narrow" cX8_narrow 4 none G) (q_t : Nat) (q_t_width : Nat) (q_a : Nat) (q_a_wide : Nat) (q_a_ropeAt : Nat) (q_a_pulls : Nat) (v_t_comes : Value) (v_t_depth : Value) (v_t_spill : Value) (v_t_harmAt : Value) (v_t_below : Value) (v_t_allHarm : Value) (v_t_spilling : Value) (v_a_flow : Value) (v_a_tape : Value) (v_a_hands : Value) (v_a_boats : Value) (v_a_muds : Value) (v_a_loose : Value) (v_a_kind : Value) (v_a_bank : Value) (v_a_mud : Value) (v_a_bears : Value) (v_a_strong : Value) (v_a_boatWide : Value) (v_a_boatDeep : Value) (a_reaches : Int32) (a_ropes : Int32) (a_wide : Nat → Int32) (a_ropeAt : Nat → Int32) (a_pulls : Nat → Int32) (x2 : Int32) (out : Nat → Int32) (k_28 : (Nat → Int32) → Option (Nat → Int32)) (hk_28 : ∀ (t_width : Nat → Int32) (H : Heap) (locs : List Loc) (ls : Array Slot), k_28 t_width = some out → mx_W G s A [xO q_t 8 [.ref q_t_width, v_t_comes, v_t_depth, v_t_spill, v_t_harmAt, v_t_below, v_t_allHarm, v_t_spilling], xI G q_t_width 6 t_width, xO q_a 6 [v_a_flow, v_a_tape, .int a_reaches, .int a_ropes, v_a_hands, v_a_boats, v_a_muds, v_a_loose, v_a_kind, .ref q_a_wide, v_a_bank, v_a_mud, .ref q_a_ropeAt, .ref q_a_pulls, v_a_bears, v_a_strong, v_a_boatWide, v_a_boatDeep], xI G q_a_wide 6 a_wide, xI G q_a_ropeAt 7 a_ropeAt, xI G q_a_pulls 7 a_pulls] H locs → lv_has ls 4 [(0, .ref q_t), (1, .ref q_a), (2, .int x2)] → W p l e rm_X8_narrow s m args below meth c H locs 0 0 (MQ below (mx_Q G none [xO q_t 8 [.ref q_t_width, v_t_comes, v_t_depth, v_t_spill, v_t_harmAt, v_t_below, v_t_allHarm, v_t_spilling], xI G q_t_width 6 out, xO q_a 6 [v_a_flow, v_a_tape, .int a_reaches, .int a_ropes, v_a_hands, v_a_boats, v_a_muds, v_a_loose, v_a_kind, .ref q_a_wide, v_a_bank, v_a_mud, .ref q_a_ropeAt, .ref q_a_pulls, v_a_bears, v_a_strong, v_a_boatWide, v_a_boatDeep], xI G q_a_wide 6 a_wide, xI G q_a_ropeAt 7 a_ropeAt, xI G q_a_pulls 7 a_pulls] A) args s 0 0 A) (F0 m 28 ls [])) : ∀ (n : Nat) (x3 : Int32) (t_width : Nat → Int32) (H : Heap) (locs : List Loc) (ls : Array Slot), f_X8_narrow_L2 k_28 a_reaches a_wide n x3 t_width = some out → mx_W G s A [xO q_t 8 [.ref q_t_width, v_t_comes, v_t_depth, v_t_spill, v_t_harmAt, v_t_below, v_t_allHarm, v_t_spilling], xI G q_t_width 6 t_width, xO q_a 6 [v_a_flow, v_a_tape, .int a_reaches, .int a_ropes, v_a_hands, v_a_boats, v_a_muds, v_a_loose, v_a_kind, .ref q_a_wide, v_a_bank, v_a_mud, .ref q_a_ropeAt, .ref q_a_pulls, v_a_bears, v_a_strong, v_a_boatWide, v_a_boatDeep], xI G q_a_wide 6 a_wide, xI G q_a_ropeAt 7 a_ropeAt, xI G q_a_pulls 7 a_pulls] H locs → lv_has ls 4 [(0, .ref q_t), (1, .ref q_a), (2, .int x2), (3, .int x3)] → W p l e rm_X8_narrow s m args below meth c H locs 0 0 (MQ below (mx_Q G none [xO q_t 8 [.ref q_t_width, v_t_comes, v_t_depth, v_t_spill, v_t_harmAt, v_t_below, v_t_allHarm, v_t_spilling], xI G q_t_width 6 out, xO q_a 6 [v_a_flow, v_a_tape, .int a_reaches, .int a_ropes, v_a_hands, v_a_boats, v_a_muds, v_a_loose, v_a_kind, .ref q_a_wide, v_a_bank, v_a_mud, .ref q_a_ropeAt, .ref q_a_pulls, v_a_bears, v_a_strong, v_a_boatWide, v_a_boatDeep], xI G q_a_wide 6 a_wide, xI G q_a_ropeAt 7 a_ropeAt, xI G q_a_pulls 7 a_pulls] A) args s 0 0 A) (F0 m 2 ls []) := by
  obtain ⟨hx, hb, hml, hown, hts, hKN, -⟩ := id X
  intro n
  induction n with
  | zero => intro x3 t_width H locs ls hm hW hl; exact absurd (show none = some out from hm) (fun h => by cases h)
  | succ n ih =>
    intro x3 t_width H locs ls hm hW hl
    rw [f_X8_narrow_L2] at hm
    refine lv_iload_n hx hb dX8_narrow_2 rfl (lv_at hl 3 rfl) ?_
    refine lv_aload_n hx hb dX8_narrow_3 rfl (lv_at hl 1 rfl) ?_
    refine mx_get (C := RX6) (T := TX6) (N := 18) (ci := 6) X hW 2 rfl rfl tbc_X6 2 (by decide) kw_599 rfl dX8_narrow_4 ?_
    refine lv_icmp_ge (tgt := 28) hx hb dX8_narrow_7 (by decide) (fun c1 => ?_) (fun c1 => ?_)
    · have hm := (if_pos c1).symm.trans hm
      exact hk_28 t_width _ _ _ hm hW (lv_sub hl [0, 1, 2] rfl)
    · have hm := (if_neg c1).symm.trans hm
      refine lv_aload_n hx hb dX8_narrow_10 rfl (lv_at hl 0 rfl) ?_
      refine mx_get (C := RX8) (T := TX8) (N := 8) (ci := 8) X hW 0 rfl rfl tbc_X8 0 (by decide) kw_92 rfl dX8_narrow_11 ?_
      refine lv_iload_n hx hb dX8_narrow_14 rfl (lv_at hl 3 rfl) ?_
      refine lv_aload_n hx hb dX8_narrow_15 rfl (lv_at hl 1 rfl) ?_
      refine mx_get (C := RX6) (T := TX6) (N := 18) (ci := 6) X hW 2 rfl rfl tbc_X6 9 (by decide) kw_600 rfl dX8_narrow_16 ?_
      refine lv_iload_n hx hb dX8_narrow_19 rfl (lv_at hl 3 rfl) ?_
      obtain ⟨hg2, hm⟩ := gd_s hm
      refine mx_iald X hW 3 rfl (inb_s hg2) dX8_narrow_20 ?_
      refine lv_topi (fun z3 ez3 => ?_)
      have hm := nm_s ez3 hm
      obtain ⟨hg4, hm⟩ := gd_s hm
      refine mx_iast (w2 := [xO q_t 8 [.ref q_t_width, v_t_comes, v_t_depth, v_t_spill, v_t_harmAt, v_t_below, v_t_allHarm, v_t_spilling], xI G q_t_width 6 (upd t_width x3.toNatClampNeg z3), xO q_a 6 [v_a_flow, v_a_tape, .int a_reaches, .int a_ropes, v_a_hands, v_a_boats, v_a_muds, v_a_loose, v_a_kind, .ref q_a_wide, v_a_bank, v_a_mud, .ref q_a_ropeAt, .ref q_a_pulls, v_a_bears, v_a_strong, v_a_boatWide, v_a_boatDeep], xI G q_a_wide 6 a_wide, xI G q_a_ropeAt 7 a_ropeAt, xI G q_a_pulls 7 a_pulls]) X hW 1 rfl (inb_s hg4) rfl dX8_narrow_21 (fun H locs hW => ?_)
      obtain ⟨r5, er5⟩ : ∃ z, z = upd t_width x3.toNatClampNeg z3 := ⟨_, rfl⟩
      have hm := nm_s er5 hm
      have hW : mx_W G s A [xO q_t 8 [.ref q_t_width, v_t_comes, v_t_depth, v_t_spill, v_t_harmAt, v_t_below, v_t_allHarm, v_t_spilling], xI G q_t_width 6 r5, xO q_a 6 [v_a_flow, v_a_tape, .int a_reaches, .int a_ropes, v_a_hands, v_a_boats, v_a_muds, v_a_loose, v_a_kind, .ref q_a_wide, v_a_bank, v_a_mud, .ref q_a_ropeAt, .ref q_a_pulls, v_a_bears, v_a_strong, v_a_boatWide, v_a_boatDeep], xI G q_a_wide 6 a_wide, xI G q_a_ropeAt 7 a_ropeAt, xI G q_a_pulls 7 a_pulls] H locs := by rw [er5]; exact hW
      refine lv_iinc (v := x3 + 1) (lv' := [(3, .int (x3 + 1)), (0, .ref q_t), (1, .ref q_a), (2, .int x2)]) hx hb dX8_narrow_22 hl (k := 3) rfl rfl (by decide) rfl (fun ls hl => ?_)
      refine lv_goto (tgt := 2) hx hb dX8_narrow_25 (by decide) ?_
      exact ih (x3 + 1) r5 _ _ _ hm hW (lv_sub hl [1, 2, 3, 0] rfl)
set_option maxHeartbeats 4000000 in
set_option maxRecDepth 100000 in
theorem w_X8_narrow_L30 {p : Program} {l : Launch} {e : Env} {s : State} {m : MethodId} {args : Array Value} {below : List Frame} {meth : Method} {c : Code} {A : Nat → Prop} {G : mx_G} (X : mx_X p s m args meth c RX8 "narrow" cX8_narrow 4 none G) (q_t : Nat) (q_t_width : Nat) (q_a : Nat) (q_a_wide : Nat) (q_a_ropeAt : Nat) (q_a_pulls : Nat) (v_t_comes : Value) (v_t_depth : Value) (v_t_spill : Value) (v_t_harmAt : Value) (v_t_below : Value) (v_t_allHarm : Value) (v_t_spilling : Value) (v_a_flow : Value) (v_a_tape : Value) (v_a_hands : Value) (v_a_boats : Value) (v_a_muds : Value) (v_a_loose : Value) (v_a_kind : Value) (v_a_bank : Value) (v_a_mud : Value) (v_a_bears : Value) (v_a_strong : Value) (v_a_boatWide : Value) (v_a_boatDeep : Value) (a_reaches : Int32) (a_ropes : Int32) (a_wide : Nat → Int32) (a_ropeAt : Nat → Int32) (a_pulls : Nat → Int32) (x2 : Int32) (out : Nat → Int32) (k_72 : (Nat → Int32) → Option (Nat → Int32)) (hk_72 : ∀ (t_width : Nat → Int32) (H : Heap) (locs : List Loc) (ls : Array Slot), k_72 t_width = some out → mx_W G s A [xO q_t 8 [.ref q_t_width, v_t_comes, v_t_depth, v_t_spill, v_t_harmAt, v_t_below, v_t_allHarm, v_t_spilling], xI G q_t_width 6 t_width, xO q_a 6 [v_a_flow, v_a_tape, .int a_reaches, .int a_ropes, v_a_hands, v_a_boats, v_a_muds, v_a_loose, v_a_kind, .ref q_a_wide, v_a_bank, v_a_mud, .ref q_a_ropeAt, .ref q_a_pulls, v_a_bears, v_a_strong, v_a_boatWide, v_a_boatDeep], xI G q_a_wide 6 a_wide, xI G q_a_ropeAt 7 a_ropeAt, xI G q_a_pulls 7 a_pulls] H locs → lv_has ls 4 [(0, .ref q_t), (1, .ref q_a)] → W p l e rm_X8_narrow s m args below meth c H locs 0 0 (MQ below (mx_Q G none [xO q_t 8 [.ref q_t_width, v_t_comes, v_t_depth, v_t_spill, v_t_harmAt, v_t_below, v_t_allHarm, v_t_spilling], xI G q_t_width 6 out, xO q_a 6 [v_a_flow, v_a_tape, .int a_reaches, .int a_ropes, v_a_hands, v_a_boats, v_a_muds, v_a_loose, v_a_kind, .ref q_a_wide, v_a_bank, v_a_mud, .ref q_a_ropeAt, .ref q_a_pulls, v_a_bears, v_a_strong, v_a_boatWide, v_a_boatDeep], xI G q_a_wide 6 a_wide, xI G q_a_ropeAt 7 a_ropeAt, xI G q_a_pulls 7 a_pulls] A) args s 0 0 A) (F0 m 72 ls [])) : ∀ (n : Nat) (x3 : Int32) (t_width : Nat → Int32) (H : Heap) (locs : List Loc) (ls : Array Slot), f_X8_narrow_L30 k_72 x2 a_ropes a_ropeAt a_pulls n x3 t_width = some out → mx_W G s A [xO q_t 8 [.ref q_t_width, v_t_comes, v_t_depth, v_t_spill, v_t_harmAt, v_t_below, v_t_allHarm, v_t_spilling], xI G q_t_width 6 t_width, xO q_a 6 [v_a_flow, v_a_tape, .int a_reaches, .int a_ropes, v_a_hands, v_a_boats, v_a_muds, v_a_loose, v_a_kind, .ref q_a_wide, v_a_bank, v_a_mud, .ref q_a_ropeAt, .ref q_a_pulls, v_a_bears, v_a_strong, v_a_boatWide, v_a_boatDeep], xI G q_a_wide 6 a_wide, xI G q_a_ropeAt 7 a_ropeAt, xI G q_a_pulls 7 a_pulls] H locs → lv_has ls 4 [(0, .ref q_t), (1, .ref q_a), (2, .int x2), (3, .int x3)] → W p l e rm_X8_narrow s m args below meth c H locs 0 0 (MQ below (mx_Q G none [xO q_t 8 [.ref q_t_width, v_t_comes, v_t_depth, v_t_spill, v_t_harmAt, v_t_below, v_t_allHarm, v_t_spilling], xI G q_t_width 6 out, xO q_a 6 [v_a_flow, v_a_tape, .int a_reaches, .int a_ropes, v_a_hands, v_a_boats, v_a_muds, v_a_loose, v_a_kind, .ref q_a_wide, v_a_bank, v_a_mud, .ref q_a_ropeAt, .ref q_a_pulls, v_a_bears, v_a_strong, v_a_boatWide, v_a_boatDeep], xI G q_a_wide 6 a_wide, xI G q_a_ropeAt 7 a_ropeAt, xI G q_a_pulls 7 a_pulls] A) args s 0 0 A) (F0 m 30 ls []) := by
  obtain ⟨hx, hb, hml, hown, hts, hKN, -⟩ := id X
  intro n
  induction n with
  | zero => intro x3 t_width H locs ls hm hW hl; exact absurd (show none = some out from hm) (fun h => by cases h)
  | succ n ih =>
    intro x3 t_width H locs ls hm hW hl
    rw [f_X8_narrow_L30] at hm
    refine lv_iload_n hx hb dX8_narrow_30 rfl (lv_at hl 3 rfl) ?_
    refine lv_aload_n hx hb dX8_narrow_31 rfl (lv_at hl 1 rfl) ?_
    refine mx_get (C := RX6) (T := TX6) (N := 18) (ci := 6) X hW 2 rfl rfl tbc_X6 3 (by decide) kw_601 rfl dX8_narrow_32 ?_
    refine lv_icmp_ge (tgt := 72) hx hb dX8_narrow_35 (by decide) (fun c6 => ?_) (fun c6 => ?_)
    · have hm := (if_pos c6).symm.trans hm
      exact hk_72 t_width _ _ _ hm hW (lv_sub hl [0, 1] rfl)
    · have hm := (if_neg c6).symm.trans hm
      refine lv_iload_n hx hb dX8_narrow_38 rfl (lv_at hl 2 rfl) ?_
      refine lv_iload_n hx hb dX8_narrow_39 rfl (lv_at hl 3 rfl) ?_
      obtain ⟨o7, ho7, hm⟩ := bd_s hm
      refine mx_callSN (n := 2) (As := [.int x2, .int x3]) (rest := []) (st1 := [.int o7]) (w2 := [xO q_t 8 [.ref q_t_width, v_t_comes, v_t_depth, v_t_spill, v_t_harmAt, v_t_below, v_t_allHarm, v_t_spilling], xI G q_t_width 6 t_width, xO q_a 6 [v_a_flow, v_a_tape, .int a_reaches, .int a_ropes, v_a_hands, v_a_boats, v_a_muds, v_a_loose, v_a_kind, .ref q_a_wide, v_a_bank, v_a_mud, .ref q_a_ropeAt, .ref q_a_pulls, v_a_bears, v_a_strong, v_a_boatWide, v_a_boatDeep], xI G q_a_wide 6 a_wide, xI G q_a_ropeAt 7 a_ropeAt, xI G q_a_pulls 7 a_pulls]) X hW hl.1 (c_X10_isIn l G x2 x3 o7 ho7) kn_18 kw_302 kw_2 kw_303 (by decide +kernel) ⟨rfl, rfl⟩ ⟨by decide, by decide⟩ ⟨Nat.zero_le _, Nat.zero_le _⟩ [] (by decide) rfl rfl rfl rfl rfl rfl (Nat.le_of_ble_eq_true rfl) rfl dX8_narrow_40 (fun H locs hW => ?_)
      refine lv_if_eq (tgt := 66) hx hb dX8_narrow_43 (by decide) (fun c8 => ?_) (fun c8 => ?_)
      · have hm := (if_pos c8).symm.trans hm
        refine lv_iinc (v := x3 + 1) (lv' := [(3, .int (x3 + 1)), (0, .ref q_t), (1, .ref q_a), (2, .int x2)]) hx hb dX8_narrow_66 hl (k := 3) rfl rfl (by decide) rfl (fun ls hl => ?_)
        refine lv_goto (tgt := 30) hx hb dX8_narrow_69 (by decide) ?_
        exact ih (x3 + 1) t_width _ _ _ hm hW (lv_sub hl [1, 2, 3, 0] rfl)
      · have hm := (if_neg c8).symm.trans hm
        refine lv_aload_n hx hb dX8_narrow_46 rfl (lv_at hl 0 rfl) ?_
        refine mx_get (C := RX8) (T := TX8) (N := 8) (ci := 8) X hW 0 rfl rfl tbc_X8 0 (by decide) kw_92 rfl dX8_narrow_47 ?_
        refine lv_aload_n hx hb dX8_narrow_50 rfl (lv_at hl 1 rfl) ?_
        refine mx_get (C := RX6) (T := TX6) (N := 18) (ci := 6) X hW 2 rfl rfl tbc_X6 12 (by decide) kw_602 rfl dX8_narrow_51 ?_
        refine lv_iload_n hx hb dX8_narrow_54 rfl (lv_at hl 3 rfl) ?_
        obtain ⟨hg9, hm⟩ := gd_s hm
        refine mx_iald X hW 4 rfl (inb_s hg9) dX8_narrow_55 ?_
        refine lv_dup2_11 hx hb dX8_narrow_56 rfl rfl ?_
        obtain ⟨hg10, hm⟩ := gd_s hm
        refine mx_iald X hW 1 rfl (inb_s hg10) dX8_narrow_57 ?_
        refine lv_aload_n hx hb dX8_narrow_58 rfl (lv_at hl 1 rfl) ?_
        refine mx_get (C := RX6) (T := TX6) (N := 18) (ci := 6) X hW 2 rfl rfl tbc_X6 13 (by decide) kw_603 rfl dX8_narrow_59 ?_
        refine lv_iload_n hx hb dX8_narrow_62 rfl (lv_at hl 3 rfl) ?_
        obtain ⟨hg11, hm⟩ := gd_s hm
        refine mx_iald X hW 5 rfl (inb_s hg11) dX8_narrow_63 ?_
        refine lv_isub hx hb dX8_narrow_64 ?_
        refine lv_topi (fun z12 ez12 => ?_)
        have hm := nm_s ez12 hm
        obtain ⟨hg13, hm⟩ := gd_s hm
        refine mx_iast (w2 := [xO q_t 8 [.ref q_t_width, v_t_comes, v_t_depth, v_t_spill, v_t_harmAt, v_t_below, v_t_allHarm, v_t_spilling], xI G q_t_width 6 (upd t_width (a_ropeAt x3.toNatClampNeg).toNatClampNeg z12), xO q_a 6 [v_a_flow, v_a_tape, .int a_reaches, .int a_ropes, v_a_hands, v_a_boats, v_a_muds, v_a_loose, v_a_kind, .ref q_a_wide, v_a_bank, v_a_mud, .ref q_a_ropeAt, .ref q_a_pulls, v_a_bears, v_a_strong, v_a_boatWide, v_a_boatDeep], xI G q_a_wide 6 a_wide, xI G q_a_ropeAt 7 a_ropeAt, xI G q_a_pulls 7 a_pulls]) X hW 1 rfl (inb_s hg13) rfl dX8_narrow_65 (fun H locs hW => ?_)
        obtain ⟨r14, er14⟩ : ∃ z, z = upd t_width (a_ropeAt x3.toNatClampNeg).toNatClampNeg z12 := ⟨_, rfl⟩
        have hm := nm_s er14 hm
        have hW : mx_W G s A [xO q_t 8 [.ref q_t_width, v_t_comes, v_t_depth, v_t_spill, v_t_harmAt, v_t_below, v_t_allHarm, v_t_spilling], xI G q_t_width 6 r14, xO q_a 6 [v_a_flow, v_a_tape, .int a_reaches, .int a_ropes, v_a_hands, v_a_boats, v_a_muds, v_a_loose, v_a_kind, .ref q_a_wide, v_a_bank, v_a_mud, .ref q_a_ropeAt, .ref q_a_pulls, v_a_bears, v_a_strong, v_a_boatWide, v_a_boatDeep], xI G q_a_wide 6 a_wide, xI G q_a_ropeAt 7 a_ropeAt, xI G q_a_pulls 7 a_pulls] H locs := by rw [er14]; exact hW
        refine lv_iinc (v := x3 + 1) (lv' := [(3, .int (x3 + 1)), (0, .ref q_t), (1, .ref q_a), (2, .int x2)]) hx hb dX8_narrow_66 hl (k := 3) rfl rfl (by decide) rfl (fun ls hl => ?_)
        refine lv_goto (tgt := 30) hx hb dX8_narrow_69 (by decide) ?_
        exact ih (x3 + 1) r14 _ _ _ hm hW (lv_sub hl [1, 2, 3, 0] rfl)
set_option maxHeartbeats 4000000 in
set_option maxRecDepth 100000 in
theorem w_X8_narrow_L74 {p : Program} {l : Launch} {e : Env} {s : State} {m : MethodId} {args : Array Value} {below : List Frame} {meth : Method} {c : Code} {A : Nat → Prop} {G : mx_G} (X : mx_X p s m args meth c RX8 "narrow" cX8_narrow 4 none G) (q_t : Nat) (q_t_width : Nat) (q_a : Nat) (q_a_wide : Nat) (q_a_ropeAt : Nat) (q_a_pulls : Nat) (v_t_comes : Value) (v_t_depth : Value) (v_t_spill : Value) (v_t_harmAt : Value) (v_t_below : Value) (v_t_allHarm : Value) (v_t_spilling : Value) (v_a_flow : Value) (v_a_tape : Value) (v_a_hands : Value) (v_a_boats : Value) (v_a_muds : Value) (v_a_loose : Value) (v_a_kind : Value) (v_a_bank : Value) (v_a_mud : Value) (v_a_bears : Value) (v_a_strong : Value) (v_a_boatWide : Value) (v_a_boatDeep : Value) (a_reaches : Int32) (a_ropes : Int32) (a_wide : Nat → Int32) (a_ropeAt : Nat → Int32) (a_pulls : Nat → Int32)  (out : Nat → Int32) (k_104 : (Nat → Int32) → Option (Nat → Int32)) (hk_104 : ∀ (t_width : Nat → Int32) (H : Heap) (locs : List Loc) (ls : Array Slot), k_104 t_width = some out → mx_W G s A [xO q_t 8 [.ref q_t_width, v_t_comes, v_t_depth, v_t_spill, v_t_harmAt, v_t_below, v_t_allHarm, v_t_spilling], xI G q_t_width 6 t_width, xO q_a 6 [v_a_flow, v_a_tape, .int a_reaches, .int a_ropes, v_a_hands, v_a_boats, v_a_muds, v_a_loose, v_a_kind, .ref q_a_wide, v_a_bank, v_a_mud, .ref q_a_ropeAt, .ref q_a_pulls, v_a_bears, v_a_strong, v_a_boatWide, v_a_boatDeep], xI G q_a_wide 6 a_wide, xI G q_a_ropeAt 7 a_ropeAt, xI G q_a_pulls 7 a_pulls] H locs → lv_has ls 4 [] → W p l e rm_X8_narrow s m args below meth c H locs 0 0 (MQ below (mx_Q G none [xO q_t 8 [.ref q_t_width, v_t_comes, v_t_depth, v_t_spill, v_t_harmAt, v_t_below, v_t_allHarm, v_t_spilling], xI G q_t_width 6 out, xO q_a 6 [v_a_flow, v_a_tape, .int a_reaches, .int a_ropes, v_a_hands, v_a_boats, v_a_muds, v_a_loose, v_a_kind, .ref q_a_wide, v_a_bank, v_a_mud, .ref q_a_ropeAt, .ref q_a_pulls, v_a_bears, v_a_strong, v_a_boatWide, v_a_boatDeep], xI G q_a_wide 6 a_wide, xI G q_a_ropeAt 7 a_ropeAt, xI G q_a_pulls 7 a_pulls] A) args s 0 0 A) (F0 m 104 ls [])) : ∀ (n : Nat) (x3 : Int32) (t_width : Nat → Int32) (H : Heap) (locs : List Loc) (ls : Array Slot), f_X8_narrow_L74 k_104 a_reaches n x3 t_width = some out → mx_W G s A [xO q_t 8 [.ref q_t_width, v_t_comes, v_t_depth, v_t_spill, v_t_harmAt, v_t_below, v_t_allHarm, v_t_spilling], xI G q_t_width 6 t_width, xO q_a 6 [v_a_flow, v_a_tape, .int a_reaches, .int a_ropes, v_a_hands, v_a_boats, v_a_muds, v_a_loose, v_a_kind, .ref q_a_wide, v_a_bank, v_a_mud, .ref q_a_ropeAt, .ref q_a_pulls, v_a_bears, v_a_strong, v_a_boatWide, v_a_boatDeep], xI G q_a_wide 6 a_wide, xI G q_a_ropeAt 7 a_ropeAt, xI G q_a_pulls 7 a_pulls] H locs → lv_has ls 4 [(0, .ref q_t), (1, .ref q_a), (3, .int x3)] → W p l e rm_X8_narrow s m args below meth c H locs 0 0 (MQ below (mx_Q G none [xO q_t 8 [.ref q_t_width, v_t_comes, v_t_depth, v_t_spill, v_t_harmAt, v_t_below, v_t_allHarm, v_t_spilling], xI G q_t_width 6 out, xO q_a 6 [v_a_flow, v_a_tape, .int a_reaches, .int a_ropes, v_a_hands, v_a_boats, v_a_muds, v_a_loose, v_a_kind, .ref q_a_wide, v_a_bank, v_a_mud, .ref q_a_ropeAt, .ref q_a_pulls, v_a_bears, v_a_strong, v_a_boatWide, v_a_boatDeep], xI G q_a_wide 6 a_wide, xI G q_a_ropeAt 7 a_ropeAt, xI G q_a_pulls 7 a_pulls] A) args s 0 0 A) (F0 m 74 ls []) := by
  obtain ⟨hx, hb, hml, hown, hts, hKN, -⟩ := id X
  intro n
  induction n with
  | zero => intro x3 t_width H locs ls hm hW hl; exact absurd (show none = some out from hm) (fun h => by cases h)
  | succ n ih =>
    intro x3 t_width H locs ls hm hW hl
    rw [f_X8_narrow_L74] at hm
    refine lv_iload_n hx hb dX8_narrow_74 rfl (lv_at hl 2 rfl) ?_
    refine lv_aload_n hx hb dX8_narrow_75 rfl (lv_at hl 1 rfl) ?_
    refine mx_get (C := RX6) (T := TX6) (N := 18) (ci := 6) X hW 2 rfl rfl tbc_X6 2 (by decide) kw_599 rfl dX8_narrow_76 ?_
    refine lv_icmp_ge (tgt := 104) hx hb dX8_narrow_79 (by decide) (fun c15 => ?_) (fun c15 => ?_)
    · have hm := (if_pos c15).symm.trans hm
      exact hk_104 t_width _ _ _ hm hW (lv_sub hl [] rfl)
    · have hm := (if_neg c15).symm.trans hm
      refine lv_aload_n hx hb dX8_narrow_82 rfl (lv_at hl 0 rfl) ?_
      refine mx_get (C := RX8) (T := TX8) (N := 8) (ci := 8) X hW 0 rfl rfl tbc_X8 0 (by decide) kw_92 rfl dX8_narrow_83 ?_
      refine lv_iload_n hx hb dX8_narrow_86 rfl (lv_at hl 2 rfl) ?_
      refine lv_iconst (v := 1) hx hb dX8_narrow_87 (by decide) ?_
      refine lv_aload_n hx hb dX8_narrow_88 rfl (lv_at hl 0 rfl) ?_
      refine mx_get (C := RX8) (T := TX8) (N := 8) (ci := 8) X hW 0 rfl rfl tbc_X8 0 (by decide) kw_92 rfl dX8_narrow_89 ?_
      refine lv_iload_n hx hb dX8_narrow_92 rfl (lv_at hl 2 rfl) ?_
      obtain ⟨hg16, hm⟩ := gd_s hm
      refine mx_iald X hW 1 rfl (inb_s hg16) dX8_narrow_93 ?_
      refine mx_max X hl.1 kw_604 ⟨by decide, Nat.le_of_ble_eq_true rfl⟩ ⟨Nat.zero_le _, Nat.zero_le _⟩ dX8_narrow_94 ?_
      refine lv_topi (fun z17 ez17 => ?_)
      have hm := nm_s ez17 hm
      obtain ⟨hg18, hm⟩ := gd_s hm
      refine mx_iast (w2 := [xO q_t 8 [.ref q_t_width, v_t_comes, v_t_depth, v_t_spill, v_t_harmAt, v_t_below, v_t_allHarm, v_t_spilling], xI G q_t_width 6 (upd t_width x3.toNatClampNeg z17), xO q_a 6 [v_a_flow, v_a_tape, .int a_reaches, .int a_ropes, v_a_hands, v_a_boats, v_a_muds, v_a_loose, v_a_kind, .ref q_a_wide, v_a_bank, v_a_mud, .ref q_a_ropeAt, .ref q_a_pulls, v_a_bears, v_a_strong, v_a_boatWide, v_a_boatDeep], xI G q_a_wide 6 a_wide, xI G q_a_ropeAt 7 a_ropeAt, xI G q_a_pulls 7 a_pulls]) X hW 1 rfl (inb_s hg18) rfl dX8_narrow_97 (fun H locs hW => ?_)
      obtain ⟨r19, er19⟩ : ∃ z, z = upd t_width x3.toNatClampNeg z17 := ⟨_, rfl⟩
      have hm := nm_s er19 hm
      have hW : mx_W G s A [xO q_t 8 [.ref q_t_width, v_t_comes, v_t_depth, v_t_spill, v_t_harmAt, v_t_below, v_t_allHarm, v_t_spilling], xI G q_t_width 6 r19, xO q_a 6 [v_a_flow, v_a_tape, .int a_reaches, .int a_ropes, v_a_hands, v_a_boats, v_a_muds, v_a_loose, v_a_kind, .ref q_a_wide, v_a_bank, v_a_mud, .ref q_a_ropeAt, .ref q_a_pulls, v_a_bears, v_a_strong, v_a_boatWide, v_a_boatDeep], xI G q_a_wide 6 a_wide, xI G q_a_ropeAt 7 a_ropeAt, xI G q_a_pulls 7 a_pulls] H locs := by rw [er19]; exact hW
      refine lv_iinc (v := x3 + 1) (lv' := [(3, .int (x3 + 1)), (0, .ref q_t), (1, .ref q_a)]) hx hb dX8_narrow_98 hl (k := 2) rfl rfl (by decide) rfl (fun ls hl => ?_)
      refine lv_goto (tgt := 74) hx hb dX8_narrow_101 (by decide) ?_
      exact ih (x3 + 1) r19 _ _ _ hm hW (lv_sub hl [1, 2, 0] rfl)
set_option maxHeartbeats 4000000 in
set_option maxRecDepth 100000 in
theorem c_X8_narrow (l : Launch) (G : mx_G) (q_t : Nat) (q_t_width : Nat) (q_a : Nat) (q_a_wide : Nat) (q_a_ropeAt : Nat) (q_a_pulls : Nat) (v_t_comes : Value) (v_t_depth : Value) (v_t_spill : Value) (v_t_harmAt : Value) (v_t_below : Value) (v_t_allHarm : Value) (v_t_spilling : Value) (v_a_flow : Value) (v_a_tape : Value) (v_a_hands : Value) (v_a_boats : Value) (v_a_muds : Value) (v_a_loose : Value) (v_a_kind : Value) (v_a_bank : Value) (v_a_mud : Value) (v_a_bears : Value) (v_a_strong : Value) (v_a_boatWide : Value) (v_a_boatDeep : Value) (t_width : Nat → Int32) (a_reaches : Int32) (a_ropes : Int32) (a_wide : Nat → Int32) (a_ropeAt : Nat → Int32) (a_pulls : Nat → Int32) (p2 : Int32) (out : Nat → Int32) (hm : f_X8_narrow p2 t_width a_reaches a_ropes a_wide a_ropeAt a_pulls = some out) : mx_C l yX8_narrow cX8_narrow 4 none rm_X8_narrow G [.ref q_t, .ref q_a, .int p2] [xO q_t 8 [.ref q_t_width, v_t_comes, v_t_depth, v_t_spill, v_t_harmAt, v_t_below, v_t_allHarm, v_t_spilling], xI G q_t_width 6 t_width, xO q_a 6 [v_a_flow, v_a_tape, .int a_reaches, .int a_ropes, v_a_hands, v_a_boats, v_a_muds, v_a_loose, v_a_kind, .ref q_a_wide, v_a_bank, v_a_mud, .ref q_a_ropeAt, .ref q_a_pulls, v_a_bears, v_a_strong, v_a_boatWide, v_a_boatDeep], xI G q_a_wide 6 a_wide, xI G q_a_ropeAt 7 a_ropeAt, xI G q_a_pulls 7 a_pulls] none [xO q_t 8 [.ref q_t_width, v_t_comes, v_t_depth, v_t_spill, v_t_harmAt, v_t_below, v_t_allHarm, v_t_spilling], xI G q_t_width 6 out, xO q_a 6 [v_a_flow, v_a_tape, .int a_reaches, .int a_ropes, v_a_hands, v_a_boats, v_a_muds, v_a_loose, v_a_kind, .ref q_a_wide, v_a_bank, v_a_mud, .ref q_a_ropeAt, .ref q_a_pulls, v_a_bears, v_a_strong, v_a_boatWide, v_a_boatDeep], xI G q_a_wide 6 a_wide, xI G q_a_ropeAt 7 a_ropeAt, xI G q_a_pulls 7 a_pulls] := by
  refine mx_enter (own := RX8) (name := "narrow") (lv := [(0, .ref q_t), (1, .ref q_a), (2, .int p2)]) (by decide) rfl rfl (Nat.le_of_ble_eq_true rfl) rfl ?_
  intro p e s m args below meth c A ls X hW hl
  obtain ⟨hx, hb, hml, hown, hts, hKN, -⟩ := id X
  unfold f_X8_narrow at hm
  refine lv_iconst (v := 0) hx hb dX8_narrow_0 (by decide) ?_
  refine lv_istore_n (lv' := [(3, .int 0), (0, .ref q_t), (1, .ref q_a), (2, .int p2)]) hx hb dX8_narrow_1 rfl hl (by decide) rfl (fun ls hl => ?_)
  refine w_X8_narrow_L2 X q_t q_t_width q_a q_a_wide q_a_ropeAt q_a_pulls (v_t_comes) (v_t_depth) (v_t_spill) (v_t_harmAt) (v_t_below) (v_t_allHarm) (v_t_spilling) (v_a_flow) (v_a_tape) (v_a_hands) (v_a_boats) (v_a_muds) (v_a_loose) (v_a_kind) (v_a_bank) (v_a_mud) (v_a_bears) (v_a_strong) (v_a_boatWide) (v_a_boatDeep) a_reaches a_ropes a_wide a_ropeAt a_pulls p2 out _ (fun t_width_2 H locs ls hm hW hl => ?_) _ 0 t_width _ _ _ hm hW (lv_sub hl [1, 2, 3, 0] rfl)
  refine lv_iconst (v := 0) hx hb dX8_narrow_28 (by decide) ?_
  refine lv_istore_n (lv' := [(3, .int 0), (0, .ref q_t), (1, .ref q_a), (2, .int p2)]) hx hb dX8_narrow_29 rfl hl (by decide) rfl (fun ls hl => ?_)
  refine w_X8_narrow_L30 X q_t q_t_width q_a q_a_wide q_a_ropeAt q_a_pulls (v_t_comes) (v_t_depth) (v_t_spill) (v_t_harmAt) (v_t_below) (v_t_allHarm) (v_t_spilling) (v_a_flow) (v_a_tape) (v_a_hands) (v_a_boats) (v_a_muds) (v_a_loose) (v_a_kind) (v_a_bank) (v_a_mud) (v_a_bears) (v_a_strong) (v_a_boatWide) (v_a_boatDeep) a_reaches a_ropes a_wide a_ropeAt a_pulls p2 out _ (fun t_width_30 H locs ls hm hW hl => ?_) _ 0 t_width_2 _ _ _ hm hW (lv_sub hl [1, 2, 3, 0] rfl)
  refine lv_iconst (v := 0) hx hb dX8_narrow_72 (by decide) ?_
  refine lv_istore_n (lv' := [(3, .int 0), (0, .ref q_t), (1, .ref q_a)]) hx hb dX8_narrow_73 rfl hl (by decide) rfl (fun ls hl => ?_)
  refine w_X8_narrow_L74 X q_t q_t_width q_a q_a_wide q_a_ropeAt q_a_pulls (v_t_comes) (v_t_depth) (v_t_spill) (v_t_harmAt) (v_t_below) (v_t_allHarm) (v_t_spilling) (v_a_flow) (v_a_tape) (v_a_hands) (v_a_boats) (v_a_muds) (v_a_loose) (v_a_kind) (v_a_bank) (v_a_mud) (v_a_bears) (v_a_strong) (v_a_boatWide) (v_a_boatDeep) a_reaches a_ropes a_wide a_ropeAt a_pulls out _ (fun t_width_74 H locs ls hm hW hl => ?_) _ 0 t_width_30 _ _ _ hm hW (lv_sub hl [1, 2, 0] rfl)
  obtain rfl := Option.some.inj hm
  exact mx_vret X hW dX8_narrow_104

abbrev rm_X8_harmBySpill : Room := { frames := 0, cells := 0, slots := 0, locals := 0 }
noncomputable def f_X8_harmBySpill (p1 : Int32) (p2 : Int32) : Option (Int32) :=
  
(if p1 = 1 then
  some 0
else (if p1 = 2 then
  some (2 * p2)
else (if p1 = 3 then
  (if p2 ≤ 0 then
    some 0
  else
    some (p2 + 20))
else 
  some p2)))
set_option maxHeartbeats 4000000 in
set_option maxRecDepth 100000 in
theorem c_X8_harmBySpill (l : Launch) (G : mx_G) (p1 : Int32) (p2 : Int32) (out : Int32) (hm : f_X8_harmBySpill p1 p2 = some out) : mx_C l yX8_harmBySpill cX8_harmBySpill 2 (some .int) rm_X8_harmBySpill G [.int p1, .int p2] [] (some (.int out)) [] := by
  refine mx_enter (own := RX8) (name := "harmBySpill") (lv := [(0, .int p1), (1, .int p2)]) (by decide) rfl rfl (Nat.le_of_ble_eq_true rfl) rfl ?_
  intro p e s m args below meth c A ls X hW hl
  obtain ⟨hx, hb, hml, hown, hts, hKN, -⟩ := id X
  unfold f_X8_harmBySpill at hm
  refine lv_iload_n hx hb dX8_harmBySpill_0 rfl (lv_at hl 0 rfl) ?_
  by_cases c1 : p1 = 1
  · have hm := (if_pos c1).symm.trans hm
    refine lv_tableIn (off := 27) (tgt := 28) hx hb dX8_harmBySpill_1 (by rw [c1]; decide) (by rw [c1]; decide) (by rw [c1]; rfl) (by decide) ?_
    refine lv_iconst (v := 0) hx hb dX8_harmBySpill_28 (by decide) ?_
    obtain rfl := Option.some.inj hm
    exact mx_iret X hW dX8_harmBySpill_29
  have hm := (if_neg c1).symm.trans hm
  by_cases c2 : p1 = 2
  · have hm := (if_pos c2).symm.trans hm
    refine lv_tableIn (off := 29) (tgt := 30) hx hb dX8_harmBySpill_1 (by rw [c2]; decide) (by rw [c2]; decide) (by rw [c2]; rfl) (by decide) ?_
    refine lv_iconst (v := 2) hx hb dX8_harmBySpill_30 (by decide) ?_
    refine lv_iload_n hx hb dX8_harmBySpill_31 rfl (lv_at hl 1 rfl) ?_
    refine lv_imul hx hb dX8_harmBySpill_32 ?_
    obtain rfl := Option.some.inj hm
    exact mx_iret X hW dX8_harmBySpill_33
  have hm := (if_neg c2).symm.trans hm
  by_cases c3 : p1 = 3
  · have hm := (if_pos c3).symm.trans hm
    refine lv_tableIn (off := 33) (tgt := 34) hx hb dX8_harmBySpill_1 (by rw [c3]; decide) (by rw [c3]; decide) (by rw [c3]; rfl) (by decide) ?_
    refine lv_iload_n hx hb dX8_harmBySpill_34 rfl (lv_at hl 1 rfl) ?_
    refine lv_if_le (tgt := 45) hx hb dX8_harmBySpill_35 (by decide) (fun c4 => ?_) (fun c4 => ?_)
    · have hm := (if_pos c4).symm.trans hm
      refine lv_iconst (v := 0) hx hb dX8_harmBySpill_45 (by decide) ?_
      obtain rfl := Option.some.inj hm
      exact mx_iret X hW dX8_harmBySpill_46
    · have hm := (if_neg c4).symm.trans hm
      refine lv_iload_n hx hb dX8_harmBySpill_38 rfl (lv_at hl 1 rfl) ?_
      refine lv_bipush (v := 20) hx hb dX8_harmBySpill_39 (by decide) ?_
      refine lv_iadd hx hb dX8_harmBySpill_41 ?_
      refine lv_goto (tgt := 46) hx hb dX8_harmBySpill_42 (by decide) ?_
      obtain rfl := Option.some.inj hm
      exact mx_iret X hW dX8_harmBySpill_46
  have hm := (if_neg c3).symm.trans hm
  have tc1 := ne_i (k := 1) (n := 1) rfl c1
  have tc2 := ne_i (k := 2) (n := 2) rfl c2
  have tc3 := ne_i (k := 3) (n := 3) rfl c3
  refine lv_tableOut (tgt := 47) hx hb dX8_harmBySpill_1 (by omega) (by decide) ?_
  refine lv_iload_n hx hb dX8_harmBySpill_47 rfl (lv_at hl 1 rfl) ?_
  obtain rfl := Option.some.inj hm
  exact mx_iret X hW dX8_harmBySpill_48

abbrev rm_X8_pourInto : Room := { frames := 1, cells := 0, slots := 0, locals := 21 }
noncomputable def f_X8_pourInto_B121  (x2 : Int32) (t_comes : Nat → Int32) (t_depth : Nat → Int32) (t_spill : Nat → Int32) (t_harmAt : Nat → Int32) (t_below : Int32) (t_allHarm : Int32) (t_spilling : Int32) : Option ((Nat → Int32) × (Nat → Int32) × (Nat → Int32) × (Nat → Int32) × Int32 × Int32 × Int32) :=
  gd (inb x2 6) <| (if (t_spill x2.toNatClampNeg) ≤ 0 then
    gd (inb x2 6) <| nm (t_allHarm + (t_harmAt x2.toNatClampNeg)) fun z26 => some (t_comes, t_depth, t_spill, t_harmAt, t_below, z26, t_spilling)
  else
    nm (t_spilling ||| (1 <<< (x2 &&& 31))) fun z27 => gd (inb x2 6) <| nm (t_allHarm + (t_harmAt x2.toNatClampNeg)) fun z29 => some (t_comes, t_depth, t_spill, t_harmAt, t_below, z29, z27))
noncomputable def f_X8_pourInto (p2 : Int32) (t_width : Nat → Int32) (t_comes : Nat → Int32) (t_depth : Nat → Int32) (t_spill : Nat → Int32) (t_harmAt : Nat → Int32) (t_below : Int32) (t_allHarm : Int32) (t_spilling : Int32) (a_kind : Nat → Int32) (a_bank : Nat → Int32) : Option ((Nat → Int32) × (Nat → Int32) × (Nat → Int32) × (Nat → Int32) × Int32 × Int32 × Int32) :=
  gd (inb p2 6) <| nm (if 1 < (t_width p2.toNatClampNeg) then (t_width p2.toNatClampNeg) else 1) fun z2 => gd (inb p2 6) <| nm (upd t_comes p2.toNatClampNeg t_below) fun r4 => gd (nz z2) <| nm (t_below / z2) fun z6 => gd (inb p2 6) <| nm (upd t_depth p2.toNatClampNeg z6) fun r8 => gd (inb p2 6) <| gd (inb p2 6) <| nm ((if 0 < ((r8 p2.toNatClampNeg) - (a_bank p2.toNatClampNeg)) then ((r8 p2.toNatClampNeg) - (a_bank p2.toNatClampNeg)) else 0) * z2) fun z11 => gd (inb p2 6) <| nm (upd t_spill p2.toNatClampNeg z11) fun r13 => gd (inb p2 6) <| gd (inb p2 6) <| (f_X8_harmBySpill (a_kind p2.toNatClampNeg) (r13 p2.toNatClampNeg)).bind fun o16 => gd (inb p2 6) <| nm (upd t_harmAt p2.toNatClampNeg o16) fun r18 => gd (inb p2 6) <| nm (t_below - (r13 p2.toNatClampNeg)) fun z20 => gd (inb p2 6) <| (if (a_kind p2.toNatClampNeg) = 1 then
    gd (inb p2 6) <| nm (z20 + ((r13 p2.toNatClampNeg) / 2)) fun z31 => f_X8_pourInto_B121  p2 r4 r8 r13 r18 z31 t_allHarm t_spilling
  else
    f_X8_pourInto_B121  p2 r4 r8 r13 r18 z20 t_allHarm t_spilling)
set_option maxHeartbeats 4000000 in
set_option maxRecDepth 100000 in
theorem w_X8_pourInto_B121 {p : Program} {l : Launch} {e : Env} {s : State} {m : MethodId} {args : Array Value} {below : List Frame} {meth : Method} {c : Code} {A : Nat → Prop} {G : mx_G} (X : mx_X p s m args meth c RX8 "pourInto" cX8_pourInto 4 none G) (q_t : Nat) (q_t_width : Nat) (q_t_comes : Nat) (q_t_depth : Nat) (q_t_spill : Nat) (q_t_harmAt : Nat) (q_a : Nat) (q_a_kind : Nat) (q_a_bank : Nat) (v_a_flow : Value) (v_a_tape : Value) (v_a_reaches : Value) (v_a_ropes : Value) (v_a_hands : Value) (v_a_boats : Value) (v_a_muds : Value) (v_a_loose : Value) (v_a_wide : Value) (v_a_mud : Value) (v_a_ropeAt : Value) (v_a_pulls : Value) (v_a_bears : Value) (v_a_strong : Value) (v_a_boatWide : Value) (v_a_boatDeep : Value) (t_width : Nat → Int32) (a_kind : Nat → Int32) (a_bank : Nat → Int32) (out : (Nat → Int32) × (Nat → Int32) × (Nat → Int32) × (Nat → Int32) × Int32 × Int32 × Int32)   : ∀ (x2 : Int32) (t_comes : Nat → Int32) (t_depth : Nat → Int32) (t_spill : Nat → Int32) (t_harmAt : Nat → Int32) (t_below : Int32) (t_allHarm : Int32) (t_spilling : Int32) (H : Heap) (locs : List Loc) (ls : Array Slot), f_X8_pourInto_B121  x2 t_comes t_depth t_spill t_harmAt t_below t_allHarm t_spilling = some out → mx_W G s A [xO q_t 8 [.ref q_t_width, .ref q_t_comes, .ref q_t_depth, .ref q_t_spill, .ref q_t_harmAt, .int t_below, .int t_allHarm, .int t_spilling], xI G q_t_width 6 t_width, xI G q_t_comes 6 t_comes, xI G q_t_depth 6 t_depth, xI G q_t_spill 6 t_spill, xI G q_t_harmAt 6 t_harmAt, xO q_a 6 [v_a_flow, v_a_tape, v_a_reaches, v_a_ropes, v_a_hands, v_a_boats, v_a_muds, v_a_loose, .ref q_a_kind, v_a_wide, .ref q_a_bank, v_a_mud, v_a_ropeAt, v_a_pulls, v_a_bears, v_a_strong, v_a_boatWide, v_a_boatDeep], xI G q_a_kind 6 a_kind, xI G q_a_bank 6 a_bank] H locs → lv_has ls 4 [(0, .ref q_t), (2, .int x2)] → W p l e rm_X8_pourInto s m args below meth c H locs 0 0 (MQ below (mx_Q G none [xO q_t 8 [.ref q_t_width, .ref q_t_comes, .ref q_t_depth, .ref q_t_spill, .ref q_t_harmAt, .int out.2.2.2.2.1, .int out.2.2.2.2.2.1, .int out.2.2.2.2.2.2], xI G q_t_width 6 t_width, xI G q_t_comes 6 out.1, xI G q_t_depth 6 out.2.1, xI G q_t_spill 6 out.2.2.1, xI G q_t_harmAt 6 out.2.2.2.1, xO q_a 6 [v_a_flow, v_a_tape, v_a_reaches, v_a_ropes, v_a_hands, v_a_boats, v_a_muds, v_a_loose, .ref q_a_kind, v_a_wide, .ref q_a_bank, v_a_mud, v_a_ropeAt, v_a_pulls, v_a_bears, v_a_strong, v_a_boatWide, v_a_boatDeep], xI G q_a_kind 6 a_kind, xI G q_a_bank 6 a_bank] A) args s 0 0 A) (F0 m 121 ls []) := by
  obtain ⟨hx, hb, hml, hown, hts, hKN, -⟩ := id X
  intro x2 t_comes t_depth t_spill t_harmAt t_below t_allHarm t_spilling H locs ls hm hW hl
  unfold f_X8_pourInto_B121 at hm
  refine lv_aload_n hx hb dX8_pourInto_121 rfl (lv_at hl 0 rfl) ?_
  refine mx_get (C := RX8) (T := TX8) (N := 8) (ci := 8) X hW 0 rfl rfl tbc_X8 3 (by decide) kw_95 rfl dX8_pourInto_122 ?_
  refine lv_iload_n hx hb dX8_pourInto_125 rfl (lv_at hl 1 rfl) ?_
  obtain ⟨hg23, hm⟩ := gd_s hm
  refine mx_iald X hW 4 rfl (inb_s hg23) dX8_pourInto_126 ?_
  refine lv_if_le (tgt := 142) hx hb dX8_pourInto_127 (by decide) (fun c24 => ?_) (fun c24 => ?_)
  · have hm := (if_pos c24).symm.trans hm
    refine lv_aload_n hx hb dX8_pourInto_142 rfl (lv_at hl 0 rfl) ?_
    refine lv_dup hx hb dX8_pourInto_143 rfl ?_
    refine mx_get (C := RX8) (T := TX8) (N := 8) (ci := 8) X hW 0 rfl rfl tbc_X8 6 (by decide) kw_612 rfl dX8_pourInto_144 ?_
    refine lv_aload_n hx hb dX8_pourInto_147 rfl (lv_at hl 0 rfl) ?_
    refine mx_get (C := RX8) (T := TX8) (N := 8) (ci := 8) X hW 0 rfl rfl tbc_X8 4 (by decide) kw_96 rfl dX8_pourInto_148 ?_
    refine lv_iload_n hx hb dX8_pourInto_151 rfl (lv_at hl 1 rfl) ?_
    obtain ⟨hg25, hm⟩ := gd_s hm
    refine mx_iald X hW 5 rfl (inb_s hg25) dX8_pourInto_152 ?_
    refine lv_iadd hx hb dX8_pourInto_153 ?_
    refine lv_topi (fun z26 ez26 => ?_)
    have hm := nm_s ez26 hm
    refine mx_put (C := RX8) (T := TX8) (N := 8) (ci := 8) (w2 := [xO q_t 8 [.ref q_t_width, .ref q_t_comes, .ref q_t_depth, .ref q_t_spill, .ref q_t_harmAt, .int t_below, .int z26, .int t_spilling], xI G q_t_width 6 t_width, xI G q_t_comes 6 t_comes, xI G q_t_depth 6 t_depth, xI G q_t_spill 6 t_spill, xI G q_t_harmAt 6 t_harmAt, xO q_a 6 [v_a_flow, v_a_tape, v_a_reaches, v_a_ropes, v_a_hands, v_a_boats, v_a_muds, v_a_loose, .ref q_a_kind, v_a_wide, .ref q_a_bank, v_a_mud, v_a_ropeAt, v_a_pulls, v_a_bears, v_a_strong, v_a_boatWide, v_a_boatDeep], xI G q_a_kind 6 a_kind, xI G q_a_bank 6 a_bank]) X hW 0 rfl rfl tbc_X8 tyX8 tyX8_ok nmX8 6 (by decide) kw_612 rfl rfl rfl rfl (Nat.le_of_ble_eq_true rfl) rfl dX8_pourInto_154 (fun H locs hW => ?_)
    obtain rfl := Option.some.inj hm
    exact mx_vret X hW dX8_pourInto_157
  · have hm := (if_neg c24).symm.trans hm
    refine lv_aload_n hx hb dX8_pourInto_130 rfl (lv_at hl 0 rfl) ?_
    refine lv_dup hx hb dX8_pourInto_131 rfl ?_
    refine mx_get (C := RX8) (T := TX8) (N := 8) (ci := 8) X hW 0 rfl rfl tbc_X8 7 (by decide) kw_613 rfl dX8_pourInto_132 ?_
    refine lv_iconst (v := 1) hx hb dX8_pourInto_135 (by decide) ?_
    refine lv_iload_n hx hb dX8_pourInto_136 rfl (lv_at hl 1 rfl) ?_
    refine lv_ishl hx hb dX8_pourInto_137 ?_
    refine lv_ior hx hb dX8_pourInto_138 ?_
    refine lv_topi (fun z27 ez27 => ?_)
    have hm := nm_s ez27 hm
    refine mx_put (C := RX8) (T := TX8) (N := 8) (ci := 8) (w2 := [xO q_t 8 [.ref q_t_width, .ref q_t_comes, .ref q_t_depth, .ref q_t_spill, .ref q_t_harmAt, .int t_below, .int t_allHarm, .int z27], xI G q_t_width 6 t_width, xI G q_t_comes 6 t_comes, xI G q_t_depth 6 t_depth, xI G q_t_spill 6 t_spill, xI G q_t_harmAt 6 t_harmAt, xO q_a 6 [v_a_flow, v_a_tape, v_a_reaches, v_a_ropes, v_a_hands, v_a_boats, v_a_muds, v_a_loose, .ref q_a_kind, v_a_wide, .ref q_a_bank, v_a_mud, v_a_ropeAt, v_a_pulls, v_a_bears, v_a_strong, v_a_boatWide, v_a_boatDeep], xI G q_a_kind 6 a_kind, xI G q_a_bank 6 a_bank]) X hW 0 rfl rfl tbc_X8 tyX8 tyX8_ok nmX8 7 (by decide) kw_613 rfl rfl rfl rfl (Nat.le_of_ble_eq_true rfl) rfl dX8_pourInto_139 (fun H locs hW => ?_)
    refine lv_aload_n hx hb dX8_pourInto_142 rfl (lv_at hl 0 rfl) ?_
    refine lv_dup hx hb dX8_pourInto_143 rfl ?_
    refine mx_get (C := RX8) (T := TX8) (N := 8) (ci := 8) X hW 0 rfl rfl tbc_X8 6 (by decide) kw_612 rfl dX8_pourInto_144 ?_
    refine lv_aload_n hx hb dX8_pourInto_147 rfl (lv_at hl 0 rfl) ?_
    refine mx_get (C := RX8) (T := TX8) (N := 8) (ci := 8) X hW 0 rfl rfl tbc_X8 4 (by decide) kw_96 rfl dX8_pourInto_148 ?_
    refine lv_iload_n hx hb dX8_pourInto_151 rfl (lv_at hl 1 rfl) ?_
    obtain ⟨hg28, hm⟩ := gd_s hm
    refine mx_iald X hW 5 rfl (inb_s hg28) dX8_pourInto_152 ?_
    refine lv_iadd hx hb dX8_pourInto_153 ?_
    refine lv_topi (fun z29 ez29 => ?_)
    have hm := nm_s ez29 hm
    refine mx_put (C := RX8) (T := TX8) (N := 8) (ci := 8) (w2 := [xO q_t 8 [.ref q_t_width, .ref q_t_comes, .ref q_t_depth, .ref q_t_spill, .ref q_t_harmAt, .int t_below, .int z29, .int z27], xI G q_t_width 6 t_width, xI G q_t_comes 6 t_comes, xI G q_t_depth 6 t_depth, xI G q_t_spill 6 t_spill, xI G q_t_harmAt 6 t_harmAt, xO q_a 6 [v_a_flow, v_a_tape, v_a_reaches, v_a_ropes, v_a_hands, v_a_boats, v_a_muds, v_a_loose, .ref q_a_kind, v_a_wide, .ref q_a_bank, v_a_mud, v_a_ropeAt, v_a_pulls, v_a_bears, v_a_strong, v_a_boatWide, v_a_boatDeep], xI G q_a_kind 6 a_kind, xI G q_a_bank 6 a_bank]) X hW 0 rfl rfl tbc_X8 tyX8 tyX8_ok nmX8 6 (by decide) kw_612 rfl rfl rfl rfl (Nat.le_of_ble_eq_true rfl) rfl dX8_pourInto_154 (fun H locs hW => ?_)
    obtain rfl := Option.some.inj hm
    exact mx_vret X hW dX8_pourInto_157
set_option maxHeartbeats 4000000 in
set_option maxRecDepth 100000 in
theorem c_X8_pourInto (l : Launch) (G : mx_G) (q_t : Nat) (q_t_width : Nat) (q_t_comes : Nat) (q_t_depth : Nat) (q_t_spill : Nat) (q_t_harmAt : Nat) (q_a : Nat) (q_a_kind : Nat) (q_a_bank : Nat) (v_a_flow : Value) (v_a_tape : Value) (v_a_reaches : Value) (v_a_ropes : Value) (v_a_hands : Value) (v_a_boats : Value) (v_a_muds : Value) (v_a_loose : Value) (v_a_wide : Value) (v_a_mud : Value) (v_a_ropeAt : Value) (v_a_pulls : Value) (v_a_bears : Value) (v_a_strong : Value) (v_a_boatWide : Value) (v_a_boatDeep : Value) (t_width : Nat → Int32) (t_comes : Nat → Int32) (t_depth : Nat → Int32) (t_spill : Nat → Int32) (t_harmAt : Nat → Int32) (t_below : Int32) (t_allHarm : Int32) (t_spilling : Int32) (a_kind : Nat → Int32) (a_bank : Nat → Int32) (p2 : Int32) (out : (Nat → Int32) × (Nat → Int32) × (Nat → Int32) × (Nat → Int32) × Int32 × Int32 × Int32) (hm : f_X8_pourInto p2 t_width t_comes t_depth t_spill t_harmAt t_below t_allHarm t_spilling a_kind a_bank = some out) : mx_C l yX8_pourInto cX8_pourInto 4 none rm_X8_pourInto G [.ref q_t, .ref q_a, .int p2] [xO q_t 8 [.ref q_t_width, .ref q_t_comes, .ref q_t_depth, .ref q_t_spill, .ref q_t_harmAt, .int t_below, .int t_allHarm, .int t_spilling], xI G q_t_width 6 t_width, xI G q_t_comes 6 t_comes, xI G q_t_depth 6 t_depth, xI G q_t_spill 6 t_spill, xI G q_t_harmAt 6 t_harmAt, xO q_a 6 [v_a_flow, v_a_tape, v_a_reaches, v_a_ropes, v_a_hands, v_a_boats, v_a_muds, v_a_loose, .ref q_a_kind, v_a_wide, .ref q_a_bank, v_a_mud, v_a_ropeAt, v_a_pulls, v_a_bears, v_a_strong, v_a_boatWide, v_a_boatDeep], xI G q_a_kind 6 a_kind, xI G q_a_bank 6 a_bank] none [xO q_t 8 [.ref q_t_width, .ref q_t_comes, .ref q_t_depth, .ref q_t_spill, .ref q_t_harmAt, .int out.2.2.2.2.1, .int out.2.2.2.2.2.1, .int out.2.2.2.2.2.2], xI G q_t_width 6 t_width, xI G q_t_comes 6 out.1, xI G q_t_depth 6 out.2.1, xI G q_t_spill 6 out.2.2.1, xI G q_t_harmAt 6 out.2.2.2.1, xO q_a 6 [v_a_flow, v_a_tape, v_a_reaches, v_a_ropes, v_a_hands, v_a_boats, v_a_muds, v_a_loose, .ref q_a_kind, v_a_wide, .ref q_a_bank, v_a_mud, v_a_ropeAt, v_a_pulls, v_a_bears, v_a_strong, v_a_boatWide, v_a_boatDeep], xI G q_a_kind 6 a_kind, xI G q_a_bank 6 a_bank] := by
  refine mx_enter (own := RX8) (name := "pourInto") (lv := [(0, .ref q_t), (1, .ref q_a), (2, .int p2)]) (by decide) rfl rfl (Nat.le_of_ble_eq_true rfl) rfl ?_
  intro p e s m args below meth c A ls X hW hl
  obtain ⟨hx, hb, hml, hown, hts, hKN, -⟩ := id X
  unfold f_X8_pourInto at hm
  refine lv_iconst (v := 1) hx hb dX8_pourInto_0 (by decide) ?_
  refine lv_aload_n hx hb dX8_pourInto_1 rfl (lv_at hl 0 rfl) ?_
  refine mx_get (C := RX8) (T := TX8) (N := 8) (ci := 8) X hW 0 rfl rfl tbc_X8 0 (by decide) kw_92 rfl dX8_pourInto_2 ?_
  refine lv_iload_n hx hb dX8_pourInto_5 rfl (lv_at hl 2 rfl) ?_
  obtain ⟨hg1, hm⟩ := gd_s hm
  refine mx_iald X hW 1 rfl (inb_s hg1) dX8_pourInto_6 ?_
  refine mx_max X hl.1 kw_604 ⟨by decide, Nat.le_of_ble_eq_true rfl⟩ ⟨Nat.zero_le _, Nat.zero_le _⟩ dX8_pourInto_7 ?_
  refine lv_topi (fun z2 ez2 => ?_)
  have hm := nm_s ez2 hm
  refine lv_istore_n (lv' := [(3, .int z2), (0, .ref q_t), (1, .ref q_a), (2, .int p2)]) hx hb dX8_pourInto_10 rfl hl (by decide) rfl (fun ls hl => ?_)
  refine lv_aload_n hx hb dX8_pourInto_11 rfl (lv_at hl 1 rfl) ?_
  refine mx_get (C := RX8) (T := TX8) (N := 8) (ci := 8) X hW 0 rfl rfl tbc_X8 1 (by decide) kw_93 rfl dX8_pourInto_12 ?_
  refine lv_iload_n hx hb dX8_pourInto_15 rfl (lv_at hl 3 rfl) ?_
  refine lv_aload_n hx hb dX8_pourInto_16 rfl (lv_at hl 1 rfl) ?_
  refine mx_get (C := RX8) (T := TX8) (N := 8) (ci := 8) X hW 0 rfl rfl tbc_X8 5 (by decide) kw_611 rfl dX8_pourInto_17 ?_
  obtain ⟨hg3, hm⟩ := gd_s hm
  refine mx_iast (w2 := [xO q_t 8 [.ref q_t_width, .ref q_t_comes, .ref q_t_depth, .ref q_t_spill, .ref q_t_harmAt, .int t_below, .int t_allHarm, .int t_spilling], xI G q_t_width 6 t_width, xI G q_t_comes 6 (upd t_comes p2.toNatClampNeg t_below), xI G q_t_depth 6 t_depth, xI G q_t_spill 6 t_spill, xI G q_t_harmAt 6 t_harmAt, xO q_a 6 [v_a_flow, v_a_tape, v_a_reaches, v_a_ropes, v_a_hands, v_a_boats, v_a_muds, v_a_loose, .ref q_a_kind, v_a_wide, .ref q_a_bank, v_a_mud, v_a_ropeAt, v_a_pulls, v_a_bears, v_a_strong, v_a_boatWide, v_a_boatDeep], xI G q_a_kind 6 a_kind, xI G q_a_bank 6 a_bank]) X hW 2 rfl (inb_s hg3) rfl dX8_pourInto_20 (fun H locs hW => ?_)
  obtain ⟨r4, er4⟩ : ∃ z, z = upd t_comes p2.toNatClampNeg t_below := ⟨_, rfl⟩
  have hm := nm_s er4 hm
  have hW : mx_W G s A [xO q_t 8 [.ref q_t_width, .ref q_t_comes, .ref q_t_depth, .ref q_t_spill, .ref q_t_harmAt, .int t_below, .int t_allHarm, .int t_spilling], xI G q_t_width 6 t_width, xI G q_t_comes 6 r4, xI G q_t_depth 6 t_depth, xI G q_t_spill 6 t_spill, xI G q_t_harmAt 6 t_harmAt, xO q_a 6 [v_a_flow, v_a_tape, v_a_reaches, v_a_ropes, v_a_hands, v_a_boats, v_a_muds, v_a_loose, .ref q_a_kind, v_a_wide, .ref q_a_bank, v_a_mud, v_a_ropeAt, v_a_pulls, v_a_bears, v_a_strong, v_a_boatWide, v_a_boatDeep], xI G q_a_kind 6 a_kind, xI G q_a_bank 6 a_bank] H locs := by rw [er4]; exact hW
  refine lv_aload_n hx hb dX8_pourInto_21 rfl (lv_at hl 1 rfl) ?_
  refine mx_get (C := RX8) (T := TX8) (N := 8) (ci := 8) X hW 0 rfl rfl tbc_X8 2 (by decide) kw_94 rfl dX8_pourInto_22 ?_
  refine lv_iload_n hx hb dX8_pourInto_25 rfl (lv_at hl 3 rfl) ?_
  refine lv_aload_n hx hb dX8_pourInto_26 rfl (lv_at hl 1 rfl) ?_
  refine mx_get (C := RX8) (T := TX8) (N := 8) (ci := 8) X hW 0 rfl rfl tbc_X8 5 (by decide) kw_611 rfl dX8_pourInto_27 ?_
  refine lv_iload_n hx hb dX8_pourInto_30 rfl (lv_at hl 0 rfl) ?_
  obtain ⟨hg5, hm⟩ := gd_s hm
  refine lv_idiv hx hb dX8_pourInto_31 (nz_s hg5) ?_
  refine lv_topi (fun z6 ez6 => ?_)
  have hm := nm_s ez6 hm
  obtain ⟨hg7, hm⟩ := gd_s hm
  refine mx_iast (w2 := [xO q_t 8 [.ref q_t_width, .ref q_t_comes, .ref q_t_depth, .ref q_t_spill, .ref q_t_harmAt, .int t_below, .int t_allHarm, .int t_spilling], xI G q_t_width 6 t_width, xI G q_t_comes 6 r4, xI G q_t_depth 6 (upd t_depth p2.toNatClampNeg z6), xI G q_t_spill 6 t_spill, xI G q_t_harmAt 6 t_harmAt, xO q_a 6 [v_a_flow, v_a_tape, v_a_reaches, v_a_ropes, v_a_hands, v_a_boats, v_a_muds, v_a_loose, .ref q_a_kind, v_a_wide, .ref q_a_bank, v_a_mud, v_a_ropeAt, v_a_pulls, v_a_bears, v_a_strong, v_a_boatWide, v_a_boatDeep], xI G q_a_kind 6 a_kind, xI G q_a_bank 6 a_bank]) X hW 3 rfl (inb_s hg7) rfl dX8_pourInto_32 (fun H locs hW => ?_)
  obtain ⟨r8, er8⟩ : ∃ z, z = upd t_depth p2.toNatClampNeg z6 := ⟨_, rfl⟩
  have hm := nm_s er8 hm
  have hW : mx_W G s A [xO q_t 8 [.ref q_t_width, .ref q_t_comes, .ref q_t_depth, .ref q_t_spill, .ref q_t_harmAt, .int t_below, .int t_allHarm, .int t_spilling], xI G q_t_width 6 t_width, xI G q_t_comes 6 r4, xI G q_t_depth 6 r8, xI G q_t_spill 6 t_spill, xI G q_t_harmAt 6 t_harmAt, xO q_a 6 [v_a_flow, v_a_tape, v_a_reaches, v_a_ropes, v_a_hands, v_a_boats, v_a_muds, v_a_loose, .ref q_a_kind, v_a_wide, .ref q_a_bank, v_a_mud, v_a_ropeAt, v_a_pulls, v_a_bears, v_a_strong, v_a_boatWide, v_a_boatDeep], xI G q_a_kind 6 a_kind, xI G q_a_bank 6 a_bank] H locs := by rw [er8]; exact hW
  refine lv_aload_n hx hb dX8_pourInto_33 rfl (lv_at hl 1 rfl) ?_
  refine mx_get (C := RX8) (T := TX8) (N := 8) (ci := 8) X hW 0 rfl rfl tbc_X8 3 (by decide) kw_95 rfl dX8_pourInto_34 ?_
  refine lv_iload_n hx hb dX8_pourInto_37 rfl (lv_at hl 3 rfl) ?_
  refine lv_iconst (v := 0) hx hb dX8_pourInto_38 (by decide) ?_
  refine lv_aload_n hx hb dX8_pourInto_39 rfl (lv_at hl 1 rfl) ?_
  refine mx_get (C := RX8) (T := TX8) (N := 8) (ci := 8) X hW 0 rfl rfl tbc_X8 2 (by decide) kw_94 rfl dX8_pourInto_40 ?_
  refine lv_iload_n hx hb dX8_pourInto_43 rfl (lv_at hl 3 rfl) ?_
  obtain ⟨hg9, hm⟩ := gd_s hm
  refine mx_iald X hW 3 rfl (inb_s hg9) dX8_pourInto_44 ?_
  refine lv_aload_n hx hb dX8_pourInto_45 rfl (lv_at hl 2 rfl) ?_
  refine mx_get (C := RX6) (T := TX6) (N := 18) (ci := 6) X hW 6 rfl rfl tbc_X6 10 (by decide) kw_618 rfl dX8_pourInto_46 ?_
  refine lv_iload_n hx hb dX8_pourInto_49 rfl (lv_at hl 3 rfl) ?_
  obtain ⟨hg10, hm⟩ := gd_s hm
  refine mx_iald X hW 8 rfl (inb_s hg10) dX8_pourInto_50 ?_
  refine lv_isub hx hb dX8_pourInto_51 ?_
  refine mx_max X hl.1 kw_604 ⟨by decide, Nat.le_of_ble_eq_true rfl⟩ ⟨Nat.zero_le _, Nat.zero_le _⟩ dX8_pourInto_52 ?_
  refine lv_iload_n hx hb dX8_pourInto_55 rfl (lv_at hl 0 rfl) ?_
  refine lv_imul hx hb dX8_pourInto_56 ?_
  refine lv_topi (fun z11 ez11 => ?_)
  have hm := nm_s ez11 hm
  obtain ⟨hg12, hm⟩ := gd_s hm
  refine mx_iast (w2 := [xO q_t 8 [.ref q_t_width, .ref q_t_comes, .ref q_t_depth, .ref q_t_spill, .ref q_t_harmAt, .int t_below, .int t_allHarm, .int t_spilling], xI G q_t_width 6 t_width, xI G q_t_comes 6 r4, xI G q_t_depth 6 r8, xI G q_t_spill 6 (upd t_spill p2.toNatClampNeg z11), xI G q_t_harmAt 6 t_harmAt, xO q_a 6 [v_a_flow, v_a_tape, v_a_reaches, v_a_ropes, v_a_hands, v_a_boats, v_a_muds, v_a_loose, .ref q_a_kind, v_a_wide, .ref q_a_bank, v_a_mud, v_a_ropeAt, v_a_pulls, v_a_bears, v_a_strong, v_a_boatWide, v_a_boatDeep], xI G q_a_kind 6 a_kind, xI G q_a_bank 6 a_bank]) X hW 4 rfl (inb_s hg12) rfl dX8_pourInto_57 (fun H locs hW => ?_)
  obtain ⟨r13, er13⟩ : ∃ z, z = upd t_spill p2.toNatClampNeg z11 := ⟨_, rfl⟩
  have hm := nm_s er13 hm
  have hW : mx_W G s A [xO q_t 8 [.ref q_t_width, .ref q_t_comes, .ref q_t_depth, .ref q_t_spill, .ref q_t_harmAt, .int t_below, .int t_allHarm, .int t_spilling], xI G q_t_width 6 t_width, xI G q_t_comes 6 r4, xI G q_t_depth 6 r8, xI G q_t_spill 6 r13, xI G q_t_harmAt 6 t_harmAt, xO q_a 6 [v_a_flow, v_a_tape, v_a_reaches, v_a_ropes, v_a_hands, v_a_boats, v_a_muds, v_a_loose, .ref q_a_kind, v_a_wide, .ref q_a_bank, v_a_mud, v_a_ropeAt, v_a_pulls, v_a_bears, v_a_strong, v_a_boatWide, v_a_boatDeep], xI G q_a_kind 6 a_kind, xI G q_a_bank 6 a_bank] H locs := by rw [er13]; exact hW
  refine lv_aload_n hx hb dX8_pourInto_58 rfl (lv_at hl 1 rfl) ?_
  refine mx_get (C := RX8) (T := TX8) (N := 8) (ci := 8) X hW 0 rfl rfl tbc_X8 4 (by decide) kw_96 rfl dX8_pourInto_59 ?_
  refine lv_iload_n hx hb dX8_pourInto_62 rfl (lv_at hl 3 rfl) ?_
  refine lv_aload_n hx hb dX8_pourInto_63 rfl (lv_at hl 2 rfl) ?_
  refine mx_get (C := RX6) (T := TX6) (N := 18) (ci := 6) X hW 6 rfl rfl tbc_X6 8 (by decide) kw_619 rfl dX8_pourInto_64 ?_
  refine lv_iload_n hx hb dX8_pourInto_67 rfl (lv_at hl 3 rfl) ?_
  obtain ⟨hg14, hm⟩ := gd_s hm
  refine mx_iald X hW 7 rfl (inb_s hg14) dX8_pourInto_68 ?_
  refine lv_aload_n hx hb dX8_pourInto_69 rfl (lv_at hl 1 rfl) ?_
  refine mx_get (C := RX8) (T := TX8) (N := 8) (ci := 8) X hW 0 rfl rfl tbc_X8 3 (by decide) kw_95 rfl dX8_pourInto_70 ?_
  refine lv_iload_n hx hb dX8_pourInto_73 rfl (lv_at hl 3 rfl) ?_
  obtain ⟨hg15, hm⟩ := gd_s hm
  refine mx_iald X hW 4 rfl (inb_s hg15) dX8_pourInto_74 ?_
  obtain ⟨o16, ho16, hm⟩ := bd_s hm
  refine mx_callS (n := 2) (As := [.int (a_kind p2.toNatClampNeg), .int (r13 p2.toNatClampNeg)]) (rest := [.int p2, .ref q_t_harmAt]) (st1 := [.int o16, .int p2, .ref q_t_harmAt]) (w2 := [xO q_t 8 [.ref q_t_width, .ref q_t_comes, .ref q_t_depth, .ref q_t_spill, .ref q_t_harmAt, .int t_below, .int t_allHarm, .int t_spilling], xI G q_t_width 6 t_width, xI G q_t_comes 6 r4, xI G q_t_depth 6 r8, xI G q_t_spill 6 r13, xI G q_t_harmAt 6 t_harmAt, xO q_a 6 [v_a_flow, v_a_tape, v_a_reaches, v_a_ropes, v_a_hands, v_a_boats, v_a_muds, v_a_loose, .ref q_a_kind, v_a_wide, .ref q_a_bank, v_a_mud, v_a_ropeAt, v_a_pulls, v_a_bears, v_a_strong, v_a_boatWide, v_a_boatDeep], xI G q_a_kind 6 a_kind, xI G q_a_bank 6 a_bank]) X hW hl.1 (c_X8_harmBySpill l G (a_kind p2.toNatClampNeg) (r13 p2.toNatClampNeg) o16 ho16) kw_620 kw_621 kw_27 kw_622 (by decide +kernel) ⟨rfl, rfl⟩ ⟨by decide, by decide⟩ ⟨Nat.zero_le _, Nat.zero_le _⟩ [] (by decide) rfl rfl rfl rfl rfl rfl (Nat.le_of_ble_eq_true rfl) rfl dX8_pourInto_75 (fun H locs hW => ?_)
  obtain ⟨hg17, hm⟩ := gd_s hm
  refine mx_iast (w2 := [xO q_t 8 [.ref q_t_width, .ref q_t_comes, .ref q_t_depth, .ref q_t_spill, .ref q_t_harmAt, .int t_below, .int t_allHarm, .int t_spilling], xI G q_t_width 6 t_width, xI G q_t_comes 6 r4, xI G q_t_depth 6 r8, xI G q_t_spill 6 r13, xI G q_t_harmAt 6 (upd t_harmAt p2.toNatClampNeg o16), xO q_a 6 [v_a_flow, v_a_tape, v_a_reaches, v_a_ropes, v_a_hands, v_a_boats, v_a_muds, v_a_loose, .ref q_a_kind, v_a_wide, .ref q_a_bank, v_a_mud, v_a_ropeAt, v_a_pulls, v_a_bears, v_a_strong, v_a_boatWide, v_a_boatDeep], xI G q_a_kind 6 a_kind, xI G q_a_bank 6 a_bank]) X hW 5 rfl (inb_s hg17) rfl dX8_pourInto_78 (fun H locs hW => ?_)
  obtain ⟨r18, er18⟩ : ∃ z, z = upd t_harmAt p2.toNatClampNeg o16 := ⟨_, rfl⟩
  have hm := nm_s er18 hm
  have hW : mx_W G s A [xO q_t 8 [.ref q_t_width, .ref q_t_comes, .ref q_t_depth, .ref q_t_spill, .ref q_t_harmAt, .int t_below, .int t_allHarm, .int t_spilling], xI G q_t_width 6 t_width, xI G q_t_comes 6 r4, xI G q_t_depth 6 r8, xI G q_t_spill 6 r13, xI G q_t_harmAt 6 r18, xO q_a 6 [v_a_flow, v_a_tape, v_a_reaches, v_a_ropes, v_a_hands, v_a_boats, v_a_muds, v_a_loose, .ref q_a_kind, v_a_wide, .ref q_a_bank, v_a_mud, v_a_ropeAt, v_a_pulls, v_a_bears, v_a_strong, v_a_boatWide, v_a_boatDeep], xI G q_a_kind 6 a_kind, xI G q_a_bank 6 a_bank] H locs := by rw [er18]; exact hW
  refine lv_aload_n hx hb dX8_pourInto_79 rfl (lv_at hl 1 rfl) ?_
  refine lv_dup hx hb dX8_pourInto_80 rfl ?_
  refine mx_get (C := RX8) (T := TX8) (N := 8) (ci := 8) X hW 0 rfl rfl tbc_X8 5 (by decide) kw_611 rfl dX8_pourInto_81 ?_
  refine lv_aload_n hx hb dX8_pourInto_84 rfl (lv_at hl 1 rfl) ?_
  refine mx_get (C := RX8) (T := TX8) (N := 8) (ci := 8) X hW 0 rfl rfl tbc_X8 3 (by decide) kw_95 rfl dX8_pourInto_85 ?_
  refine lv_iload_n hx hb dX8_pourInto_88 rfl (lv_at hl 3 rfl) ?_
  obtain ⟨hg19, hm⟩ := gd_s hm
  refine mx_iald X hW 4 rfl (inb_s hg19) dX8_pourInto_89 ?_
  refine lv_isub hx hb dX8_pourInto_90 ?_
  refine lv_topi (fun z20 ez20 => ?_)
  have hm := nm_s ez20 hm
  refine mx_put (C := RX8) (T := TX8) (N := 8) (ci := 8) (w2 := [xO q_t 8 [.ref q_t_width, .ref q_t_comes, .ref q_t_depth, .ref q_t_spill, .ref q_t_harmAt, .int z20, .int t_allHarm, .int t_spilling], xI G q_t_width 6 t_width, xI G q_t_comes 6 r4, xI G q_t_depth 6 r8, xI G q_t_spill 6 r13, xI G q_t_harmAt 6 r18, xO q_a 6 [v_a_flow, v_a_tape, v_a_reaches, v_a_ropes, v_a_hands, v_a_boats, v_a_muds, v_a_loose, .ref q_a_kind, v_a_wide, .ref q_a_bank, v_a_mud, v_a_ropeAt, v_a_pulls, v_a_bears, v_a_strong, v_a_boatWide, v_a_boatDeep], xI G q_a_kind 6 a_kind, xI G q_a_bank 6 a_bank]) X hW 0 rfl rfl tbc_X8 tyX8 tyX8_ok nmX8 5 (by decide) kw_611 rfl rfl rfl rfl (Nat.le_of_ble_eq_true rfl) rfl dX8_pourInto_91 (fun H locs hW => ?_)
  refine lv_aload_n hx hb dX8_pourInto_94 rfl (lv_at hl 2 rfl) ?_
  refine mx_get (C := RX6) (T := TX6) (N := 18) (ci := 6) X hW 6 rfl rfl tbc_X6 8 (by decide) kw_619 rfl dX8_pourInto_95 ?_
  refine lv_iload_n hx hb dX8_pourInto_98 rfl (lv_at hl 3 rfl) ?_
  obtain ⟨hg21, hm⟩ := gd_s hm
  refine mx_iald X hW 7 rfl (inb_s hg21) dX8_pourInto_99 ?_
  refine lv_iconst (v := 1) hx hb dX8_pourInto_100 (by decide) ?_
  refine lv_icmp_ne (tgt := 121) hx hb dX8_pourInto_101 (by decide) (fun c22 => ?_) (fun c22 => ?_)
  · have hm := (if_neg c22).symm.trans hm
    exact w_X8_pourInto_B121 X q_t q_t_width q_t_comes q_t_depth q_t_spill q_t_harmAt q_a q_a_kind q_a_bank (v_a_flow) (v_a_tape) (v_a_reaches) (v_a_ropes) (v_a_hands) (v_a_boats) (v_a_muds) (v_a_loose) (v_a_wide) (v_a_mud) (v_a_ropeAt) (v_a_pulls) (v_a_bears) (v_a_strong) (v_a_boatWide) (v_a_boatDeep) t_width a_kind a_bank out   p2 r4 r8 r13 r18 z20 t_allHarm t_spilling _ _ _ hm hW (lv_sub hl [1, 3] rfl)
  · have hm := (if_pos c22).symm.trans hm
    refine lv_aload_n hx hb dX8_pourInto_104 rfl (lv_at hl 1 rfl) ?_
    refine lv_dup hx hb dX8_pourInto_105 rfl ?_
    refine mx_get (C := RX8) (T := TX8) (N := 8) (ci := 8) X hW 0 rfl rfl tbc_X8 5 (by decide) kw_611 rfl dX8_pourInto_106 ?_
    refine lv_aload_n hx hb dX8_pourInto_109 rfl (lv_at hl 1 rfl) ?_
    refine mx_get (C := RX8) (T := TX8) (N := 8) (ci := 8) X hW 0 rfl rfl tbc_X8 3 (by decide) kw_95 rfl dX8_pourInto_110 ?_
    refine lv_iload_n hx hb dX8_pourInto_113 rfl (lv_at hl 3 rfl) ?_
    obtain ⟨hg30, hm⟩ := gd_s hm
    refine mx_iald X hW 4 rfl (inb_s hg30) dX8_pourInto_114 ?_
    refine lv_iconst (v := 2) hx hb dX8_pourInto_115 (by decide) ?_
    refine lv_idiv hx hb dX8_pourInto_116 (by decide) ?_
    refine lv_iadd hx hb dX8_pourInto_117 ?_
    refine lv_topi (fun z31 ez31 => ?_)
    have hm := nm_s ez31 hm
    refine mx_put (C := RX8) (T := TX8) (N := 8) (ci := 8) (w2 := [xO q_t 8 [.ref q_t_width, .ref q_t_comes, .ref q_t_depth, .ref q_t_spill, .ref q_t_harmAt, .int z31, .int t_allHarm, .int t_spilling], xI G q_t_width 6 t_width, xI G q_t_comes 6 r4, xI G q_t_depth 6 r8, xI G q_t_spill 6 r13, xI G q_t_harmAt 6 r18, xO q_a 6 [v_a_flow, v_a_tape, v_a_reaches, v_a_ropes, v_a_hands, v_a_boats, v_a_muds, v_a_loose, .ref q_a_kind, v_a_wide, .ref q_a_bank, v_a_mud, v_a_ropeAt, v_a_pulls, v_a_bears, v_a_strong, v_a_boatWide, v_a_boatDeep], xI G q_a_kind 6 a_kind, xI G q_a_bank 6 a_bank]) X hW 0 rfl rfl tbc_X8 tyX8 tyX8_ok nmX8 5 (by decide) kw_611 rfl rfl rfl rfl (Nat.le_of_ble_eq_true rfl) rfl dX8_pourInto_118 (fun H locs hW => ?_)
    exact w_X8_pourInto_B121 X q_t q_t_width q_t_comes q_t_depth q_t_spill q_t_harmAt q_a q_a_kind q_a_bank (v_a_flow) (v_a_tape) (v_a_reaches) (v_a_ropes) (v_a_hands) (v_a_boats) (v_a_muds) (v_a_loose) (v_a_wide) (v_a_mud) (v_a_ropeAt) (v_a_pulls) (v_a_bears) (v_a_strong) (v_a_boatWide) (v_a_boatDeep) t_width a_kind a_bank out   p2 r4 r8 r13 r18 z31 t_allHarm t_spilling _ _ _ hm hW (lv_sub hl [1, 3] rfl)

abbrev rm_X8_pour : Room := { frames := 2, cells := 0, slots := 0, locals := 44 }
noncomputable def f_X8_pour_L17 (k_37 : (Nat → Int32) → (Nat → Int32) → (Nat → Int32) → (Nat → Int32) → Int32 → Int32 → Int32 → Option ((Nat → Int32) × (Nat → Int32) × (Nat → Int32) × (Nat → Int32) × Int32 × Int32 × Int32)) (t_width : Nat → Int32) (a_reaches : Int32) (a_kind : Nat → Int32) (a_bank : Nat → Int32) : Nat → Int32 → (Nat → Int32) → (Nat → Int32) → (Nat → Int32) → (Nat → Int32) → Int32 → Int32 → Int32 → Option ((Nat → Int32) × (Nat → Int32) × (Nat → Int32) × (Nat → Int32) × Int32 × Int32 × Int32)
  | 0, _, _, _, _, _, _, _, _ => none
  | n + 1, x3, t_comes, t_depth, t_spill, t_harmAt, t_below, t_allHarm, t_spilling =>
    (if a_reaches ≤ x3 then
      k_37 t_comes t_depth t_spill t_harmAt t_below t_allHarm t_spilling
    else
      (f_X8_pourInto x3 t_width t_comes t_depth t_spill t_harmAt t_below t_allHarm t_spilling a_kind a_bank).bind fun o2 =>f_X8_pour_L17 k_37 t_width a_reaches a_kind a_bank n (x3 + 1) o2.1 o2.2.1 o2.2.2.1 o2.2.2.2.1 o2.2.2.2.2.1 o2.2.2.2.2.2.1 o2.2.2.2.2.2.2)
noncomputable def f_X8_pour (p2 : Int32) (t_width : Nat → Int32) (t_comes : Nat → Int32) (t_depth : Nat → Int32) (t_spill : Nat → Int32) (t_harmAt : Nat → Int32) (t_below : Int32) (t_allHarm : Int32) (t_spilling : Int32) (a_reaches : Int32) (a_kind : Nat → Int32) (a_bank : Nat → Int32) : Option ((Nat → Int32) × (Nat → Int32) × (Nat → Int32) × (Nat → Int32) × Int32 × Int32 × Int32) :=
  f_X8_pour_L17 (fun t_comes_17 t_depth_17 t_spill_17 t_harmAt_17 t_below_17 t_allHarm_17 t_spilling_17 =>
    some (t_comes_17, t_depth_17, t_spill_17, t_harmAt_17, t_below_17, t_allHarm_17, t_spilling_17)) t_width a_reaches a_kind a_bank 2000 0 t_comes t_depth t_spill t_harmAt p2 0 0
set_option maxHeartbeats 4000000 in
set_option maxRecDepth 100000 in
theorem w_X8_pour_L17 {p : Program} {l : Launch} {e : Env} {s : State} {m : MethodId} {args : Array Value} {below : List Frame} {meth : Method} {c : Code} {A : Nat → Prop} {G : mx_G} (X : mx_X p s m args meth c RX8 "pour" cX8_pour 4 none G) (q_t : Nat) (q_t_width : Nat) (q_t_comes : Nat) (q_t_depth : Nat) (q_t_spill : Nat) (q_t_harmAt : Nat) (q_a : Nat) (q_a_kind : Nat) (q_a_bank : Nat) (v_a_flow : Value) (v_a_tape : Value) (v_a_ropes : Value) (v_a_hands : Value) (v_a_boats : Value) (v_a_muds : Value) (v_a_loose : Value) (v_a_wide : Value) (v_a_mud : Value) (v_a_ropeAt : Value) (v_a_pulls : Value) (v_a_bears : Value) (v_a_strong : Value) (v_a_boatWide : Value) (v_a_boatDeep : Value) (t_width : Nat → Int32) (a_reaches : Int32) (a_kind : Nat → Int32) (a_bank : Nat → Int32)  (out : (Nat → Int32) × (Nat → Int32) × (Nat → Int32) × (Nat → Int32) × Int32 × Int32 × Int32) (k_37 : (Nat → Int32) → (Nat → Int32) → (Nat → Int32) → (Nat → Int32) → Int32 → Int32 → Int32 → Option ((Nat → Int32) × (Nat → Int32) × (Nat → Int32) × (Nat → Int32) × Int32 × Int32 × Int32)) (hk_37 : ∀ (t_comes : Nat → Int32) (t_depth : Nat → Int32) (t_spill : Nat → Int32) (t_harmAt : Nat → Int32) (t_below : Int32) (t_allHarm : Int32) (t_spilling : Int32) (H : Heap) (locs : List Loc) (ls : Array Slot), k_37 t_comes t_depth t_spill t_harmAt t_below t_allHarm t_spilling = some out → mx_W G s A [xO q_t 8 [.ref q_t_width, .ref q_t_comes, .ref q_t_depth, .ref q_t_spill, .ref q_t_harmAt, .int t_below, .int t_allHarm, .int t_spilling], xI G q_t_width 6 t_width, xI G q_t_comes 6 t_comes, xI G q_t_depth 6 t_depth, xI G q_t_spill 6 t_spill, xI G q_t_harmAt 6 t_harmAt, xO q_a 6 [v_a_flow, v_a_tape, .int a_reaches, v_a_ropes, v_a_hands, v_a_boats, v_a_muds, v_a_loose, .ref q_a_kind, v_a_wide, .ref q_a_bank, v_a_mud, v_a_ropeAt, v_a_pulls, v_a_bears, v_a_strong, v_a_boatWide, v_a_boatDeep], xI G q_a_kind 6 a_kind, xI G q_a_bank 6 a_bank] H locs → lv_has ls 4 [] → W p l e rm_X8_pour s m args below meth c H locs 0 0 (MQ below (mx_Q G none [xO q_t 8 [.ref q_t_width, .ref q_t_comes, .ref q_t_depth, .ref q_t_spill, .ref q_t_harmAt, .int out.2.2.2.2.1, .int out.2.2.2.2.2.1, .int out.2.2.2.2.2.2], xI G q_t_width 6 t_width, xI G q_t_comes 6 out.1, xI G q_t_depth 6 out.2.1, xI G q_t_spill 6 out.2.2.1, xI G q_t_harmAt 6 out.2.2.2.1, xO q_a 6 [v_a_flow, v_a_tape, .int a_reaches, v_a_ropes, v_a_hands, v_a_boats, v_a_muds, v_a_loose, .ref q_a_kind, v_a_wide, .ref q_a_bank, v_a_mud, v_a_ropeAt, v_a_pulls, v_a_bears, v_a_strong, v_a_boatWide, v_a_boatDeep], xI G q_a_kind 6 a_kind, xI G q_a_bank 6 a_bank] A) args s 0 0 A) (F0 m 37 ls [])) : ∀ (n : Nat) (x3 : Int32) (t_comes : Nat → Int32) (t_depth : Nat → Int32) (t_spill : Nat → Int32) (t_harmAt : Nat → Int32) (t_below : Int32) (t_allHarm : Int32) (t_spilling : Int32) (H : Heap) (locs : List Loc) (ls : Array Slot), f_X8_pour_L17 k_37 t_width a_reaches a_kind a_bank n x3 t_comes t_depth t_spill t_harmAt t_below t_allHarm t_spilling = some out → mx_W G s A [xO q_t 8 [.ref q_t_width, .ref q_t_comes, .ref q_t_depth, .ref q_t_spill, .ref q_t_harmAt, .int t_below, .int t_allHarm, .int t_spilling], xI G q_t_width 6 t_width, xI G q_t_comes 6 t_comes, xI G q_t_depth 6 t_depth, xI G q_t_spill 6 t_spill, xI G q_t_harmAt 6 t_harmAt, xO q_a 6 [v_a_flow, v_a_tape, .int a_reaches, v_a_ropes, v_a_hands, v_a_boats, v_a_muds, v_a_loose, .ref q_a_kind, v_a_wide, .ref q_a_bank, v_a_mud, v_a_ropeAt, v_a_pulls, v_a_bears, v_a_strong, v_a_boatWide, v_a_boatDeep], xI G q_a_kind 6 a_kind, xI G q_a_bank 6 a_bank] H locs → lv_has ls 4 [(0, .ref q_t), (1, .ref q_a), (3, .int x3)] → W p l e rm_X8_pour s m args below meth c H locs 0 0 (MQ below (mx_Q G none [xO q_t 8 [.ref q_t_width, .ref q_t_comes, .ref q_t_depth, .ref q_t_spill, .ref q_t_harmAt, .int out.2.2.2.2.1, .int out.2.2.2.2.2.1, .int out.2.2.2.2.2.2], xI G q_t_width 6 t_width, xI G q_t_comes 6 out.1, xI G q_t_depth 6 out.2.1, xI G q_t_spill 6 out.2.2.1, xI G q_t_harmAt 6 out.2.2.2.1, xO q_a 6 [v_a_flow, v_a_tape, .int a_reaches, v_a_ropes, v_a_hands, v_a_boats, v_a_muds, v_a_loose, .ref q_a_kind, v_a_wide, .ref q_a_bank, v_a_mud, v_a_ropeAt, v_a_pulls, v_a_bears, v_a_strong, v_a_boatWide, v_a_boatDeep], xI G q_a_kind 6 a_kind, xI G q_a_bank 6 a_bank] A) args s 0 0 A) (F0 m 17 ls []) := by
  obtain ⟨hx, hb, hml, hown, hts, hKN, -⟩ := id X
  intro n
  induction n with
  | zero => intro x3 t_comes t_depth t_spill t_harmAt t_below t_allHarm t_spilling H locs ls hm hW hl; exact absurd (show none = some out from hm) (fun h => by cases h)
  | succ n ih =>
    intro x3 t_comes t_depth t_spill t_harmAt t_below t_allHarm t_spilling H locs ls hm hW hl
    rw [f_X8_pour_L17] at hm
    refine lv_iload_n hx hb dX8_pour_17 rfl (lv_at hl 2 rfl) ?_
    refine lv_aload_n hx hb dX8_pour_18 rfl (lv_at hl 1 rfl) ?_
    refine mx_get (C := RX6) (T := TX6) (N := 18) (ci := 6) X hW 6 rfl rfl tbc_X6 2 (by decide) kw_599 rfl dX8_pour_19 ?_
    refine lv_icmp_ge (tgt := 37) hx hb dX8_pour_22 (by decide) (fun c1 => ?_) (fun c1 => ?_)
    · have hm := (if_pos c1).symm.trans hm
      exact hk_37 t_comes t_depth t_spill t_harmAt t_below t_allHarm t_spilling _ _ _ hm hW (lv_sub hl [] rfl)
    · have hm := (if_neg c1).symm.trans hm
      refine lv_aload_n hx hb dX8_pour_25 rfl (lv_at hl 0 rfl) ?_
      refine lv_aload_n hx hb dX8_pour_26 rfl (lv_at hl 1 rfl) ?_
      refine lv_iload_n hx hb dX8_pour_27 rfl (lv_at hl 2 rfl) ?_
      obtain ⟨o2, ho2, hm⟩ := bd_s hm
      refine mx_callV (C := RX8) (T := TX8) (N := 8) (ci := 8) (n := 2) (As := [.ref q_a, .int x3]) (rest := []) (st1 := []) (w2 := [xO q_t 8 [.ref q_t_width, .ref q_t_comes, .ref q_t_depth, .ref q_t_spill, .ref q_t_harmAt, .int o2.2.2.2.2.1, .int o2.2.2.2.2.2.1, .int o2.2.2.2.2.2.2], xI G q_t_width 6 t_width, xI G q_t_comes 6 o2.1, xI G q_t_depth 6 o2.2.1, xI G q_t_spill 6 o2.2.2.1, xI G q_t_harmAt 6 o2.2.2.2.1, xO q_a 6 [v_a_flow, v_a_tape, .int a_reaches, v_a_ropes, v_a_hands, v_a_boats, v_a_muds, v_a_loose, .ref q_a_kind, v_a_wide, .ref q_a_bank, v_a_mud, v_a_ropeAt, v_a_pulls, v_a_bears, v_a_strong, v_a_boatWide, v_a_boatDeep], xI G q_a_kind 6 a_kind, xI G q_a_bank 6 a_bank]) X hW hl.1 (c_X8_pourInto l G q_t q_t_width q_t_comes q_t_depth q_t_spill q_t_harmAt q_a q_a_kind q_a_bank (v_a_flow) (v_a_tape) (.int a_reaches) (v_a_ropes) (v_a_hands) (v_a_boats) (v_a_muds) (v_a_loose) (v_a_wide) (v_a_mud) (v_a_ropeAt) (v_a_pulls) (v_a_bears) (v_a_strong) (v_a_boatWide) (v_a_boatDeep) t_width t_comes t_depth t_spill t_harmAt t_below t_allHarm t_spilling a_kind a_bank x3 o2 ho2) 0 rfl rfl kw_614 kw_615 kw_616 kw_27 kw_617 (by decide +kernel) ⟨rfl, rfl⟩ ⟨by decide, by decide⟩ ⟨Nat.zero_le _, Nat.zero_le _⟩ [0, 1, 2, 3, 4, 5, 6, 7, 8] (by decide) rfl rfl rfl rfl rfl rfl (Nat.le_of_ble_eq_true rfl) rfl dX8_pour_28 (fun H locs hW => ?_)
      refine lv_iinc (v := x3 + 1) (lv' := [(3, .int (x3 + 1)), (0, .ref q_t), (1, .ref q_a)]) hx hb dX8_pour_31 hl (k := 2) rfl rfl (by decide) rfl (fun ls hl => ?_)
      refine lv_goto (tgt := 17) hx hb dX8_pour_34 (by decide) ?_
      exact ih (x3 + 1) o2.1 o2.2.1 o2.2.2.1 o2.2.2.2.1 o2.2.2.2.2.1 o2.2.2.2.2.2.1 o2.2.2.2.2.2.2 _ _ _ hm hW (lv_sub hl [1, 2, 0] rfl)
set_option maxHeartbeats 4000000 in
set_option maxRecDepth 100000 in
theorem c_X8_pour (l : Launch) (G : mx_G) (q_t : Nat) (q_t_width : Nat) (q_t_comes : Nat) (q_t_depth : Nat) (q_t_spill : Nat) (q_t_harmAt : Nat) (q_a : Nat) (q_a_kind : Nat) (q_a_bank : Nat) (v_a_flow : Value) (v_a_tape : Value) (v_a_ropes : Value) (v_a_hands : Value) (v_a_boats : Value) (v_a_muds : Value) (v_a_loose : Value) (v_a_wide : Value) (v_a_mud : Value) (v_a_ropeAt : Value) (v_a_pulls : Value) (v_a_bears : Value) (v_a_strong : Value) (v_a_boatWide : Value) (v_a_boatDeep : Value) (t_width : Nat → Int32) (t_comes : Nat → Int32) (t_depth : Nat → Int32) (t_spill : Nat → Int32) (t_harmAt : Nat → Int32) (t_below : Int32) (t_allHarm : Int32) (t_spilling : Int32) (a_reaches : Int32) (a_kind : Nat → Int32) (a_bank : Nat → Int32) (p2 : Int32) (out : (Nat → Int32) × (Nat → Int32) × (Nat → Int32) × (Nat → Int32) × Int32 × Int32 × Int32) (hm : f_X8_pour p2 t_width t_comes t_depth t_spill t_harmAt t_below t_allHarm t_spilling a_reaches a_kind a_bank = some out) : mx_C l yX8_pour cX8_pour 4 none rm_X8_pour G [.ref q_t, .ref q_a, .int p2] [xO q_t 8 [.ref q_t_width, .ref q_t_comes, .ref q_t_depth, .ref q_t_spill, .ref q_t_harmAt, .int t_below, .int t_allHarm, .int t_spilling], xI G q_t_width 6 t_width, xI G q_t_comes 6 t_comes, xI G q_t_depth 6 t_depth, xI G q_t_spill 6 t_spill, xI G q_t_harmAt 6 t_harmAt, xO q_a 6 [v_a_flow, v_a_tape, .int a_reaches, v_a_ropes, v_a_hands, v_a_boats, v_a_muds, v_a_loose, .ref q_a_kind, v_a_wide, .ref q_a_bank, v_a_mud, v_a_ropeAt, v_a_pulls, v_a_bears, v_a_strong, v_a_boatWide, v_a_boatDeep], xI G q_a_kind 6 a_kind, xI G q_a_bank 6 a_bank] none [xO q_t 8 [.ref q_t_width, .ref q_t_comes, .ref q_t_depth, .ref q_t_spill, .ref q_t_harmAt, .int out.2.2.2.2.1, .int out.2.2.2.2.2.1, .int out.2.2.2.2.2.2], xI G q_t_width 6 t_width, xI G q_t_comes 6 out.1, xI G q_t_depth 6 out.2.1, xI G q_t_spill 6 out.2.2.1, xI G q_t_harmAt 6 out.2.2.2.1, xO q_a 6 [v_a_flow, v_a_tape, .int a_reaches, v_a_ropes, v_a_hands, v_a_boats, v_a_muds, v_a_loose, .ref q_a_kind, v_a_wide, .ref q_a_bank, v_a_mud, v_a_ropeAt, v_a_pulls, v_a_bears, v_a_strong, v_a_boatWide, v_a_boatDeep], xI G q_a_kind 6 a_kind, xI G q_a_bank 6 a_bank] := by
  refine mx_enter (own := RX8) (name := "pour") (lv := [(0, .ref q_t), (1, .ref q_a), (2, .int p2)]) (by decide) rfl rfl (Nat.le_of_ble_eq_true rfl) rfl ?_
  intro p e s m args below meth c A ls X hW hl
  obtain ⟨hx, hb, hml, hown, hts, hKN, -⟩ := id X
  unfold f_X8_pour at hm
  refine lv_aload_n hx hb dX8_pour_0 rfl (lv_at hl 0 rfl) ?_
  refine lv_iload_n hx hb dX8_pour_1 rfl (lv_at hl 2 rfl) ?_
  refine mx_put (C := RX8) (T := TX8) (N := 8) (ci := 8) (w2 := [xO q_t 8 [.ref q_t_width, .ref q_t_comes, .ref q_t_depth, .ref q_t_spill, .ref q_t_harmAt, .int p2, .int t_allHarm, .int t_spilling], xI G q_t_width 6 t_width, xI G q_t_comes 6 t_comes, xI G q_t_depth 6 t_depth, xI G q_t_spill 6 t_spill, xI G q_t_harmAt 6 t_harmAt, xO q_a 6 [v_a_flow, v_a_tape, .int a_reaches, v_a_ropes, v_a_hands, v_a_boats, v_a_muds, v_a_loose, .ref q_a_kind, v_a_wide, .ref q_a_bank, v_a_mud, v_a_ropeAt, v_a_pulls, v_a_bears, v_a_strong, v_a_boatWide, v_a_boatDeep], xI G q_a_kind 6 a_kind, xI G q_a_bank 6 a_bank]) X hW 0 rfl rfl tbc_X8 tyX8 tyX8_ok nmX8 5 (by decide) kw_611 rfl rfl rfl rfl (Nat.le_of_ble_eq_true rfl) rfl dX8_pour_2 (fun H locs hW => ?_)
  refine lv_aload_n hx hb dX8_pour_5 rfl (lv_at hl 0 rfl) ?_
  refine lv_iconst (v := 0) hx hb dX8_pour_6 (by decide) ?_
  refine mx_put (C := RX8) (T := TX8) (N := 8) (ci := 8) (w2 := [xO q_t 8 [.ref q_t_width, .ref q_t_comes, .ref q_t_depth, .ref q_t_spill, .ref q_t_harmAt, .int p2, .int 0, .int t_spilling], xI G q_t_width 6 t_width, xI G q_t_comes 6 t_comes, xI G q_t_depth 6 t_depth, xI G q_t_spill 6 t_spill, xI G q_t_harmAt 6 t_harmAt, xO q_a 6 [v_a_flow, v_a_tape, .int a_reaches, v_a_ropes, v_a_hands, v_a_boats, v_a_muds, v_a_loose, .ref q_a_kind, v_a_wide, .ref q_a_bank, v_a_mud, v_a_ropeAt, v_a_pulls, v_a_bears, v_a_strong, v_a_boatWide, v_a_boatDeep], xI G q_a_kind 6 a_kind, xI G q_a_bank 6 a_bank]) X hW 0 rfl rfl tbc_X8 tyX8 tyX8_ok nmX8 6 (by decide) kw_612 rfl rfl rfl rfl (Nat.le_of_ble_eq_true rfl) rfl dX8_pour_7 (fun H locs hW => ?_)
  refine lv_aload_n hx hb dX8_pour_10 rfl (lv_at hl 0 rfl) ?_
  refine lv_iconst (v := 0) hx hb dX8_pour_11 (by decide) ?_
  refine mx_put (C := RX8) (T := TX8) (N := 8) (ci := 8) (w2 := [xO q_t 8 [.ref q_t_width, .ref q_t_comes, .ref q_t_depth, .ref q_t_spill, .ref q_t_harmAt, .int p2, .int 0, .int 0], xI G q_t_width 6 t_width, xI G q_t_comes 6 t_comes, xI G q_t_depth 6 t_depth, xI G q_t_spill 6 t_spill, xI G q_t_harmAt 6 t_harmAt, xO q_a 6 [v_a_flow, v_a_tape, .int a_reaches, v_a_ropes, v_a_hands, v_a_boats, v_a_muds, v_a_loose, .ref q_a_kind, v_a_wide, .ref q_a_bank, v_a_mud, v_a_ropeAt, v_a_pulls, v_a_bears, v_a_strong, v_a_boatWide, v_a_boatDeep], xI G q_a_kind 6 a_kind, xI G q_a_bank 6 a_bank]) X hW 0 rfl rfl tbc_X8 tyX8 tyX8_ok nmX8 7 (by decide) kw_613 rfl rfl rfl rfl (Nat.le_of_ble_eq_true rfl) rfl dX8_pour_12 (fun H locs hW => ?_)
  refine lv_iconst (v := 0) hx hb dX8_pour_15 (by decide) ?_
  refine lv_istore_n (lv' := [(3, .int 0), (0, .ref q_t), (1, .ref q_a), (2, .int p2)]) hx hb dX8_pour_16 rfl hl (by decide) rfl (fun ls hl => ?_)
  refine w_X8_pour_L17 X q_t q_t_width q_t_comes q_t_depth q_t_spill q_t_harmAt q_a q_a_kind q_a_bank (v_a_flow) (v_a_tape) (v_a_ropes) (v_a_hands) (v_a_boats) (v_a_muds) (v_a_loose) (v_a_wide) (v_a_mud) (v_a_ropeAt) (v_a_pulls) (v_a_bears) (v_a_strong) (v_a_boatWide) (v_a_boatDeep) t_width a_reaches a_kind a_bank out _ (fun t_comes_17 t_depth_17 t_spill_17 t_harmAt_17 t_below_17 t_allHarm_17 t_spilling_17 H locs ls hm hW hl => ?_) _ 0 t_comes t_depth t_spill t_harmAt p2 0 0 _ _ _ hm hW (lv_sub hl [1, 2, 0] rfl)
  obtain rfl := Option.some.inj hm
  exact mx_vret X hW dX8_pour_37

abbrev rm_X8_run : Room := { frames := 3, cells := 0, slots := 0, locals := 67 }
noncomputable def f_X8_run (p2 : Int32) (p3 : Int32) (t_width : Nat → Int32) (t_comes : Nat → Int32) (t_depth : Nat → Int32) (t_spill : Nat → Int32) (t_harmAt : Nat → Int32) (t_below : Int32) (t_allHarm : Int32) (t_spilling : Int32) (a_reaches : Int32) (a_ropes : Int32) (a_kind : Nat → Int32) (a_wide : Nat → Int32) (a_bank : Nat → Int32) (a_ropeAt : Nat → Int32) (a_pulls : Nat → Int32) : Option ((Nat → Int32) × (Nat → Int32) × (Nat → Int32) × (Nat → Int32) × (Nat → Int32) × Int32 × Int32 × Int32) :=
  (f_X8_narrow p2 t_width a_reaches a_ropes a_wide a_ropeAt a_pulls).bind fun o1 => (f_X8_pour p3 o1 t_comes t_depth t_spill t_harmAt t_below t_allHarm t_spilling a_reaches a_kind a_bank).bind fun o2 => some (o1, o2.1, o2.2.1, o2.2.2.1, o2.2.2.2.1, o2.2.2.2.2.1, o2.2.2.2.2.2.1, o2.2.2.2.2.2.2)
set_option maxHeartbeats 4000000 in
set_option maxRecDepth 100000 in
theorem c_X8_run (l : Launch) (G : mx_G) (q_t : Nat) (q_t_width : Nat) (q_t_comes : Nat) (q_t_depth : Nat) (q_t_spill : Nat) (q_t_harmAt : Nat) (q_a : Nat) (q_a_kind : Nat) (q_a_wide : Nat) (q_a_bank : Nat) (q_a_ropeAt : Nat) (q_a_pulls : Nat) (v_a_flow : Value) (v_a_tape : Value) (v_a_hands : Value) (v_a_boats : Value) (v_a_muds : Value) (v_a_loose : Value) (v_a_mud : Value) (v_a_bears : Value) (v_a_strong : Value) (v_a_boatWide : Value) (v_a_boatDeep : Value) (t_width : Nat → Int32) (t_comes : Nat → Int32) (t_depth : Nat → Int32) (t_spill : Nat → Int32) (t_harmAt : Nat → Int32) (t_below : Int32) (t_allHarm : Int32) (t_spilling : Int32) (a_reaches : Int32) (a_ropes : Int32) (a_kind : Nat → Int32) (a_wide : Nat → Int32) (a_bank : Nat → Int32) (a_ropeAt : Nat → Int32) (a_pulls : Nat → Int32) (p2 : Int32) (p3 : Int32) (out : (Nat → Int32) × (Nat → Int32) × (Nat → Int32) × (Nat → Int32) × (Nat → Int32) × Int32 × Int32 × Int32) (hm : f_X8_run p2 p3 t_width t_comes t_depth t_spill t_harmAt t_below t_allHarm t_spilling a_reaches a_ropes a_kind a_wide a_bank a_ropeAt a_pulls = some out) : mx_C l yX8_run cX8_run 4 none rm_X8_run G [.ref q_t, .ref q_a, .int p2, .int p3] [xO q_t 8 [.ref q_t_width, .ref q_t_comes, .ref q_t_depth, .ref q_t_spill, .ref q_t_harmAt, .int t_below, .int t_allHarm, .int t_spilling], xI G q_t_width 6 t_width, xI G q_t_comes 6 t_comes, xI G q_t_depth 6 t_depth, xI G q_t_spill 6 t_spill, xI G q_t_harmAt 6 t_harmAt, xO q_a 6 [v_a_flow, v_a_tape, .int a_reaches, .int a_ropes, v_a_hands, v_a_boats, v_a_muds, v_a_loose, .ref q_a_kind, .ref q_a_wide, .ref q_a_bank, v_a_mud, .ref q_a_ropeAt, .ref q_a_pulls, v_a_bears, v_a_strong, v_a_boatWide, v_a_boatDeep], xI G q_a_kind 6 a_kind, xI G q_a_wide 6 a_wide, xI G q_a_bank 6 a_bank, xI G q_a_ropeAt 7 a_ropeAt, xI G q_a_pulls 7 a_pulls] none [xO q_t 8 [.ref q_t_width, .ref q_t_comes, .ref q_t_depth, .ref q_t_spill, .ref q_t_harmAt, .int out.2.2.2.2.2.1, .int out.2.2.2.2.2.2.1, .int out.2.2.2.2.2.2.2], xI G q_t_width 6 out.1, xI G q_t_comes 6 out.2.1, xI G q_t_depth 6 out.2.2.1, xI G q_t_spill 6 out.2.2.2.1, xI G q_t_harmAt 6 out.2.2.2.2.1, xO q_a 6 [v_a_flow, v_a_tape, .int a_reaches, .int a_ropes, v_a_hands, v_a_boats, v_a_muds, v_a_loose, .ref q_a_kind, .ref q_a_wide, .ref q_a_bank, v_a_mud, .ref q_a_ropeAt, .ref q_a_pulls, v_a_bears, v_a_strong, v_a_boatWide, v_a_boatDeep], xI G q_a_kind 6 a_kind, xI G q_a_wide 6 a_wide, xI G q_a_bank 6 a_bank, xI G q_a_ropeAt 7 a_ropeAt, xI G q_a_pulls 7 a_pulls] := by
  refine mx_enter (own := RX8) (name := "run") (lv := [(0, .ref q_t), (1, .ref q_a), (2, .int p2), (3, .int p3)]) (by decide) rfl rfl (Nat.le_of_ble_eq_true rfl) rfl ?_
  intro p e s m args below meth c A ls X hW hl
  obtain ⟨hx, hb, hml, hown, hts, hKN, -⟩ := id X
  unfold f_X8_run at hm
  refine lv_aload_n hx hb dX8_run_0 rfl (lv_at hl 0 rfl) ?_
  refine lv_aload_n hx hb dX8_run_1 rfl (lv_at hl 1 rfl) ?_
  refine lv_iload_n hx hb dX8_run_2 rfl (lv_at hl 2 rfl) ?_
  obtain ⟨o1, ho1, hm⟩ := bd_s hm
  refine mx_callV (C := RX8) (T := TX8) (N := 8) (ci := 8) (n := 2) (As := [.ref q_a, .int p2]) (rest := []) (st1 := []) (w2 := [xO q_t 8 [.ref q_t_width, .ref q_t_comes, .ref q_t_depth, .ref q_t_spill, .ref q_t_harmAt, .int t_below, .int t_allHarm, .int t_spilling], xI G q_t_width 6 o1, xI G q_t_comes 6 t_comes, xI G q_t_depth 6 t_depth, xI G q_t_spill 6 t_spill, xI G q_t_harmAt 6 t_harmAt, xO q_a 6 [v_a_flow, v_a_tape, .int a_reaches, .int a_ropes, v_a_hands, v_a_boats, v_a_muds, v_a_loose, .ref q_a_kind, .ref q_a_wide, .ref q_a_bank, v_a_mud, .ref q_a_ropeAt, .ref q_a_pulls, v_a_bears, v_a_strong, v_a_boatWide, v_a_boatDeep], xI G q_a_kind 6 a_kind, xI G q_a_wide 6 a_wide, xI G q_a_bank 6 a_bank, xI G q_a_ropeAt 7 a_ropeAt, xI G q_a_pulls 7 a_pulls]) X hW hl.1 (c_X8_narrow l G q_t q_t_width q_a q_a_wide q_a_ropeAt q_a_pulls (.ref q_t_comes) (.ref q_t_depth) (.ref q_t_spill) (.ref q_t_harmAt) (.int t_below) (.int t_allHarm) (.int t_spilling) (v_a_flow) (v_a_tape) (v_a_hands) (v_a_boats) (v_a_muds) (v_a_loose) (.ref q_a_kind) (.ref q_a_bank) (v_a_mud) (v_a_bears) (v_a_strong) (v_a_boatWide) (v_a_boatDeep) t_width a_reaches a_ropes a_wide a_ropeAt a_pulls p2 o1 ho1) 0 rfl rfl kw_595 kw_596 kw_597 kw_27 kw_598 (by decide +kernel) ⟨rfl, rfl⟩ ⟨by decide, by decide⟩ ⟨Nat.zero_le _, Nat.zero_le _⟩ [0, 1, 6, 8, 10, 11] (by decide) rfl rfl rfl rfl rfl rfl (Nat.le_of_ble_eq_true rfl) rfl dX8_run_3 (fun H locs hW => ?_)
  refine lv_aload_n hx hb dX8_run_6 rfl (lv_at hl 0 rfl) ?_
  refine lv_aload_n hx hb dX8_run_7 rfl (lv_at hl 1 rfl) ?_
  refine lv_iload_n hx hb dX8_run_8 rfl (lv_at hl 3 rfl) ?_
  obtain ⟨o2, ho2, hm⟩ := bd_s hm
  refine mx_callV (C := RX8) (T := TX8) (N := 8) (ci := 8) (n := 2) (As := [.ref q_a, .int p3]) (rest := []) (st1 := []) (w2 := [xO q_t 8 [.ref q_t_width, .ref q_t_comes, .ref q_t_depth, .ref q_t_spill, .ref q_t_harmAt, .int o2.2.2.2.2.1, .int o2.2.2.2.2.2.1, .int o2.2.2.2.2.2.2], xI G q_t_width 6 o1, xI G q_t_comes 6 o2.1, xI G q_t_depth 6 o2.2.1, xI G q_t_spill 6 o2.2.2.1, xI G q_t_harmAt 6 o2.2.2.2.1, xO q_a 6 [v_a_flow, v_a_tape, .int a_reaches, .int a_ropes, v_a_hands, v_a_boats, v_a_muds, v_a_loose, .ref q_a_kind, .ref q_a_wide, .ref q_a_bank, v_a_mud, .ref q_a_ropeAt, .ref q_a_pulls, v_a_bears, v_a_strong, v_a_boatWide, v_a_boatDeep], xI G q_a_kind 6 a_kind, xI G q_a_wide 6 a_wide, xI G q_a_bank 6 a_bank, xI G q_a_ropeAt 7 a_ropeAt, xI G q_a_pulls 7 a_pulls]) X hW hl.1 (c_X8_pour l G q_t q_t_width q_t_comes q_t_depth q_t_spill q_t_harmAt q_a q_a_kind q_a_bank (v_a_flow) (v_a_tape) (.int a_ropes) (v_a_hands) (v_a_boats) (v_a_muds) (v_a_loose) (.ref q_a_wide) (v_a_mud) (.ref q_a_ropeAt) (.ref q_a_pulls) (v_a_bears) (v_a_strong) (v_a_boatWide) (v_a_boatDeep) o1 t_comes t_depth t_spill t_harmAt t_below t_allHarm t_spilling a_reaches a_kind a_bank p3 o2 ho2) 0 rfl rfl kw_607 kw_608 kw_609 kw_27 kw_610 (by decide +kernel) ⟨rfl, rfl⟩ ⟨by decide, by decide⟩ ⟨Nat.zero_le _, Nat.zero_le _⟩ [0, 1, 2, 3, 4, 5, 6, 7, 9] (by decide) rfl rfl rfl rfl rfl rfl (Nat.le_of_ble_eq_true rfl) rfl dX8_run_9 (fun H locs hW => ?_)
  obtain rfl := Option.some.inj hm
  exact mx_vret X hW dX8_run_12

abbrev rm_X8_tooWide : Room := { frames := 0, cells := 0, slots := 0, locals := 0 }
noncomputable def f_X8_tooWide_L4 (k_37 : Int32 → Option (Int32)) (t_width : Nat → Int32) (a_tape : Int32) (a_reaches : Int32) : Nat → Int32 → Int32 → Option (Int32)
  | 0, _, _ => none
  | n + 1, x2, x3 =>
    (if a_reaches ≤ x3 then
      k_37 x2
    else
      gd (inb x3 6) <| (if (t_width x3.toNatClampNeg) ≤ a_tape then
        f_X8_tooWide_L4 k_37 t_width a_tape a_reaches n x2 (x3 + 1)
      else
        nm (x2 ||| (1 <<< (x3 &&& 31))) fun z4 =>f_X8_tooWide_L4 k_37 t_width a_tape a_reaches n z4 (x3 + 1)))
noncomputable def f_X8_tooWide (t_width : Nat → Int32) (a_tape : Int32) (a_reaches : Int32) : Option (Int32) :=
  f_X8_tooWide_L4 (fun x2_4 =>
    some x2_4) t_width a_tape a_reaches 2000 0 0
set_option maxHeartbeats 4000000 in
set_option maxRecDepth 100000 in
theorem w_X8_tooWide_L4 {p : Program} {l : Launch} {e : Env} {s : State} {m : MethodId} {args : Array Value} {below : List Frame} {meth : Method} {c : Code} {A : Nat → Prop} {G : mx_G} (X : mx_X p s m args meth c RX8 "tooWide" cX8_tooWide 4 (some .int) G) (q_t : Nat) (q_t_width : Nat) (q_a : Nat) (v_t_comes : Value) (v_t_depth : Value) (v_t_spill : Value) (v_t_harmAt : Value) (v_t_below : Value) (v_t_allHarm : Value) (v_t_spilling : Value) (v_a_flow : Value) (v_a_ropes : Value) (v_a_hands : Value) (v_a_boats : Value) (v_a_muds : Value) (v_a_loose : Value) (v_a_kind : Value) (v_a_wide : Value) (v_a_bank : Value) (v_a_mud : Value) (v_a_ropeAt : Value) (v_a_pulls : Value) (v_a_bears : Value) (v_a_strong : Value) (v_a_boatWide : Value) (v_a_boatDeep : Value) (t_width : Nat → Int32) (a_tape : Int32) (a_reaches : Int32)  (out : Int32) (k_37 : Int32 → Option (Int32)) (hk_37 : ∀ (x2 : Int32) (H : Heap) (locs : List Loc) (ls : Array Slot), k_37 x2 = some out → mx_W G s A [xO q_t 8 [.ref q_t_width, v_t_comes, v_t_depth, v_t_spill, v_t_harmAt, v_t_below, v_t_allHarm, v_t_spilling], xI G q_t_width 6 t_width, xO q_a 6 [v_a_flow, .int a_tape, .int a_reaches, v_a_ropes, v_a_hands, v_a_boats, v_a_muds, v_a_loose, v_a_kind, v_a_wide, v_a_bank, v_a_mud, v_a_ropeAt, v_a_pulls, v_a_bears, v_a_strong, v_a_boatWide, v_a_boatDeep]] H locs → lv_has ls 4 [(2, .int x2)] → W p l e rm_X8_tooWide s m args below meth c H locs 0 0 (MQ below (mx_Q G (some (.int out)) [xO q_t 8 [.ref q_t_width, v_t_comes, v_t_depth, v_t_spill, v_t_harmAt, v_t_below, v_t_allHarm, v_t_spilling], xI G q_t_width 6 t_width, xO q_a 6 [v_a_flow, .int a_tape, .int a_reaches, v_a_ropes, v_a_hands, v_a_boats, v_a_muds, v_a_loose, v_a_kind, v_a_wide, v_a_bank, v_a_mud, v_a_ropeAt, v_a_pulls, v_a_bears, v_a_strong, v_a_boatWide, v_a_boatDeep]] A) args s 0 0 A) (F0 m 37 ls [])) : ∀ (n : Nat) (x2 : Int32) (x3 : Int32) (H : Heap) (locs : List Loc) (ls : Array Slot), f_X8_tooWide_L4 k_37 t_width a_tape a_reaches n x2 x3 = some out → mx_W G s A [xO q_t 8 [.ref q_t_width, v_t_comes, v_t_depth, v_t_spill, v_t_harmAt, v_t_below, v_t_allHarm, v_t_spilling], xI G q_t_width 6 t_width, xO q_a 6 [v_a_flow, .int a_tape, .int a_reaches, v_a_ropes, v_a_hands, v_a_boats, v_a_muds, v_a_loose, v_a_kind, v_a_wide, v_a_bank, v_a_mud, v_a_ropeAt, v_a_pulls, v_a_bears, v_a_strong, v_a_boatWide, v_a_boatDeep]] H locs → lv_has ls 4 [(0, .ref q_t), (1, .ref q_a), (2, .int x2), (3, .int x3)] → W p l e rm_X8_tooWide s m args below meth c H locs 0 0 (MQ below (mx_Q G (some (.int out)) [xO q_t 8 [.ref q_t_width, v_t_comes, v_t_depth, v_t_spill, v_t_harmAt, v_t_below, v_t_allHarm, v_t_spilling], xI G q_t_width 6 t_width, xO q_a 6 [v_a_flow, .int a_tape, .int a_reaches, v_a_ropes, v_a_hands, v_a_boats, v_a_muds, v_a_loose, v_a_kind, v_a_wide, v_a_bank, v_a_mud, v_a_ropeAt, v_a_pulls, v_a_bears, v_a_strong, v_a_boatWide, v_a_boatDeep]] A) args s 0 0 A) (F0 m 4 ls []) := by
  obtain ⟨hx, hb, hml, hown, hts, hKN, -⟩ := id X
  intro n
  induction n with
  | zero => intro x2 x3 H locs ls hm hW hl; exact absurd (show none = some out from hm) (fun h => by cases h)
  | succ n ih =>
    intro x2 x3 H locs ls hm hW hl
    rw [f_X8_tooWide_L4] at hm
    refine lv_iload_n hx hb dX8_tooWide_4 rfl (lv_at hl 3 rfl) ?_
    refine lv_aload_n hx hb dX8_tooWide_5 rfl (lv_at hl 1 rfl) ?_
    refine mx_get (C := RX6) (T := TX6) (N := 18) (ci := 6) X hW 2 rfl rfl tbc_X6 2 (by decide) kw_599 rfl dX8_tooWide_6 ?_
    refine lv_icmp_ge (tgt := 37) hx hb dX8_tooWide_9 (by decide) (fun c1 => ?_) (fun c1 => ?_)
    · have hm := (if_pos c1).symm.trans hm
      exact hk_37 x2 _ _ _ hm hW (lv_sub hl [2] rfl)
    · have hm := (if_neg c1).symm.trans hm
      refine lv_aload_n hx hb dX8_tooWide_12 rfl (lv_at hl 0 rfl) ?_
      refine mx_get (C := RX8) (T := TX8) (N := 8) (ci := 8) X hW 0 rfl rfl tbc_X8 0 (by decide) kw_92 rfl dX8_tooWide_13 ?_
      refine lv_iload_n hx hb dX8_tooWide_16 rfl (lv_at hl 3 rfl) ?_
      obtain ⟨hg2, hm⟩ := gd_s hm
      refine mx_iald X hW 1 rfl (inb_s hg2) dX8_tooWide_17 ?_
      refine lv_aload_n hx hb dX8_tooWide_18 rfl (lv_at hl 1 rfl) ?_
      refine mx_get (C := RX6) (T := TX6) (N := 18) (ci := 6) X hW 2 rfl rfl tbc_X6 1 (by decide) kw_760 rfl dX8_tooWide_19 ?_
      refine lv_icmp_le (tgt := 31) hx hb dX8_tooWide_22 (by decide) (fun c3 => ?_) (fun c3 => ?_)
      · have hm := (if_pos c3).symm.trans hm
        refine lv_iinc (v := x3 + 1) (lv' := [(3, .int (x3 + 1)), (0, .ref q_t), (1, .ref q_a), (2, .int x2)]) hx hb dX8_tooWide_31 hl (k := 3) rfl rfl (by decide) rfl (fun ls hl => ?_)
        refine lv_goto (tgt := 4) hx hb dX8_tooWide_34 (by decide) ?_
        exact ih x2 (x3 + 1) _ _ _ hm hW (lv_sub hl [1, 2, 3, 0] rfl)
      · have hm := (if_neg c3).symm.trans hm
        refine lv_iload_n hx hb dX8_tooWide_25 rfl (lv_at hl 2 rfl) ?_
        refine lv_iconst (v := 1) hx hb dX8_tooWide_26 (by decide) ?_
        refine lv_iload_n hx hb dX8_tooWide_27 rfl (lv_at hl 3 rfl) ?_
        refine lv_ishl hx hb dX8_tooWide_28 ?_
        refine lv_ior hx hb dX8_tooWide_29 ?_
        refine lv_topi (fun z4 ez4 => ?_)
        have hm := nm_s ez4 hm
        refine lv_istore_n (lv' := [(2, .int z4), (0, .ref q_t), (1, .ref q_a), (3, .int x3)]) hx hb dX8_tooWide_30 rfl hl (by decide) rfl (fun ls hl => ?_)
        refine lv_iinc (v := x3 + 1) (lv' := [(3, .int (x3 + 1)), (2, .int z4), (0, .ref q_t), (1, .ref q_a)]) hx hb dX8_tooWide_31 hl (k := 3) rfl rfl (by decide) rfl (fun ls hl => ?_)
        refine lv_goto (tgt := 4) hx hb dX8_tooWide_34 (by decide) ?_
        exact ih z4 (x3 + 1) _ _ _ hm hW (lv_sub hl [2, 3, 1, 0] rfl)
set_option maxHeartbeats 4000000 in
set_option maxRecDepth 100000 in
theorem c_X8_tooWide (l : Launch) (G : mx_G) (q_t : Nat) (q_t_width : Nat) (q_a : Nat) (v_t_comes : Value) (v_t_depth : Value) (v_t_spill : Value) (v_t_harmAt : Value) (v_t_below : Value) (v_t_allHarm : Value) (v_t_spilling : Value) (v_a_flow : Value) (v_a_ropes : Value) (v_a_hands : Value) (v_a_boats : Value) (v_a_muds : Value) (v_a_loose : Value) (v_a_kind : Value) (v_a_wide : Value) (v_a_bank : Value) (v_a_mud : Value) (v_a_ropeAt : Value) (v_a_pulls : Value) (v_a_bears : Value) (v_a_strong : Value) (v_a_boatWide : Value) (v_a_boatDeep : Value) (t_width : Nat → Int32) (a_tape : Int32) (a_reaches : Int32) (out : Int32) (hm : f_X8_tooWide t_width a_tape a_reaches = some out) : mx_C l yX8_tooWide cX8_tooWide 4 (some .int) rm_X8_tooWide G [.ref q_t, .ref q_a] [xO q_t 8 [.ref q_t_width, v_t_comes, v_t_depth, v_t_spill, v_t_harmAt, v_t_below, v_t_allHarm, v_t_spilling], xI G q_t_width 6 t_width, xO q_a 6 [v_a_flow, .int a_tape, .int a_reaches, v_a_ropes, v_a_hands, v_a_boats, v_a_muds, v_a_loose, v_a_kind, v_a_wide, v_a_bank, v_a_mud, v_a_ropeAt, v_a_pulls, v_a_bears, v_a_strong, v_a_boatWide, v_a_boatDeep]] (some (.int out)) [xO q_t 8 [.ref q_t_width, v_t_comes, v_t_depth, v_t_spill, v_t_harmAt, v_t_below, v_t_allHarm, v_t_spilling], xI G q_t_width 6 t_width, xO q_a 6 [v_a_flow, .int a_tape, .int a_reaches, v_a_ropes, v_a_hands, v_a_boats, v_a_muds, v_a_loose, v_a_kind, v_a_wide, v_a_bank, v_a_mud, v_a_ropeAt, v_a_pulls, v_a_bears, v_a_strong, v_a_boatWide, v_a_boatDeep]] := by
  refine mx_enter (own := RX8) (name := "tooWide") (lv := [(0, .ref q_t), (1, .ref q_a)]) (by decide) rfl rfl (Nat.le_of_ble_eq_true rfl) rfl ?_
  intro p e s m args below meth c A ls X hW hl
  obtain ⟨hx, hb, hml, hown, hts, hKN, -⟩ := id X
  unfold f_X8_tooWide at hm
  refine lv_iconst (v := 0) hx hb dX8_tooWide_0 (by decide) ?_
  refine lv_istore_n (lv' := [(2, .int 0), (0, .ref q_t), (1, .ref q_a)]) hx hb dX8_tooWide_1 rfl hl (by decide) rfl (fun ls hl => ?_)
  refine lv_iconst (v := 0) hx hb dX8_tooWide_2 (by decide) ?_
  refine lv_istore_n (lv' := [(3, .int 0), (2, .int 0), (0, .ref q_t), (1, .ref q_a)]) hx hb dX8_tooWide_3 rfl hl (by decide) rfl (fun ls hl => ?_)
  refine w_X8_tooWide_L4 X q_t q_t_width q_a (v_t_comes) (v_t_depth) (v_t_spill) (v_t_harmAt) (v_t_below) (v_t_allHarm) (v_t_spilling) (v_a_flow) (v_a_ropes) (v_a_hands) (v_a_boats) (v_a_muds) (v_a_loose) (v_a_kind) (v_a_wide) (v_a_bank) (v_a_mud) (v_a_ropeAt) (v_a_pulls) (v_a_bears) (v_a_strong) (v_a_boatWide) (v_a_boatDeep) t_width a_tape a_reaches out _ (fun x2_4 H locs ls hm hW hl => ?_) _ 0 0 _ _ _ hm hW (lv_sub hl [2, 3, 1, 0] rfl)
  refine lv_iload_n hx hb dX8_tooWide_37 rfl (lv_at hl 0 rfl) ?_
  obtain rfl := Option.some.inj hm
  exact mx_iret X hW dX8_tooWide_38

abbrev rm_J6_bitCount_0f7a4 : Room := { frames := 0, cells := 0, slots := 0, locals := 0 }
noncomputable def f_J6_bitCount_0f7a4 (p1 : Int32) : Option (Int32) :=
  nm (p1 - (((p1.toUInt32 >>> ((1 : Int32).toUInt32 &&& Int32.toUInt32 31)).toInt32) &&& 1431655765)) fun z1 => nm ((z1 &&& 858993459) + (((z1.toUInt32 >>> ((2 : Int32).toUInt32 &&& Int32.toUInt32 31)).toInt32) &&& 858993459)) fun z2 => nm ((z2 + ((z2.toUInt32 >>> ((4 : Int32).toUInt32 &&& Int32.toUInt32 31)).toInt32)) &&& 252645135) fun z3 => nm (z3 + ((z3.toUInt32 >>> ((8 : Int32).toUInt32 &&& Int32.toUInt32 31)).toInt32)) fun z4 => nm (z4 + ((z4.toUInt32 >>> ((16 : Int32).toUInt32 &&& Int32.toUInt32 31)).toInt32)) fun z5 => some (z5 &&& 63)
set_option maxHeartbeats 4000000 in
set_option maxRecDepth 100000 in
theorem c_J6_bitCount_0f7a4 (l : Launch) (G : mx_G) (p1 : Int32) (out : Int32) (hm : f_J6_bitCount_0f7a4 p1 = some out) : mx_C l yJ6_bitCount_0f7a4 cJ6_bitCount_0f7a4 1 (some .int) rm_J6_bitCount_0f7a4 G [.int p1] [] (some (.int out)) [] := by
  refine mx_enter (own := RJ6) (name := "bitCount") (lv := [(0, .int p1)]) (by decide) rfl rfl (Nat.le_of_ble_eq_true rfl) rfl ?_
  intro p e s m args below meth c A ls X hW hl
  obtain ⟨hx, hb, hml, hown, hts, hKN, -⟩ := id X
  unfold f_J6_bitCount_0f7a4 at hm
  refine lv_iload_n hx hb dJ6_bitCount_0f7a4_0 rfl (lv_at hl 0 rfl) ?_
  refine lv_iload_n hx hb dJ6_bitCount_0f7a4_1 rfl (lv_at hl 0 rfl) ?_
  refine lv_iconst (v := 1) hx hb dJ6_bitCount_0f7a4_2 (by decide) ?_
  refine lv_iushr (v := (p1.toUInt32 >>> ((1 : Int32).toUInt32 &&& Int32.toUInt32 31)).toInt32) hx hb dJ6_bitCount_0f7a4_3 rfl ?_
  refine lv_ldcw (v := 1431655765) hx hb hown (hts _ kw_891) dJ6_bitCount_0f7a4_4 ?_
  refine lv_iand hx hb dJ6_bitCount_0f7a4_7 ?_
  refine lv_isub hx hb dJ6_bitCount_0f7a4_8 ?_
  refine lv_topi (fun z1 ez1 => ?_)
  have hm := nm_s ez1 hm
  refine lv_istore_n (lv' := [(0, .int z1)]) hx hb dJ6_bitCount_0f7a4_9 rfl hl (by decide) rfl (fun ls hl => ?_)
  refine lv_iload_n hx hb dJ6_bitCount_0f7a4_10 rfl (lv_at hl 0 rfl) ?_
  refine lv_ldcw (v := 858993459) hx hb hown (hts _ kw_892) dJ6_bitCount_0f7a4_11 ?_
  refine lv_iand hx hb dJ6_bitCount_0f7a4_14 ?_
  refine lv_iload_n hx hb dJ6_bitCount_0f7a4_15 rfl (lv_at hl 0 rfl) ?_
  refine lv_iconst (v := 2) hx hb dJ6_bitCount_0f7a4_16 (by decide) ?_
  refine lv_iushr (v := (z1.toUInt32 >>> ((2 : Int32).toUInt32 &&& Int32.toUInt32 31)).toInt32) hx hb dJ6_bitCount_0f7a4_17 rfl ?_
  refine lv_ldcw (v := 858993459) hx hb hown (hts _ kw_892) dJ6_bitCount_0f7a4_18 ?_
  refine lv_iand hx hb dJ6_bitCount_0f7a4_21 ?_
  refine lv_iadd hx hb dJ6_bitCount_0f7a4_22 ?_
  refine lv_topi (fun z2 ez2 => ?_)
  have hm := nm_s ez2 hm
  refine lv_istore_n (lv' := [(0, .int z2)]) hx hb dJ6_bitCount_0f7a4_23 rfl hl (by decide) rfl (fun ls hl => ?_)
  refine lv_iload_n hx hb dJ6_bitCount_0f7a4_24 rfl (lv_at hl 0 rfl) ?_
  refine lv_iload_n hx hb dJ6_bitCount_0f7a4_25 rfl (lv_at hl 0 rfl) ?_
  refine lv_iconst (v := 4) hx hb dJ6_bitCount_0f7a4_26 (by decide) ?_
  refine lv_iushr (v := (z2.toUInt32 >>> ((4 : Int32).toUInt32 &&& Int32.toUInt32 31)).toInt32) hx hb dJ6_bitCount_0f7a4_27 rfl ?_
  refine lv_iadd hx hb dJ6_bitCount_0f7a4_28 ?_
  refine lv_ldcw (v := 252645135) hx hb hown (hts _ kw_893) dJ6_bitCount_0f7a4_29 ?_
  refine lv_iand hx hb dJ6_bitCount_0f7a4_32 ?_
  refine lv_topi (fun z3 ez3 => ?_)
  have hm := nm_s ez3 hm
  refine lv_istore_n (lv' := [(0, .int z3)]) hx hb dJ6_bitCount_0f7a4_33 rfl hl (by decide) rfl (fun ls hl => ?_)
  refine lv_iload_n hx hb dJ6_bitCount_0f7a4_34 rfl (lv_at hl 0 rfl) ?_
  refine lv_iload_n hx hb dJ6_bitCount_0f7a4_35 rfl (lv_at hl 0 rfl) ?_
  refine lv_bipush (v := 8) hx hb dJ6_bitCount_0f7a4_36 (by decide) ?_
  refine lv_iushr (v := (z3.toUInt32 >>> ((8 : Int32).toUInt32 &&& Int32.toUInt32 31)).toInt32) hx hb dJ6_bitCount_0f7a4_38 rfl ?_
  refine lv_iadd hx hb dJ6_bitCount_0f7a4_39 ?_
  refine lv_topi (fun z4 ez4 => ?_)
  have hm := nm_s ez4 hm
  refine lv_istore_n (lv' := [(0, .int z4)]) hx hb dJ6_bitCount_0f7a4_40 rfl hl (by decide) rfl (fun ls hl => ?_)
  refine lv_iload_n hx hb dJ6_bitCount_0f7a4_41 rfl (lv_at hl 0 rfl) ?_
  refine lv_iload_n hx hb dJ6_bitCount_0f7a4_42 rfl (lv_at hl 0 rfl) ?_
  refine lv_bipush (v := 16) hx hb dJ6_bitCount_0f7a4_43 (by decide) ?_
  refine lv_iushr (v := (z4.toUInt32 >>> ((16 : Int32).toUInt32 &&& Int32.toUInt32 31)).toInt32) hx hb dJ6_bitCount_0f7a4_45 rfl ?_
  refine lv_iadd hx hb dJ6_bitCount_0f7a4_46 ?_
  refine lv_topi (fun z5 ez5 => ?_)
  have hm := nm_s ez5 hm
  refine lv_istore_n (lv' := [(0, .int z5)]) hx hb dJ6_bitCount_0f7a4_47 rfl hl (by decide) rfl (fun ls hl => ?_)
  refine lv_iload_n hx hb dJ6_bitCount_0f7a4_48 rfl (lv_at hl 0 rfl) ?_
  refine lv_bipush (v := 63) hx hb dJ6_bitCount_0f7a4_49 (by decide) ?_
  refine lv_iand hx hb dJ6_bitCount_0f7a4_51 ?_
  obtain rfl := Option.some.inj hm
  exact mx_iret X hW dJ6_bitCount_0f7a4_52

abbrev rm_X8_narrowMore : Room := { frames := 1, cells := 0, slots := 0, locals := 21 }
noncomputable def f_X8_narrowMore (p1 : Int32) (p2 : Int32) (t_width : Nat → Int32) : Option (Nat → Int32) :=
  gd (inb p1 6) <| nm (if 1 < ((t_width p1.toNatClampNeg) - p2) then ((t_width p1.toNatClampNeg) - p2) else 1) fun z2 => gd (inb p1 6) <| nm (upd t_width p1.toNatClampNeg z2) fun r4 => some r4
set_option maxHeartbeats 4000000 in
set_option maxRecDepth 100000 in
theorem c_X8_narrowMore (l : Launch) (G : mx_G) (q_t : Nat) (q_t_width : Nat) (v_t_comes : Value) (v_t_depth : Value) (v_t_spill : Value) (v_t_harmAt : Value) (v_t_below : Value) (v_t_allHarm : Value) (v_t_spilling : Value) (t_width : Nat → Int32) (p1 : Int32) (p2 : Int32) (out : Nat → Int32) (hm : f_X8_narrowMore p1 p2 t_width = some out) : mx_C l yX8_narrowMore cX8_narrowMore 3 none rm_X8_narrowMore G [.ref q_t, .int p1, .int p2] [xO q_t 8 [.ref q_t_width, v_t_comes, v_t_depth, v_t_spill, v_t_harmAt, v_t_below, v_t_allHarm, v_t_spilling], xI G q_t_width 6 t_width] none [xO q_t 8 [.ref q_t_width, v_t_comes, v_t_depth, v_t_spill, v_t_harmAt, v_t_below, v_t_allHarm, v_t_spilling], xI G q_t_width 6 out] := by
  refine mx_enter (own := RX8) (name := "narrowMore") (lv := [(0, .ref q_t), (1, .int p1), (2, .int p2)]) (by decide) rfl rfl (Nat.le_of_ble_eq_true rfl) rfl ?_
  intro p e s m args below meth c A ls X hW hl
  obtain ⟨hx, hb, hml, hown, hts, hKN, -⟩ := id X
  unfold f_X8_narrowMore at hm
  refine lv_aload_n hx hb dX8_narrowMore_0 rfl (lv_at hl 0 rfl) ?_
  refine mx_get (C := RX8) (T := TX8) (N := 8) (ci := 8) X hW 0 rfl rfl tbc_X8 0 (by decide) kw_92 rfl dX8_narrowMore_1 ?_
  refine lv_iload_n hx hb dX8_narrowMore_4 rfl (lv_at hl 1 rfl) ?_
  refine lv_iconst (v := 1) hx hb dX8_narrowMore_5 (by decide) ?_
  refine lv_aload_n hx hb dX8_narrowMore_6 rfl (lv_at hl 0 rfl) ?_
  refine mx_get (C := RX8) (T := TX8) (N := 8) (ci := 8) X hW 0 rfl rfl tbc_X8 0 (by decide) kw_92 rfl dX8_narrowMore_7 ?_
  refine lv_iload_n hx hb dX8_narrowMore_10 rfl (lv_at hl 1 rfl) ?_
  obtain ⟨hg1, hm⟩ := gd_s hm
  refine mx_iald X hW 1 rfl (inb_s hg1) dX8_narrowMore_11 ?_
  refine lv_iload_n hx hb dX8_narrowMore_12 rfl (lv_at hl 2 rfl) ?_
  refine lv_isub hx hb dX8_narrowMore_13 ?_
  refine mx_max X hl.1 kw_604 ⟨by decide, Nat.le_of_ble_eq_true rfl⟩ ⟨Nat.zero_le _, Nat.zero_le _⟩ dX8_narrowMore_14 ?_
  refine lv_topi (fun z2 ez2 => ?_)
  have hm := nm_s ez2 hm
  obtain ⟨hg3, hm⟩ := gd_s hm
  refine mx_iast (w2 := [xO q_t 8 [.ref q_t_width, v_t_comes, v_t_depth, v_t_spill, v_t_harmAt, v_t_below, v_t_allHarm, v_t_spilling], xI G q_t_width 6 (upd t_width p1.toNatClampNeg z2)]) X hW 1 rfl (inb_s hg3) rfl dX8_narrowMore_17 (fun H locs hW => ?_)
  obtain ⟨r4, er4⟩ : ∃ z, z = upd t_width p1.toNatClampNeg z2 := ⟨_, rfl⟩
  have hm := nm_s er4 hm
  have hW : mx_W G s A [xO q_t 8 [.ref q_t_width, v_t_comes, v_t_depth, v_t_spill, v_t_harmAt, v_t_below, v_t_allHarm, v_t_spilling], xI G q_t_width 6 r4] H locs := by rw [er4]; exact hW
  obtain rfl := Option.some.inj hm
  exact mx_vret X hW dX8_narrowMore_18

abbrev rm_X8_leastFlow : Room := { frames := 3, cells := 0, slots := 0, locals := 67 }
noncomputable def f_X8_leastFlow_L16 (k_50 : (Nat → Int32) → (Nat → Int32) → (Nat → Int32) → (Nat → Int32) → Int32 → Int32 → Int32 → Option (Int32 × (Nat → Int32) × (Nat → Int32) × (Nat → Int32) × (Nat → Int32) × Int32 × Int32 × Int32)) (x2 : Int32) (x3 : Int32) (t_width : Nat → Int32) (a_reaches : Int32) (a_kind : Nat → Int32) (a_bank : Nat → Int32) : Nat → Int32 → (Nat → Int32) → (Nat → Int32) → (Nat → Int32) → (Nat → Int32) → Int32 → Int32 → Int32 → Option (Int32 × (Nat → Int32) × (Nat → Int32) × (Nat → Int32) × (Nat → Int32) × Int32 × Int32 × Int32)
  | 0, _, _, _, _, _, _, _, _ => none
  | n + 1, x4, t_comes, t_depth, t_spill, t_harmAt, t_below, t_allHarm, t_spilling =>
    (if 999 < x4 then
      k_50 t_comes t_depth t_spill t_harmAt t_below t_allHarm t_spilling
    else
      (f_X8_pour x4 t_width t_comes t_depth t_spill t_harmAt t_below t_allHarm t_spilling a_reaches a_kind a_bank).bind fun o4 => gd (inb x2 6) <| (if (o4.2.1 x2.toNatClampNeg) ≤ x3 then
        f_X8_leastFlow_L16 k_50 x2 x3 t_width a_reaches a_kind a_bank n (x4 + 1) o4.1 o4.2.1 o4.2.2.1 o4.2.2.2.1 o4.2.2.2.2.1 o4.2.2.2.2.2.1 o4.2.2.2.2.2.2
      else
        some (x4, o4.1, o4.2.1, o4.2.2.1, o4.2.2.2.1, o4.2.2.2.2.1, o4.2.2.2.2.2.1, o4.2.2.2.2.2.2)))
noncomputable def f_X8_leastFlow (p2 : Int32) (p3 : Int32) (t_width : Nat → Int32) (t_comes : Nat → Int32) (t_depth : Nat → Int32) (t_spill : Nat → Int32) (t_harmAt : Nat → Int32) (t_below : Int32) (t_allHarm : Int32) (t_spilling : Int32) (a_reaches : Int32) (a_kind : Nat → Int32) (a_bank : Nat → Int32) : Option (Int32 × (Nat → Int32) × (Nat → Int32) × (Nat → Int32) × (Nat → Int32) × Int32 × Int32 × Int32) :=
  gd (inb p2 6) <| nm (if 1 < ((p3 + 1) * (t_width p2.toNatClampNeg)) then ((p3 + 1) * (t_width p2.toNatClampNeg)) else 1) fun z2 => f_X8_leastFlow_L16 (fun t_comes_16 t_depth_16 t_spill_16 t_harmAt_16 t_below_16 t_allHarm_16 t_spilling_16 =>
    some ((-2), t_comes_16, t_depth_16, t_spill_16, t_harmAt_16, t_below_16, t_allHarm_16, t_spilling_16)) p2 p3 t_width a_reaches a_kind a_bank 2000 z2 t_comes t_depth t_spill t_harmAt t_below t_allHarm t_spilling
set_option maxHeartbeats 4000000 in
set_option maxRecDepth 100000 in
theorem w_X8_leastFlow_L16 {p : Program} {l : Launch} {e : Env} {s : State} {m : MethodId} {args : Array Value} {below : List Frame} {meth : Method} {c : Code} {A : Nat → Prop} {G : mx_G} (X : mx_X p s m args meth c RX8 "leastFlow" cX8_leastFlow 5 (some .int) G) (q_t : Nat) (q_t_width : Nat) (q_t_comes : Nat) (q_t_depth : Nat) (q_t_spill : Nat) (q_t_harmAt : Nat) (q_a : Nat) (q_a_kind : Nat) (q_a_bank : Nat) (v_a_flow : Value) (v_a_tape : Value) (v_a_ropes : Value) (v_a_hands : Value) (v_a_boats : Value) (v_a_muds : Value) (v_a_loose : Value) (v_a_wide : Value) (v_a_mud : Value) (v_a_ropeAt : Value) (v_a_pulls : Value) (v_a_bears : Value) (v_a_strong : Value) (v_a_boatWide : Value) (v_a_boatDeep : Value) (t_width : Nat → Int32) (a_reaches : Int32) (a_kind : Nat → Int32) (a_bank : Nat → Int32) (x2 : Int32) (x3 : Int32) (out : Int32 × (Nat → Int32) × (Nat → Int32) × (Nat → Int32) × (Nat → Int32) × Int32 × Int32 × Int32) (k_50 : (Nat → Int32) → (Nat → Int32) → (Nat → Int32) → (Nat → Int32) → Int32 → Int32 → Int32 → Option (Int32 × (Nat → Int32) × (Nat → Int32) × (Nat → Int32) × (Nat → Int32) × Int32 × Int32 × Int32)) (hk_50 : ∀ (t_comes : Nat → Int32) (t_depth : Nat → Int32) (t_spill : Nat → Int32) (t_harmAt : Nat → Int32) (t_below : Int32) (t_allHarm : Int32) (t_spilling : Int32) (H : Heap) (locs : List Loc) (ls : Array Slot), k_50 t_comes t_depth t_spill t_harmAt t_below t_allHarm t_spilling = some out → mx_W G s A [xO q_t 8 [.ref q_t_width, .ref q_t_comes, .ref q_t_depth, .ref q_t_spill, .ref q_t_harmAt, .int t_below, .int t_allHarm, .int t_spilling], xI G q_t_width 6 t_width, xI G q_t_comes 6 t_comes, xI G q_t_depth 6 t_depth, xI G q_t_spill 6 t_spill, xI G q_t_harmAt 6 t_harmAt, xO q_a 6 [v_a_flow, v_a_tape, .int a_reaches, v_a_ropes, v_a_hands, v_a_boats, v_a_muds, v_a_loose, .ref q_a_kind, v_a_wide, .ref q_a_bank, v_a_mud, v_a_ropeAt, v_a_pulls, v_a_bears, v_a_strong, v_a_boatWide, v_a_boatDeep], xI G q_a_kind 6 a_kind, xI G q_a_bank 6 a_bank] H locs → lv_has ls 5 [] → W p l e rm_X8_leastFlow s m args below meth c H locs 0 0 (MQ below (mx_Q G (some (.int out.1)) [xO q_t 8 [.ref q_t_width, .ref q_t_comes, .ref q_t_depth, .ref q_t_spill, .ref q_t_harmAt, .int out.2.2.2.2.2.1, .int out.2.2.2.2.2.2.1, .int out.2.2.2.2.2.2.2], xI G q_t_width 6 t_width, xI G q_t_comes 6 out.2.1, xI G q_t_depth 6 out.2.2.1, xI G q_t_spill 6 out.2.2.2.1, xI G q_t_harmAt 6 out.2.2.2.2.1, xO q_a 6 [v_a_flow, v_a_tape, .int a_reaches, v_a_ropes, v_a_hands, v_a_boats, v_a_muds, v_a_loose, .ref q_a_kind, v_a_wide, .ref q_a_bank, v_a_mud, v_a_ropeAt, v_a_pulls, v_a_bears, v_a_strong, v_a_boatWide, v_a_boatDeep], xI G q_a_kind 6 a_kind, xI G q_a_bank 6 a_bank] A) args s 0 0 A) (F0 m 50 ls [])) : ∀ (n : Nat) (x4 : Int32) (t_comes : Nat → Int32) (t_depth : Nat → Int32) (t_spill : Nat → Int32) (t_harmAt : Nat → Int32) (t_below : Int32) (t_allHarm : Int32) (t_spilling : Int32) (H : Heap) (locs : List Loc) (ls : Array Slot), f_X8_leastFlow_L16 k_50 x2 x3 t_width a_reaches a_kind a_bank n x4 t_comes t_depth t_spill t_harmAt t_below t_allHarm t_spilling = some out → mx_W G s A [xO q_t 8 [.ref q_t_width, .ref q_t_comes, .ref q_t_depth, .ref q_t_spill, .ref q_t_harmAt, .int t_below, .int t_allHarm, .int t_spilling], xI G q_t_width 6 t_width, xI G q_t_comes 6 t_comes, xI G q_t_depth 6 t_depth, xI G q_t_spill 6 t_spill, xI G q_t_harmAt 6 t_harmAt, xO q_a 6 [v_a_flow, v_a_tape, .int a_reaches, v_a_ropes, v_a_hands, v_a_boats, v_a_muds, v_a_loose, .ref q_a_kind, v_a_wide, .ref q_a_bank, v_a_mud, v_a_ropeAt, v_a_pulls, v_a_bears, v_a_strong, v_a_boatWide, v_a_boatDeep], xI G q_a_kind 6 a_kind, xI G q_a_bank 6 a_bank] H locs → lv_has ls 5 [(0, .ref q_t), (1, .ref q_a), (2, .int x2), (3, .int x3), (4, .int x4)] → W p l e rm_X8_leastFlow s m args below meth c H locs 0 0 (MQ below (mx_Q G (some (.int out.1)) [xO q_t 8 [.ref q_t_width, .ref q_t_comes, .ref q_t_depth, .ref q_t_spill, .ref q_t_harmAt, .int out.2.2.2.2.2.1, .int out.2.2.2.2.2.2.1, .int out.2.2.2.2.2.2.2], xI G q_t_width 6 t_width, xI G q_t_comes 6 out.2.1, xI G q_t_depth 6 out.2.2.1, xI G q_t_spill 6 out.2.2.2.1, xI G q_t_harmAt 6 out.2.2.2.2.1, xO q_a 6 [v_a_flow, v_a_tape, .int a_reaches, v_a_ropes, v_a_hands, v_a_boats, v_a_muds, v_a_loose, .ref q_a_kind, v_a_wide, .ref q_a_bank, v_a_mud, v_a_ropeAt, v_a_pulls, v_a_bears, v_a_strong, v_a_boatWide, v_a_boatDeep], xI G q_a_kind 6 a_kind, xI G q_a_bank 6 a_bank] A) args s 0 0 A) (F0 m 16 ls []) := by
  obtain ⟨hx, hb, hml, hown, hts, hKN, -⟩ := id X
  intro n
  induction n with
  | zero => intro x4 t_comes t_depth t_spill t_harmAt t_below t_allHarm t_spilling H locs ls hm hW hl; exact absurd (show none = some out from hm) (fun h => by cases h)
  | succ n ih =>
    intro x4 t_comes t_depth t_spill t_harmAt t_below t_allHarm t_spilling H locs ls hm hW hl
    rw [f_X8_leastFlow_L16] at hm
    refine lv_iload hx hb dX8_leastFlow_16 (lv_at hl 4 rfl) ?_
    refine lv_sipush (v := 999) hx hb dX8_leastFlow_18 (by decide) ?_
    refine lv_icmp_gt (tgt := 50) hx hb dX8_leastFlow_21 (by decide) (fun c3 => ?_) (fun c3 => ?_)
    · have hm := (if_pos c3).symm.trans hm
      exact hk_50 t_comes t_depth t_spill t_harmAt t_below t_allHarm t_spilling _ _ _ hm hW (lv_sub hl [] rfl)
    · have hm := (if_neg c3).symm.trans hm
      refine lv_aload_n hx hb dX8_leastFlow_24 rfl (lv_at hl 0 rfl) ?_
      refine lv_aload_n hx hb dX8_leastFlow_25 rfl (lv_at hl 1 rfl) ?_
      refine lv_iload hx hb dX8_leastFlow_26 (lv_at hl 4 rfl) ?_
      obtain ⟨o4, ho4, hm⟩ := bd_s hm
      refine mx_callV (C := RX8) (T := TX8) (N := 8) (ci := 8) (n := 2) (As := [.ref q_a, .int x4]) (rest := []) (st1 := []) (w2 := [xO q_t 8 [.ref q_t_width, .ref q_t_comes, .ref q_t_depth, .ref q_t_spill, .ref q_t_harmAt, .int o4.2.2.2.2.1, .int o4.2.2.2.2.2.1, .int o4.2.2.2.2.2.2], xI G q_t_width 6 t_width, xI G q_t_comes 6 o4.1, xI G q_t_depth 6 o4.2.1, xI G q_t_spill 6 o4.2.2.1, xI G q_t_harmAt 6 o4.2.2.2.1, xO q_a 6 [v_a_flow, v_a_tape, .int a_reaches, v_a_ropes, v_a_hands, v_a_boats, v_a_muds, v_a_loose, .ref q_a_kind, v_a_wide, .ref q_a_bank, v_a_mud, v_a_ropeAt, v_a_pulls, v_a_bears, v_a_strong, v_a_boatWide, v_a_boatDeep], xI G q_a_kind 6 a_kind, xI G q_a_bank 6 a_bank]) X hW hl.1 (c_X8_pour l G q_t q_t_width q_t_comes q_t_depth q_t_spill q_t_harmAt q_a q_a_kind q_a_bank (v_a_flow) (v_a_tape) (v_a_ropes) (v_a_hands) (v_a_boats) (v_a_muds) (v_a_loose) (v_a_wide) (v_a_mud) (v_a_ropeAt) (v_a_pulls) (v_a_bears) (v_a_strong) (v_a_boatWide) (v_a_boatDeep) t_width t_comes t_depth t_spill t_harmAt t_below t_allHarm t_spilling a_reaches a_kind a_bank x4 o4 ho4) 0 rfl rfl kw_607 kw_608 kw_609 kw_27 kw_610 (by decide +kernel) ⟨rfl, rfl⟩ ⟨by decide, by decide⟩ ⟨Nat.zero_le _, Nat.zero_le _⟩ [0, 1, 2, 3, 4, 5, 6, 7, 8] (by decide) rfl rfl rfl rfl rfl rfl (Nat.le_of_ble_eq_true rfl) rfl dX8_leastFlow_28 (fun H locs hW => ?_)
      refine lv_aload_n hx hb dX8_leastFlow_31 rfl (lv_at hl 0 rfl) ?_
      refine mx_get (C := RX8) (T := TX8) (N := 8) (ci := 8) X hW 0 rfl rfl tbc_X8 2 (by decide) kw_94 rfl dX8_leastFlow_32 ?_
      refine lv_iload_n hx hb dX8_leastFlow_35 rfl (lv_at hl 2 rfl) ?_
      obtain ⟨hg5, hm⟩ := gd_s hm
      refine mx_iald X hW 3 rfl (inb_s hg5) dX8_leastFlow_36 ?_
      refine lv_iload_n hx hb dX8_leastFlow_37 rfl (lv_at hl 3 rfl) ?_
      refine lv_icmp_le (tgt := 44) hx hb dX8_leastFlow_38 (by decide) (fun c6 => ?_) (fun c6 => ?_)
      · have hm := (if_pos c6).symm.trans hm
        refine lv_iinc (v := x4 + 1) (lv' := [(4, .int (x4 + 1)), (0, .ref q_t), (1, .ref q_a), (2, .int x2), (3, .int x3)]) hx hb dX8_leastFlow_44 hl (k := 4) rfl rfl (by decide) rfl (fun ls hl => ?_)
        refine lv_goto (tgt := 16) hx hb dX8_leastFlow_47 (by decide) ?_
        exact ih (x4 + 1) o4.1 o4.2.1 o4.2.2.1 o4.2.2.2.1 o4.2.2.2.2.1 o4.2.2.2.2.2.1 o4.2.2.2.2.2.2 _ _ _ hm hW (lv_sub hl [1, 2, 3, 4, 0] rfl)
      · have hm := (if_neg c6).symm.trans hm
        refine lv_iload hx hb dX8_leastFlow_41 (lv_at hl 4 rfl) ?_
        obtain rfl := Option.some.inj hm
        exact mx_iret X hW dX8_leastFlow_43
set_option maxHeartbeats 4000000 in
set_option maxRecDepth 100000 in
theorem c_X8_leastFlow (l : Launch) (G : mx_G) (q_t : Nat) (q_t_width : Nat) (q_t_comes : Nat) (q_t_depth : Nat) (q_t_spill : Nat) (q_t_harmAt : Nat) (q_a : Nat) (q_a_kind : Nat) (q_a_bank : Nat) (v_a_flow : Value) (v_a_tape : Value) (v_a_ropes : Value) (v_a_hands : Value) (v_a_boats : Value) (v_a_muds : Value) (v_a_loose : Value) (v_a_wide : Value) (v_a_mud : Value) (v_a_ropeAt : Value) (v_a_pulls : Value) (v_a_bears : Value) (v_a_strong : Value) (v_a_boatWide : Value) (v_a_boatDeep : Value) (t_width : Nat → Int32) (t_comes : Nat → Int32) (t_depth : Nat → Int32) (t_spill : Nat → Int32) (t_harmAt : Nat → Int32) (t_below : Int32) (t_allHarm : Int32) (t_spilling : Int32) (a_reaches : Int32) (a_kind : Nat → Int32) (a_bank : Nat → Int32) (p2 : Int32) (p3 : Int32) (out : Int32 × (Nat → Int32) × (Nat → Int32) × (Nat → Int32) × (Nat → Int32) × Int32 × Int32 × Int32) (hm : f_X8_leastFlow p2 p3 t_width t_comes t_depth t_spill t_harmAt t_below t_allHarm t_spilling a_reaches a_kind a_bank = some out) : mx_C l yX8_leastFlow cX8_leastFlow 5 (some .int) rm_X8_leastFlow G [.ref q_t, .ref q_a, .int p2, .int p3] [xO q_t 8 [.ref q_t_width, .ref q_t_comes, .ref q_t_depth, .ref q_t_spill, .ref q_t_harmAt, .int t_below, .int t_allHarm, .int t_spilling], xI G q_t_width 6 t_width, xI G q_t_comes 6 t_comes, xI G q_t_depth 6 t_depth, xI G q_t_spill 6 t_spill, xI G q_t_harmAt 6 t_harmAt, xO q_a 6 [v_a_flow, v_a_tape, .int a_reaches, v_a_ropes, v_a_hands, v_a_boats, v_a_muds, v_a_loose, .ref q_a_kind, v_a_wide, .ref q_a_bank, v_a_mud, v_a_ropeAt, v_a_pulls, v_a_bears, v_a_strong, v_a_boatWide, v_a_boatDeep], xI G q_a_kind 6 a_kind, xI G q_a_bank 6 a_bank] (some (.int out.1)) [xO q_t 8 [.ref q_t_width, .ref q_t_comes, .ref q_t_depth, .ref q_t_spill, .ref q_t_harmAt, .int out.2.2.2.2.2.1, .int out.2.2.2.2.2.2.1, .int out.2.2.2.2.2.2.2], xI G q_t_width 6 t_width, xI G q_t_comes 6 out.2.1, xI G q_t_depth 6 out.2.2.1, xI G q_t_spill 6 out.2.2.2.1, xI G q_t_harmAt 6 out.2.2.2.2.1, xO q_a 6 [v_a_flow, v_a_tape, .int a_reaches, v_a_ropes, v_a_hands, v_a_boats, v_a_muds, v_a_loose, .ref q_a_kind, v_a_wide, .ref q_a_bank, v_a_mud, v_a_ropeAt, v_a_pulls, v_a_bears, v_a_strong, v_a_boatWide, v_a_boatDeep], xI G q_a_kind 6 a_kind, xI G q_a_bank 6 a_bank] := by
  refine mx_enter (own := RX8) (name := "leastFlow") (lv := [(0, .ref q_t), (1, .ref q_a), (2, .int p2), (3, .int p3)]) (by decide) rfl rfl (Nat.le_of_ble_eq_true rfl) rfl ?_
  intro p e s m args below meth c A ls X hW hl
  obtain ⟨hx, hb, hml, hown, hts, hKN, -⟩ := id X
  unfold f_X8_leastFlow at hm
  refine lv_iconst (v := 1) hx hb dX8_leastFlow_0 (by decide) ?_
  refine lv_iload_n hx hb dX8_leastFlow_1 rfl (lv_at hl 3 rfl) ?_
  refine lv_iconst (v := 1) hx hb dX8_leastFlow_2 (by decide) ?_
  refine lv_iadd hx hb dX8_leastFlow_3 ?_
  refine lv_aload_n hx hb dX8_leastFlow_4 rfl (lv_at hl 0 rfl) ?_
  refine mx_get (C := RX8) (T := TX8) (N := 8) (ci := 8) X hW 0 rfl rfl tbc_X8 0 (by decide) kw_92 rfl dX8_leastFlow_5 ?_
  refine lv_iload_n hx hb dX8_leastFlow_8 rfl (lv_at hl 2 rfl) ?_
  obtain ⟨hg1, hm⟩ := gd_s hm
  refine mx_iald X hW 1 rfl (inb_s hg1) dX8_leastFlow_9 ?_
  refine lv_imul hx hb dX8_leastFlow_10 ?_
  refine mx_max X hl.1 kw_604 ⟨by decide, Nat.le_of_ble_eq_true rfl⟩ ⟨Nat.zero_le _, Nat.zero_le _⟩ dX8_leastFlow_11 ?_
  refine lv_topi (fun z2 ez2 => ?_)
  have hm := nm_s ez2 hm
  refine lv_istore (lv' := [(4, .int z2), (0, .ref q_t), (1, .ref q_a), (2, .int p2), (3, .int p3)]) hx hb dX8_leastFlow_14 hl (by decide) rfl (fun ls hl => ?_)
  refine w_X8_leastFlow_L16 X q_t q_t_width q_t_comes q_t_depth q_t_spill q_t_harmAt q_a q_a_kind q_a_bank (v_a_flow) (v_a_tape) (v_a_ropes) (v_a_hands) (v_a_boats) (v_a_muds) (v_a_loose) (v_a_wide) (v_a_mud) (v_a_ropeAt) (v_a_pulls) (v_a_bears) (v_a_strong) (v_a_boatWide) (v_a_boatDeep) t_width a_reaches a_kind a_bank p2 p3 out _ (fun t_comes_16 t_depth_16 t_spill_16 t_harmAt_16 t_below_16 t_allHarm_16 t_spilling_16 H locs ls hm hW hl => ?_) _ z2 t_comes t_depth t_spill t_harmAt t_below t_allHarm t_spilling _ _ _ hm hW (lv_sub hl [1, 2, 3, 4, 0] rfl)
  refine lv_bipush (v := (-2)) hx hb dX8_leastFlow_50 (by decide) ?_
  obtain rfl := Option.some.inj hm
  exact mx_iret X hW dX8_leastFlow_52

abbrev rm_X8_safest : Room := { frames := 1, cells := 0, slots := 0, locals := 21 }
noncomputable def f_X8_safest_L6 (k_42 : Int32 → Option (Int32)) (t_width : Nat → Int32) (a_reaches : Int32) (a_bank : Nat → Int32) : Nat → Int32 → Int32 → Option (Int32)
  | 0, _, _ => none
  | n + 1, x2, x3 =>
    (if a_reaches ≤ x3 then
      k_42 x2
    else
      gd (inb x3 6) <| gd (inb x3 6) <| nm (if ((((a_bank x3.toNatClampNeg) + 1) * (t_width x3.toNatClampNeg)) - 1) < x2 then ((((a_bank x3.toNatClampNeg) + 1) * (t_width x3.toNatClampNeg)) - 1) else x2) fun z4 =>f_X8_safest_L6 k_42 t_width a_reaches a_bank n z4 (x3 + 1))
noncomputable def f_X8_safest (t_width : Nat → Int32) (a_reaches : Int32) (a_bank : Nat → Int32) : Option (Int32) :=
  f_X8_safest_L6 (fun x2_6 =>
    some x2_6) t_width a_reaches a_bank 2000 999 0
set_option maxHeartbeats 4000000 in
set_option maxRecDepth 100000 in
theorem w_X8_safest_L6 {p : Program} {l : Launch} {e : Env} {s : State} {m : MethodId} {args : Array Value} {below : List Frame} {meth : Method} {c : Code} {A : Nat → Prop} {G : mx_G} (X : mx_X p s m args meth c RX8 "safest" cX8_safest 4 (some .int) G) (q_t : Nat) (q_t_width : Nat) (q_a : Nat) (q_a_bank : Nat) (v_t_comes : Value) (v_t_depth : Value) (v_t_spill : Value) (v_t_harmAt : Value) (v_t_below : Value) (v_t_allHarm : Value) (v_t_spilling : Value) (v_a_flow : Value) (v_a_tape : Value) (v_a_ropes : Value) (v_a_hands : Value) (v_a_boats : Value) (v_a_muds : Value) (v_a_loose : Value) (v_a_kind : Value) (v_a_wide : Value) (v_a_mud : Value) (v_a_ropeAt : Value) (v_a_pulls : Value) (v_a_bears : Value) (v_a_strong : Value) (v_a_boatWide : Value) (v_a_boatDeep : Value) (t_width : Nat → Int32) (a_reaches : Int32) (a_bank : Nat → Int32)  (out : Int32) (k_42 : Int32 → Option (Int32)) (hk_42 : ∀ (x2 : Int32) (H : Heap) (locs : List Loc) (ls : Array Slot), k_42 x2 = some out → mx_W G s A [xO q_t 8 [.ref q_t_width, v_t_comes, v_t_depth, v_t_spill, v_t_harmAt, v_t_below, v_t_allHarm, v_t_spilling], xI G q_t_width 6 t_width, xO q_a 6 [v_a_flow, v_a_tape, .int a_reaches, v_a_ropes, v_a_hands, v_a_boats, v_a_muds, v_a_loose, v_a_kind, v_a_wide, .ref q_a_bank, v_a_mud, v_a_ropeAt, v_a_pulls, v_a_bears, v_a_strong, v_a_boatWide, v_a_boatDeep], xI G q_a_bank 6 a_bank] H locs → lv_has ls 4 [(2, .int x2)] → W p l e rm_X8_safest s m args below meth c H locs 0 0 (MQ below (mx_Q G (some (.int out)) [xO q_t 8 [.ref q_t_width, v_t_comes, v_t_depth, v_t_spill, v_t_harmAt, v_t_below, v_t_allHarm, v_t_spilling], xI G q_t_width 6 t_width, xO q_a 6 [v_a_flow, v_a_tape, .int a_reaches, v_a_ropes, v_a_hands, v_a_boats, v_a_muds, v_a_loose, v_a_kind, v_a_wide, .ref q_a_bank, v_a_mud, v_a_ropeAt, v_a_pulls, v_a_bears, v_a_strong, v_a_boatWide, v_a_boatDeep], xI G q_a_bank 6 a_bank] A) args s 0 0 A) (F0 m 42 ls [])) : ∀ (n : Nat) (x2 : Int32) (x3 : Int32) (H : Heap) (locs : List Loc) (ls : Array Slot), f_X8_safest_L6 k_42 t_width a_reaches a_bank n x2 x3 = some out → mx_W G s A [xO q_t 8 [.ref q_t_width, v_t_comes, v_t_depth, v_t_spill, v_t_harmAt, v_t_below, v_t_allHarm, v_t_spilling], xI G q_t_width 6 t_width, xO q_a 6 [v_a_flow, v_a_tape, .int a_reaches, v_a_ropes, v_a_hands, v_a_boats, v_a_muds, v_a_loose, v_a_kind, v_a_wide, .ref q_a_bank, v_a_mud, v_a_ropeAt, v_a_pulls, v_a_bears, v_a_strong, v_a_boatWide, v_a_boatDeep], xI G q_a_bank 6 a_bank] H locs → lv_has ls 4 [(0, .ref q_t), (1, .ref q_a), (2, .int x2), (3, .int x3)] → W p l e rm_X8_safest s m args below meth c H locs 0 0 (MQ below (mx_Q G (some (.int out)) [xO q_t 8 [.ref q_t_width, v_t_comes, v_t_depth, v_t_spill, v_t_harmAt, v_t_below, v_t_allHarm, v_t_spilling], xI G q_t_width 6 t_width, xO q_a 6 [v_a_flow, v_a_tape, .int a_reaches, v_a_ropes, v_a_hands, v_a_boats, v_a_muds, v_a_loose, v_a_kind, v_a_wide, .ref q_a_bank, v_a_mud, v_a_ropeAt, v_a_pulls, v_a_bears, v_a_strong, v_a_boatWide, v_a_boatDeep], xI G q_a_bank 6 a_bank] A) args s 0 0 A) (F0 m 6 ls []) := by
  obtain ⟨hx, hb, hml, hown, hts, hKN, -⟩ := id X
  intro n
  induction n with
  | zero => intro x2 x3 H locs ls hm hW hl; exact absurd (show none = some out from hm) (fun h => by cases h)
  | succ n ih =>
    intro x2 x3 H locs ls hm hW hl
    rw [f_X8_safest_L6] at hm
    refine lv_iload_n hx hb dX8_safest_6 rfl (lv_at hl 3 rfl) ?_
    refine lv_aload_n hx hb dX8_safest_7 rfl (lv_at hl 1 rfl) ?_
    refine mx_get (C := RX6) (T := TX6) (N := 18) (ci := 6) X hW 2 rfl rfl tbc_X6 2 (by decide) kw_599 rfl dX8_safest_8 ?_
    refine lv_icmp_ge (tgt := 42) hx hb dX8_safest_11 (by decide) (fun c1 => ?_) (fun c1 => ?_)
    · have hm := (if_pos c1).symm.trans hm
      exact hk_42 x2 _ _ _ hm hW (lv_sub hl [2] rfl)
    · have hm := (if_neg c1).symm.trans hm
      refine lv_iload_n hx hb dX8_safest_14 rfl (lv_at hl 2 rfl) ?_
      refine lv_aload_n hx hb dX8_safest_15 rfl (lv_at hl 1 rfl) ?_
      refine mx_get (C := RX6) (T := TX6) (N := 18) (ci := 6) X hW 2 rfl rfl tbc_X6 10 (by decide) kw_618 rfl dX8_safest_16 ?_
      refine lv_iload_n hx hb dX8_safest_19 rfl (lv_at hl 3 rfl) ?_
      obtain ⟨hg2, hm⟩ := gd_s hm
      refine mx_iald X hW 3 rfl (inb_s hg2) dX8_safest_20 ?_
      refine lv_iconst (v := 1) hx hb dX8_safest_21 (by decide) ?_
      refine lv_iadd hx hb dX8_safest_22 ?_
      refine lv_aload_n hx hb dX8_safest_23 rfl (lv_at hl 0 rfl) ?_
      refine mx_get (C := RX8) (T := TX8) (N := 8) (ci := 8) X hW 0 rfl rfl tbc_X8 0 (by decide) kw_92 rfl dX8_safest_24 ?_
      refine lv_iload_n hx hb dX8_safest_27 rfl (lv_at hl 3 rfl) ?_
      obtain ⟨hg3, hm⟩ := gd_s hm
      refine mx_iald X hW 1 rfl (inb_s hg3) dX8_safest_28 ?_
      refine lv_imul hx hb dX8_safest_29 ?_
      refine lv_iconst (v := 1) hx hb dX8_safest_30 (by decide) ?_
      refine lv_isub hx hb dX8_safest_31 ?_
      refine mx_min X hl.1 kw_854 ⟨by decide, Nat.le_of_ble_eq_true rfl⟩ ⟨Nat.zero_le _, Nat.zero_le _⟩ dX8_safest_32 ?_
      refine lv_topi (fun z4 ez4 => ?_)
      have hm := nm_s ez4 hm
      refine lv_istore_n (lv' := [(2, .int z4), (0, .ref q_t), (1, .ref q_a), (3, .int x3)]) hx hb dX8_safest_35 rfl hl (by decide) rfl (fun ls hl => ?_)
      refine lv_iinc (v := x3 + 1) (lv' := [(3, .int (x3 + 1)), (2, .int z4), (0, .ref q_t), (1, .ref q_a)]) hx hb dX8_safest_36 hl (k := 3) rfl rfl (by decide) rfl (fun ls hl => ?_)
      refine lv_goto (tgt := 6) hx hb dX8_safest_39 (by decide) ?_
      exact ih z4 (x3 + 1) _ _ _ hm hW (lv_sub hl [2, 3, 1, 0] rfl)
set_option maxHeartbeats 4000000 in
set_option maxRecDepth 100000 in
theorem c_X8_safest (l : Launch) (G : mx_G) (q_t : Nat) (q_t_width : Nat) (q_a : Nat) (q_a_bank : Nat) (v_t_comes : Value) (v_t_depth : Value) (v_t_spill : Value) (v_t_harmAt : Value) (v_t_below : Value) (v_t_allHarm : Value) (v_t_spilling : Value) (v_a_flow : Value) (v_a_tape : Value) (v_a_ropes : Value) (v_a_hands : Value) (v_a_boats : Value) (v_a_muds : Value) (v_a_loose : Value) (v_a_kind : Value) (v_a_wide : Value) (v_a_mud : Value) (v_a_ropeAt : Value) (v_a_pulls : Value) (v_a_bears : Value) (v_a_strong : Value) (v_a_boatWide : Value) (v_a_boatDeep : Value) (t_width : Nat → Int32) (a_reaches : Int32) (a_bank : Nat → Int32) (out : Int32) (hm : f_X8_safest t_width a_reaches a_bank = some out) : mx_C l yX8_safest cX8_safest 4 (some .int) rm_X8_safest G [.ref q_t, .ref q_a] [xO q_t 8 [.ref q_t_width, v_t_comes, v_t_depth, v_t_spill, v_t_harmAt, v_t_below, v_t_allHarm, v_t_spilling], xI G q_t_width 6 t_width, xO q_a 6 [v_a_flow, v_a_tape, .int a_reaches, v_a_ropes, v_a_hands, v_a_boats, v_a_muds, v_a_loose, v_a_kind, v_a_wide, .ref q_a_bank, v_a_mud, v_a_ropeAt, v_a_pulls, v_a_bears, v_a_strong, v_a_boatWide, v_a_boatDeep], xI G q_a_bank 6 a_bank] (some (.int out)) [xO q_t 8 [.ref q_t_width, v_t_comes, v_t_depth, v_t_spill, v_t_harmAt, v_t_below, v_t_allHarm, v_t_spilling], xI G q_t_width 6 t_width, xO q_a 6 [v_a_flow, v_a_tape, .int a_reaches, v_a_ropes, v_a_hands, v_a_boats, v_a_muds, v_a_loose, v_a_kind, v_a_wide, .ref q_a_bank, v_a_mud, v_a_ropeAt, v_a_pulls, v_a_bears, v_a_strong, v_a_boatWide, v_a_boatDeep], xI G q_a_bank 6 a_bank] := by
  refine mx_enter (own := RX8) (name := "safest") (lv := [(0, .ref q_t), (1, .ref q_a)]) (by decide) rfl rfl (Nat.le_of_ble_eq_true rfl) rfl ?_
  intro p e s m args below meth c A ls X hW hl
  obtain ⟨hx, hb, hml, hown, hts, hKN, -⟩ := id X
  unfold f_X8_safest at hm
  refine lv_sipush (v := 999) hx hb dX8_safest_0 (by decide) ?_
  refine lv_istore_n (lv' := [(2, .int 999), (0, .ref q_t), (1, .ref q_a)]) hx hb dX8_safest_3 rfl hl (by decide) rfl (fun ls hl => ?_)
  refine lv_iconst (v := 0) hx hb dX8_safest_4 (by decide) ?_
  refine lv_istore_n (lv' := [(3, .int 0), (2, .int 999), (0, .ref q_t), (1, .ref q_a)]) hx hb dX8_safest_5 rfl hl (by decide) rfl (fun ls hl => ?_)
  refine w_X8_safest_L6 X q_t q_t_width q_a q_a_bank (v_t_comes) (v_t_depth) (v_t_spill) (v_t_harmAt) (v_t_below) (v_t_allHarm) (v_t_spilling) (v_a_flow) (v_a_tape) (v_a_ropes) (v_a_hands) (v_a_boats) (v_a_muds) (v_a_loose) (v_a_kind) (v_a_wide) (v_a_mud) (v_a_ropeAt) (v_a_pulls) (v_a_bears) (v_a_strong) (v_a_boatWide) (v_a_boatDeep) t_width a_reaches a_bank out _ (fun x2_6 H locs ls hm hW hl => ?_) _ 999 0 _ _ _ hm hW (lv_sub hl [2, 3, 1, 0] rfl)
  refine lv_iload_n hx hb dX8_safest_42 rfl (lv_at hl 0 rfl) ?_
  obtain rfl := Option.some.inj hm
  exact mx_iret X hW dX8_safest_43
