abbrev rm_X7_copy : Room := { frames := 0, cells := 0, slots := 0, locals := 0 }
noncomputable def f_X7_copy_L34 (k_58 : (Nat → Int32) → Option (Int32 × Int32 × Int32 × Int32 × (Nat → Int32))) (a_wear : Nat → Int32) : Nat → Int32 → (Nat → Int32) → Option (Int32 × Int32 × Int32 × Int32 × (Nat → Int32))
  | 0, _, _ => none
  | n + 1, x2, t_wear =>
    (if 7 ≤ x2 then
      k_58 t_wear
    else
      gd (inb x2 7) <| nm (a_wear x2.toNatClampNeg) fun z3 => gd (inb x2 7) <| nm (upd t_wear x2.toNatClampNeg z3) fun r5 =>f_X7_copy_L34 k_58 a_wear n (x2 + 1) r5)
noncomputable def f_X7_copy (t_laced : Int32) (t_burst : Int32) (t_flow : Int32) (t_seed : Int32) (t_wear : Nat → Int32) (a_laced : Int32) (a_burst : Int32) (a_flow : Int32) (a_seed : Int32) (a_wear : Nat → Int32) : Option (Int32 × Int32 × Int32 × Int32 × (Nat → Int32)) :=
  f_X7_copy_L34 (fun t_wear_34 =>
    some (a_laced, a_burst, a_flow, a_seed, t_wear_34)) a_wear 2000 0 t_wear
set_option maxHeartbeats 4000000 in
set_option maxRecDepth 100000 in
theorem w_X7_copy_L34 {p : Program} {l : Launch} {e : Env} {s : State} {m : MethodId} {args : Array Value} {below : List Frame} {meth : Method} {c : Code} {A : Nat → Prop} {G : mx_G} (X : mx_X p s m args meth c RX7 "copy" cX7_copy 3 none G) (q_t : Nat) (q_t_wear : Nat) (q_a : Nat) (q_a_wear : Nat) (t_laced : Int32) (t_burst : Int32) (t_flow : Int32) (t_seed : Int32) (a_laced : Int32) (a_burst : Int32) (a_flow : Int32) (a_seed : Int32) (a_wear : Nat → Int32)  (out : Int32 × Int32 × Int32 × Int32 × (Nat → Int32)) (k_58 : (Nat → Int32) → Option (Int32 × Int32 × Int32 × Int32 × (Nat → Int32))) (hk_58 : ∀ (t_wear : Nat → Int32) (H : Heap) (locs : List Loc) (ls : Array Slot), k_58 t_wear = some out → mx_W G s A [xO q_t 7 [.int t_laced, .int t_burst, .int t_flow, .int t_seed, .ref q_t_wear], xI G q_t_wear 7 t_wear, xO q_a 7 [.int a_laced, .int a_burst, .int a_flow, .int a_seed, .ref q_a_wear], xI G q_a_wear 7 a_wear] H locs → lv_has ls 3 [] → W p l e rm_X7_copy s m args below meth c H locs 0 0 (MQ below (mx_Q G none [xO q_t 7 [.int out.1, .int out.2.1, .int out.2.2.1, .int out.2.2.2.1, .ref q_t_wear], xI G q_t_wear 7 out.2.2.2.2, xO q_a 7 [.int a_laced, .int a_burst, .int a_flow, .int a_seed, .ref q_a_wear], xI G q_a_wear 7 a_wear] A) args s 0 0 A) (F0 m 58 ls [])) : ∀ (n : Nat) (x2 : Int32) (t_wear : Nat → Int32) (H : Heap) (locs : List Loc) (ls : Array Slot), f_X7_copy_L34 k_58 a_wear n x2 t_wear = some out → mx_W G s A [xO q_t 7 [.int t_laced, .int t_burst, .int t_flow, .int t_seed, .ref q_t_wear], xI G q_t_wear 7 t_wear, xO q_a 7 [.int a_laced, .int a_burst, .int a_flow, .int a_seed, .ref q_a_wear], xI G q_a_wear 7 a_wear] H locs → lv_has ls 3 [(0, .ref q_t), (1, .ref q_a), (2, .int x2)] → W p l e rm_X7_copy s m args below meth c H locs 0 0 (MQ below (mx_Q G none [xO q_t 7 [.int out.1, .int out.2.1, .int out.2.2.1, .int out.2.2.2.1, .ref q_t_wear], xI G q_t_wear 7 out.2.2.2.2, xO q_a 7 [.int a_laced, .int a_burst, .int a_flow, .int a_seed, .ref q_a_wear], xI G q_a_wear 7 a_wear] A) args s 0 0 A) (F0 m 34 ls []) := by
  obtain ⟨hx, hb, hml, hown, hts, hKN, -⟩ := id X
  intro n
  induction n with
  | zero => intro x2 t_wear H locs ls hm hW hl; exact absurd (show none = some out from hm) (fun h => by cases h)
  | succ n ih =>
    intro x2 t_wear H locs ls hm hW hl
    rw [f_X7_copy_L34] at hm
    refine lv_iload_n hx hb dX7_copy_34 rfl (lv_at hl 2 rfl) ?_
    refine lv_bipush (v := 7) hx hb dX7_copy_35 (by decide) ?_
    refine lv_icmp_ge (tgt := 58) hx hb dX7_copy_37 (by decide) (fun c1 => ?_) (fun c1 => ?_)
    · have hm := (if_pos c1).symm.trans hm
      exact hk_58 t_wear _ _ _ hm hW (lv_sub hl [] rfl)
    · have hm := (if_neg c1).symm.trans hm
      refine lv_aload_n hx hb dX7_copy_40 rfl (lv_at hl 0 rfl) ?_
      refine mx_get (C := RX7) (T := TX7) (N := 5) (ci := 7) X hW 0 rfl rfl tbc_X7 4 (by decide) kw_81 rfl dX7_copy_41 ?_
      refine lv_iload_n hx hb dX7_copy_44 rfl (lv_at hl 2 rfl) ?_
      refine lv_aload_n hx hb dX7_copy_45 rfl (lv_at hl 1 rfl) ?_
      refine mx_get (C := RX7) (T := TX7) (N := 5) (ci := 7) X hW 2 rfl rfl tbc_X7 4 (by decide) kw_81 rfl dX7_copy_46 ?_
      refine lv_iload_n hx hb dX7_copy_49 rfl (lv_at hl 2 rfl) ?_
      obtain ⟨hg2, hm⟩ := gd_s hm
      refine mx_iald X hW 3 rfl (inb_s hg2) dX7_copy_50 ?_
      refine lv_topi (fun z3 ez3 => ?_)
      have hm := nm_s ez3 hm
      obtain ⟨hg4, hm⟩ := gd_s hm
      refine mx_iast (w2 := [xO q_t 7 [.int t_laced, .int t_burst, .int t_flow, .int t_seed, .ref q_t_wear], xI G q_t_wear 7 (upd t_wear x2.toNatClampNeg z3), xO q_a 7 [.int a_laced, .int a_burst, .int a_flow, .int a_seed, .ref q_a_wear], xI G q_a_wear 7 a_wear]) X hW 1 rfl (inb_s hg4) rfl dX7_copy_51 (fun H locs hW => ?_)
      obtain ⟨r5, er5⟩ : ∃ z, z = upd t_wear x2.toNatClampNeg z3 := ⟨_, rfl⟩
      have hm := nm_s er5 hm
      have hW : mx_W G s A [xO q_t 7 [.int t_laced, .int t_burst, .int t_flow, .int t_seed, .ref q_t_wear], xI G q_t_wear 7 r5, xO q_a 7 [.int a_laced, .int a_burst, .int a_flow, .int a_seed, .ref q_a_wear], xI G q_a_wear 7 a_wear] H locs := by rw [er5]; exact hW
      refine lv_iinc (v := x2 + 1) (lv' := [(2, .int (x2 + 1)), (0, .ref q_t), (1, .ref q_a)]) hx hb dX7_copy_52 hl (k := 2) rfl rfl (by decide) rfl (fun ls hl => ?_)
      refine lv_goto (tgt := 34) hx hb dX7_copy_55 (by decide) ?_
      exact ih (x2 + 1) r5 _ _ _ hm hW (lv_sub hl [1, 2, 0] rfl)
set_option maxHeartbeats 4000000 in
set_option maxRecDepth 100000 in
theorem c_X7_copy (l : Launch) (G : mx_G) (q_t : Nat) (q_t_wear : Nat) (q_a : Nat) (q_a_wear : Nat) (t_laced : Int32) (t_burst : Int32) (t_flow : Int32) (t_seed : Int32) (t_wear : Nat → Int32) (a_laced : Int32) (a_burst : Int32) (a_flow : Int32) (a_seed : Int32) (a_wear : Nat → Int32) (out : Int32 × Int32 × Int32 × Int32 × (Nat → Int32)) (hm : f_X7_copy t_laced t_burst t_flow t_seed t_wear a_laced a_burst a_flow a_seed a_wear = some out) : mx_C l yX7_copy cX7_copy 3 none rm_X7_copy G [.ref q_t, .ref q_a] [xO q_t 7 [.int t_laced, .int t_burst, .int t_flow, .int t_seed, .ref q_t_wear], xI G q_t_wear 7 t_wear, xO q_a 7 [.int a_laced, .int a_burst, .int a_flow, .int a_seed, .ref q_a_wear], xI G q_a_wear 7 a_wear] none [xO q_t 7 [.int out.1, .int out.2.1, .int out.2.2.1, .int out.2.2.2.1, .ref q_t_wear], xI G q_t_wear 7 out.2.2.2.2, xO q_a 7 [.int a_laced, .int a_burst, .int a_flow, .int a_seed, .ref q_a_wear], xI G q_a_wear 7 a_wear] := by
  refine mx_enter (own := RX7) (name := "copy") (lv := [(0, .ref q_t), (1, .ref q_a)]) (by decide) rfl rfl (Nat.le_of_ble_eq_true rfl) rfl ?_
  intro p e s m args below meth c A ls X hW hl
  obtain ⟨hx, hb, hml, hown, hts, hKN, -⟩ := id X
  unfold f_X7_copy at hm
  refine lv_aload_n hx hb dX7_copy_0 rfl (lv_at hl 0 rfl) ?_
  refine lv_aload_n hx hb dX7_copy_1 rfl (lv_at hl 1 rfl) ?_
  refine mx_get (C := RX7) (T := TX7) (N := 5) (ci := 7) X hW 2 rfl rfl tbc_X7 0 (by decide) kw_333 rfl dX7_copy_2 ?_
  refine mx_put (C := RX7) (T := TX7) (N := 5) (ci := 7) (w2 := [xO q_t 7 [.int a_laced, .int t_burst, .int t_flow, .int t_seed, .ref q_t_wear], xI G q_t_wear 7 t_wear, xO q_a 7 [.int a_laced, .int a_burst, .int a_flow, .int a_seed, .ref q_a_wear], xI G q_a_wear 7 a_wear]) X hW 0 rfl rfl tbc_X7 tyX7 tyX7_ok nmX7 0 (by decide) kw_333 rfl rfl rfl rfl (Nat.le_of_ble_eq_true rfl) rfl dX7_copy_5 (fun H locs hW => ?_)
  refine lv_aload_n hx hb dX7_copy_8 rfl (lv_at hl 0 rfl) ?_
  refine lv_aload_n hx hb dX7_copy_9 rfl (lv_at hl 1 rfl) ?_
  refine mx_get (C := RX7) (T := TX7) (N := 5) (ci := 7) X hW 2 rfl rfl tbc_X7 1 (by decide) kw_334 rfl dX7_copy_10 ?_
  refine mx_put (C := RX7) (T := TX7) (N := 5) (ci := 7) (w2 := [xO q_t 7 [.int a_laced, .int a_burst, .int t_flow, .int t_seed, .ref q_t_wear], xI G q_t_wear 7 t_wear, xO q_a 7 [.int a_laced, .int a_burst, .int a_flow, .int a_seed, .ref q_a_wear], xI G q_a_wear 7 a_wear]) X hW 0 rfl rfl tbc_X7 tyX7 tyX7_ok nmX7 1 (by decide) kw_334 rfl rfl rfl rfl (Nat.le_of_ble_eq_true rfl) rfl dX7_copy_13 (fun H locs hW => ?_)
  refine lv_aload_n hx hb dX7_copy_16 rfl (lv_at hl 0 rfl) ?_
  refine lv_aload_n hx hb dX7_copy_17 rfl (lv_at hl 1 rfl) ?_
  refine mx_get (C := RX7) (T := TX7) (N := 5) (ci := 7) X hW 2 rfl rfl tbc_X7 2 (by decide) kw_336 rfl dX7_copy_18 ?_
  refine mx_put (C := RX7) (T := TX7) (N := 5) (ci := 7) (w2 := [xO q_t 7 [.int a_laced, .int a_burst, .int a_flow, .int t_seed, .ref q_t_wear], xI G q_t_wear 7 t_wear, xO q_a 7 [.int a_laced, .int a_burst, .int a_flow, .int a_seed, .ref q_a_wear], xI G q_a_wear 7 a_wear]) X hW 0 rfl rfl tbc_X7 tyX7 tyX7_ok nmX7 2 (by decide) kw_336 rfl rfl rfl rfl (Nat.le_of_ble_eq_true rfl) rfl dX7_copy_21 (fun H locs hW => ?_)
  refine lv_aload_n hx hb dX7_copy_24 rfl (lv_at hl 0 rfl) ?_
  refine lv_aload_n hx hb dX7_copy_25 rfl (lv_at hl 1 rfl) ?_
  refine mx_get (C := RX7) (T := TX7) (N := 5) (ci := 7) X hW 2 rfl rfl tbc_X7 3 (by decide) kw_337 rfl dX7_copy_26 ?_
  refine mx_put (C := RX7) (T := TX7) (N := 5) (ci := 7) (w2 := [xO q_t 7 [.int a_laced, .int a_burst, .int a_flow, .int a_seed, .ref q_t_wear], xI G q_t_wear 7 t_wear, xO q_a 7 [.int a_laced, .int a_burst, .int a_flow, .int a_seed, .ref q_a_wear], xI G q_a_wear 7 a_wear]) X hW 0 rfl rfl tbc_X7 tyX7 tyX7_ok nmX7 3 (by decide) kw_337 rfl rfl rfl rfl (Nat.le_of_ble_eq_true rfl) rfl dX7_copy_29 (fun H locs hW => ?_)
  refine lv_iconst (v := 0) hx hb dX7_copy_32 (by decide) ?_
  refine lv_istore_n (lv' := [(2, .int 0), (0, .ref q_t), (1, .ref q_a)]) hx hb dX7_copy_33 rfl hl (by decide) rfl (fun ls hl => ?_)
  refine w_X7_copy_L34 X q_t q_t_wear q_a q_a_wear a_laced a_burst a_flow a_seed a_laced a_burst a_flow a_seed a_wear out _ (fun t_wear_34 H locs ls hm hW hl => ?_) _ 0 t_wear _ _ _ hm hW (lv_sub hl [1, 2, 0] rfl)
  obtain rfl := Option.some.inj hm
  exact mx_vret X hW dX7_copy_58

abbrev rm_X1_holds : Room := { frames := 4, cells := 0, slots := 0, locals := 90 }
noncomputable def f_X1_holds (p3 : Int32) (t_water_width : Nat → Int32) (t_water_comes : Nat → Int32) (t_water_depth : Nat → Int32) (t_water_spill : Nat → Int32) (t_water_harmAt : Nat → Int32) (t_water_below : Int32) (t_water_allHarm : Int32) (t_water_spilling : Int32) (a_tape : Int32) (a_reaches : Int32) (a_ropes : Int32) (a_kind : Nat → Int32) (a_wide : Nat → Int32) (a_bank : Nat → Int32) (a_ropeAt : Nat → Int32) (a_pulls : Nat → Int32) (a_bears : Nat → Int32) (b_flow : Int32) (b_wear : Nat → Int32) : Option (Int32 × (Nat → Int32) × (Nat → Int32) × (Nat → Int32) × (Nat → Int32) × (Nat → Int32) × Int32 × Int32 × Int32) :=
  (f_X8_run p3 b_flow t_water_width t_water_comes t_water_depth t_water_spill t_water_harmAt t_water_below t_water_allHarm t_water_spilling a_reaches a_ropes a_kind a_wide a_bank a_ropeAt a_pulls).bind fun o1 => (f_X8_tooWide o1.1 a_tape a_reaches).bind fun o2 => (if o2 = 0 then
    (if o1.2.2.2.2.2.2.2 = 0 then
      (f_X8_bursting p3 o1.2.2.1 a_ropes a_ropeAt a_bears b_wear).bind fun o5 => (if o5 = 0 then
        some (1, o1.1, o1.2.1, o1.2.2.1, o1.2.2.2.1, o1.2.2.2.2.1, o1.2.2.2.2.2.1, o1.2.2.2.2.2.2.1, o1.2.2.2.2.2.2.2)
      else
        some (0, o1.1, o1.2.1, o1.2.2.1, o1.2.2.2.1, o1.2.2.2.2.1, o1.2.2.2.2.2.1, o1.2.2.2.2.2.2.1, o1.2.2.2.2.2.2.2))
    else
      some (0, o1.1, o1.2.1, o1.2.2.1, o1.2.2.2.1, o1.2.2.2.2.1, o1.2.2.2.2.2.1, o1.2.2.2.2.2.2.1, o1.2.2.2.2.2.2.2))
  else
    some (0, o1.1, o1.2.1, o1.2.2.1, o1.2.2.2.1, o1.2.2.2.2.1, o1.2.2.2.2.2.1, o1.2.2.2.2.2.2.1, o1.2.2.2.2.2.2.2))
set_option maxHeartbeats 4000000 in
set_option maxRecDepth 100000 in
theorem c_X1_holds (l : Launch) (G : mx_G) (q_t : Nat) (q_t_water : Nat) (q_t_water_width : Nat) (q_t_water_comes : Nat) (q_t_water_depth : Nat) (q_t_water_spill : Nat) (q_t_water_harmAt : Nat) (q_a : Nat) (q_a_kind : Nat) (q_a_wide : Nat) (q_a_bank : Nat) (q_a_ropeAt : Nat) (q_a_pulls : Nat) (q_a_bears : Nat) (q_b : Nat) (q_b_wear : Nat) (v_t_count : Value) (v_t_fewest : Value) (v_t_shortest : Value) (v_t_shortestSum : Value) (v_t_changed : Value) (v_t_changedHarm : Value) (v_a_flow : Value) (v_a_hands : Value) (v_a_boats : Value) (v_a_muds : Value) (v_a_loose : Value) (v_a_mud : Value) (v_a_strong : Value) (v_a_boatWide : Value) (v_a_boatDeep : Value) (v_b_laced : Value) (v_b_burst : Value) (v_b_seed : Value) (t_water_width : Nat → Int32) (t_water_comes : Nat → Int32) (t_water_depth : Nat → Int32) (t_water_spill : Nat → Int32) (t_water_harmAt : Nat → Int32) (t_water_below : Int32) (t_water_allHarm : Int32) (t_water_spilling : Int32) (a_tape : Int32) (a_reaches : Int32) (a_ropes : Int32) (a_kind : Nat → Int32) (a_wide : Nat → Int32) (a_bank : Nat → Int32) (a_ropeAt : Nat → Int32) (a_pulls : Nat → Int32) (a_bears : Nat → Int32) (b_flow : Int32) (b_wear : Nat → Int32) (p3 : Int32) (out : Int32 × (Nat → Int32) × (Nat → Int32) × (Nat → Int32) × (Nat → Int32) × (Nat → Int32) × Int32 × Int32 × Int32) (hm : f_X1_holds p3 t_water_width t_water_comes t_water_depth t_water_spill t_water_harmAt t_water_below t_water_allHarm t_water_spilling a_tape a_reaches a_ropes a_kind a_wide a_bank a_ropeAt a_pulls a_bears b_flow b_wear = some out) : mx_C l yX1_holds cX1_holds 4 (some .boolean) rm_X1_holds G [.ref q_t, .ref q_a, .ref q_b, .int p3] [xO q_t 1 [.ref q_t_water, v_t_count, v_t_fewest, v_t_shortest, v_t_shortestSum, v_t_changed, v_t_changedHarm], xO q_t_water 8 [.ref q_t_water_width, .ref q_t_water_comes, .ref q_t_water_depth, .ref q_t_water_spill, .ref q_t_water_harmAt, .int t_water_below, .int t_water_allHarm, .int t_water_spilling], xI G q_t_water_width 6 t_water_width, xI G q_t_water_comes 6 t_water_comes, xI G q_t_water_depth 6 t_water_depth, xI G q_t_water_spill 6 t_water_spill, xI G q_t_water_harmAt 6 t_water_harmAt, xO q_a 6 [v_a_flow, .int a_tape, .int a_reaches, .int a_ropes, v_a_hands, v_a_boats, v_a_muds, v_a_loose, .ref q_a_kind, .ref q_a_wide, .ref q_a_bank, v_a_mud, .ref q_a_ropeAt, .ref q_a_pulls, .ref q_a_bears, v_a_strong, v_a_boatWide, v_a_boatDeep], xI G q_a_kind 6 a_kind, xI G q_a_wide 6 a_wide, xI G q_a_bank 6 a_bank, xI G q_a_ropeAt 7 a_ropeAt, xI G q_a_pulls 7 a_pulls, xI G q_a_bears 7 a_bears, xO q_b 7 [v_b_laced, v_b_burst, .int b_flow, v_b_seed, .ref q_b_wear], xI G q_b_wear 7 b_wear] (some (.int out.1)) [xO q_t 1 [.ref q_t_water, v_t_count, v_t_fewest, v_t_shortest, v_t_shortestSum, v_t_changed, v_t_changedHarm], xO q_t_water 8 [.ref q_t_water_width, .ref q_t_water_comes, .ref q_t_water_depth, .ref q_t_water_spill, .ref q_t_water_harmAt, .int out.2.2.2.2.2.2.1, .int out.2.2.2.2.2.2.2.1, .int out.2.2.2.2.2.2.2.2], xI G q_t_water_width 6 out.2.1, xI G q_t_water_comes 6 out.2.2.1, xI G q_t_water_depth 6 out.2.2.2.1, xI G q_t_water_spill 6 out.2.2.2.2.1, xI G q_t_water_harmAt 6 out.2.2.2.2.2.1, xO q_a 6 [v_a_flow, .int a_tape, .int a_reaches, .int a_ropes, v_a_hands, v_a_boats, v_a_muds, v_a_loose, .ref q_a_kind, .ref q_a_wide, .ref q_a_bank, v_a_mud, .ref q_a_ropeAt, .ref q_a_pulls, .ref q_a_bears, v_a_strong, v_a_boatWide, v_a_boatDeep], xI G q_a_kind 6 a_kind, xI G q_a_wide 6 a_wide, xI G q_a_bank 6 a_bank, xI G q_a_ropeAt 7 a_ropeAt, xI G q_a_pulls 7 a_pulls, xI G q_a_bears 7 a_bears, xO q_b 7 [v_b_laced, v_b_burst, .int b_flow, v_b_seed, .ref q_b_wear], xI G q_b_wear 7 b_wear] := by
  refine mx_enter (own := RX1) (name := "holds") (lv := [(0, .ref q_t), (1, .ref q_a), (2, .ref q_b), (3, .int p3)]) (by decide) rfl rfl (Nat.le_of_ble_eq_true rfl) rfl ?_
  intro p e s m args below meth c A ls X hW hl
  obtain ⟨hx, hb, hml, hown, hts, hKN, -⟩ := id X
  unfold f_X1_holds at hm
  refine lv_aload_n hx hb dX1_holds_0 rfl (lv_at hl 0 rfl) ?_
  refine mx_get (C := RX1) (T := TX1) (N := 7) (ci := 1) X hW 0 rfl rfl tbc_X1 0 (by decide) kw_101 rfl dX1_holds_1 ?_
  refine lv_aload_n hx hb dX1_holds_4 rfl (lv_at hl 1 rfl) ?_
  refine lv_iload_n hx hb dX1_holds_5 rfl (lv_at hl 3 rfl) ?_
  refine lv_aload_n hx hb dX1_holds_6 rfl (lv_at hl 2 rfl) ?_
  refine mx_get (C := RX7) (T := TX7) (N := 5) (ci := 7) X hW 14 rfl rfl tbc_X7 2 (by decide) kw_878 rfl dX1_holds_7 ?_
  obtain ⟨o1, ho1, hm⟩ := bd_s hm
  refine mx_callV (C := RX8) (T := TX8) (N := 8) (ci := 8) (n := 3) (As := [.ref q_a, .int p3, .int b_flow]) (rest := []) (st1 := []) (w2 := [xO q_t 1 [.ref q_t_water, v_t_count, v_t_fewest, v_t_shortest, v_t_shortestSum, v_t_changed, v_t_changedHarm], xO q_t_water 8 [.ref q_t_water_width, .ref q_t_water_comes, .ref q_t_water_depth, .ref q_t_water_spill, .ref q_t_water_harmAt, .int o1.2.2.2.2.2.1, .int o1.2.2.2.2.2.2.1, .int o1.2.2.2.2.2.2.2], xI G q_t_water_width 6 o1.1, xI G q_t_water_comes 6 o1.2.1, xI G q_t_water_depth 6 o1.2.2.1, xI G q_t_water_spill 6 o1.2.2.2.1, xI G q_t_water_harmAt 6 o1.2.2.2.2.1, xO q_a 6 [v_a_flow, .int a_tape, .int a_reaches, .int a_ropes, v_a_hands, v_a_boats, v_a_muds, v_a_loose, .ref q_a_kind, .ref q_a_wide, .ref q_a_bank, v_a_mud, .ref q_a_ropeAt, .ref q_a_pulls, .ref q_a_bears, v_a_strong, v_a_boatWide, v_a_boatDeep], xI G q_a_kind 6 a_kind, xI G q_a_wide 6 a_wide, xI G q_a_bank 6 a_bank, xI G q_a_ropeAt 7 a_ropeAt, xI G q_a_pulls 7 a_pulls, xI G q_a_bears 7 a_bears, xO q_b 7 [v_b_laced, v_b_burst, .int b_flow, v_b_seed, .ref q_b_wear], xI G q_b_wear 7 b_wear]) X hW hl.1 (c_X8_run l G q_t_water q_t_water_width q_t_water_comes q_t_water_depth q_t_water_spill q_t_water_harmAt q_a q_a_kind q_a_wide q_a_bank q_a_ropeAt q_a_pulls (v_a_flow) (.int a_tape) (v_a_hands) (v_a_boats) (v_a_muds) (v_a_loose) (v_a_mud) (.ref q_a_bears) (v_a_strong) (v_a_boatWide) (v_a_boatDeep) t_water_width t_water_comes t_water_depth t_water_spill t_water_harmAt t_water_below t_water_allHarm t_water_spilling a_reaches a_ropes a_kind a_wide a_bank a_ropeAt a_pulls p3 b_flow o1 ho1) 0 rfl rfl kw_880 kw_592 kw_593 kw_27 kw_594 (by decide +kernel) ⟨rfl, rfl⟩ ⟨by decide, by decide⟩ ⟨Nat.zero_le _, Nat.zero_le _⟩ [1, 2, 3, 4, 5, 6, 7, 8, 9, 10, 11, 12] (by decide) rfl rfl rfl rfl rfl rfl (Nat.le_of_ble_eq_true rfl) rfl dX1_holds_10 (fun H locs hW => ?_)
  refine lv_aload_n hx hb dX1_holds_13 rfl (lv_at hl 0 rfl) ?_
  refine mx_get (C := RX1) (T := TX1) (N := 7) (ci := 1) X hW 0 rfl rfl tbc_X1 0 (by decide) kw_101 rfl dX1_holds_14 ?_
  refine lv_aload_n hx hb dX1_holds_17 rfl (lv_at hl 1 rfl) ?_
  obtain ⟨o2, ho2, hm⟩ := bd_s hm
  refine mx_callV (C := RX8) (T := TX8) (N := 8) (ci := 8) (n := 1) (As := [.ref q_a]) (rest := []) (st1 := [.int o2]) (w2 := [xO q_t 1 [.ref q_t_water, v_t_count, v_t_fewest, v_t_shortest, v_t_shortestSum, v_t_changed, v_t_changedHarm], xO q_t_water 8 [.ref q_t_water_width, .ref q_t_water_comes, .ref q_t_water_depth, .ref q_t_water_spill, .ref q_t_water_harmAt, .int o1.2.2.2.2.2.1, .int o1.2.2.2.2.2.2.1, .int o1.2.2.2.2.2.2.2], xI G q_t_water_width 6 o1.1, xI G q_t_water_comes 6 o1.2.1, xI G q_t_water_depth 6 o1.2.2.1, xI G q_t_water_spill 6 o1.2.2.2.1, xI G q_t_water_harmAt 6 o1.2.2.2.2.1, xO q_a 6 [v_a_flow, .int a_tape, .int a_reaches, .int a_ropes, v_a_hands, v_a_boats, v_a_muds, v_a_loose, .ref q_a_kind, .ref q_a_wide, .ref q_a_bank, v_a_mud, .ref q_a_ropeAt, .ref q_a_pulls, .ref q_a_bears, v_a_strong, v_a_boatWide, v_a_boatDeep], xI G q_a_kind 6 a_kind, xI G q_a_wide 6 a_wide, xI G q_a_bank 6 a_bank, xI G q_a_ropeAt 7 a_ropeAt, xI G q_a_pulls 7 a_pulls, xI G q_a_bears 7 a_bears, xO q_b 7 [v_b_laced, v_b_burst, .int b_flow, v_b_seed, .ref q_b_wear], xI G q_b_wear 7 b_wear]) X hW hl.1 (c_X8_tooWide l G q_t_water q_t_water_width q_a (.ref q_t_water_comes) (.ref q_t_water_depth) (.ref q_t_water_spill) (.ref q_t_water_harmAt) (.int o1.2.2.2.2.2.1) (.int o1.2.2.2.2.2.2.1) (.int o1.2.2.2.2.2.2.2) (v_a_flow) (.int a_ropes) (v_a_hands) (v_a_boats) (v_a_muds) (v_a_loose) (.ref q_a_kind) (.ref q_a_wide) (.ref q_a_bank) (v_a_mud) (.ref q_a_ropeAt) (.ref q_a_pulls) (.ref q_a_bears) (v_a_strong) (v_a_boatWide) (v_a_boatDeep) o1.1 a_tape a_reaches o2 ho2) 0 rfl rfl kw_881 kw_757 kw_758 kw_27 kw_759 (by decide +kernel) ⟨rfl, rfl⟩ ⟨by decide, by decide⟩ ⟨Nat.zero_le _, Nat.zero_le _⟩ [1, 2, 7] (by decide) rfl rfl rfl rfl rfl rfl (Nat.le_of_ble_eq_true rfl) rfl dX1_holds_18 (fun H locs hW => ?_)
  refine lv_if_ne (tgt := 51) hx hb dX1_holds_21 (by decide) (fun c3 => ?_) (fun c3 => ?_)
  · have hm := (if_neg c3).symm.trans hm
    refine lv_iconst (v := 0) hx hb dX1_holds_51 (by decide) ?_
    obtain rfl := Option.some.inj hm
    exact mx_zret X nb0 hW dX1_holds_52
  · have hm := (if_pos c3).symm.trans hm
    refine lv_aload_n hx hb dX1_holds_24 rfl (lv_at hl 0 rfl) ?_
    refine mx_get (C := RX1) (T := TX1) (N := 7) (ci := 1) X hW 0 rfl rfl tbc_X1 0 (by decide) kw_101 rfl dX1_holds_25 ?_
    refine mx_get (C := RX8) (T := TX8) (N := 8) (ci := 8) X hW 1 rfl rfl tbc_X8 7 (by decide) kw_879 rfl dX1_holds_28 ?_
    refine lv_if_ne (tgt := 51) hx hb dX1_holds_31 (by decide) (fun c4 => ?_) (fun c4 => ?_)
    · have hm := (if_neg c4).symm.trans hm
      refine lv_iconst (v := 0) hx hb dX1_holds_51 (by decide) ?_
      obtain rfl := Option.some.inj hm
      exact mx_zret X nb0 hW dX1_holds_52
    · have hm := (if_pos c4).symm.trans hm
      refine lv_aload_n hx hb dX1_holds_34 rfl (lv_at hl 0 rfl) ?_
      refine mx_get (C := RX1) (T := TX1) (N := 7) (ci := 1) X hW 0 rfl rfl tbc_X1 0 (by decide) kw_101 rfl dX1_holds_35 ?_
      refine lv_aload_n hx hb dX1_holds_38 rfl (lv_at hl 1 rfl) ?_
      refine lv_aload_n hx hb dX1_holds_39 rfl (lv_at hl 2 rfl) ?_
      refine lv_iload_n hx hb dX1_holds_40 rfl (lv_at hl 3 rfl) ?_
      obtain ⟨o5, ho5, hm⟩ := bd_s hm
      refine mx_callV (C := RX8) (T := TX8) (N := 8) (ci := 8) (n := 3) (As := [.ref q_a, .ref q_b, .int p3]) (rest := []) (st1 := [.int o5]) (w2 := [xO q_t 1 [.ref q_t_water, v_t_count, v_t_fewest, v_t_shortest, v_t_shortestSum, v_t_changed, v_t_changedHarm], xO q_t_water 8 [.ref q_t_water_width, .ref q_t_water_comes, .ref q_t_water_depth, .ref q_t_water_spill, .ref q_t_water_harmAt, .int o1.2.2.2.2.2.1, .int o1.2.2.2.2.2.2.1, .int o1.2.2.2.2.2.2.2], xI G q_t_water_width 6 o1.1, xI G q_t_water_comes 6 o1.2.1, xI G q_t_water_depth 6 o1.2.2.1, xI G q_t_water_spill 6 o1.2.2.2.1, xI G q_t_water_harmAt 6 o1.2.2.2.2.1, xO q_a 6 [v_a_flow, .int a_tape, .int a_reaches, .int a_ropes, v_a_hands, v_a_boats, v_a_muds, v_a_loose, .ref q_a_kind, .ref q_a_wide, .ref q_a_bank, v_a_mud, .ref q_a_ropeAt, .ref q_a_pulls, .ref q_a_bears, v_a_strong, v_a_boatWide, v_a_boatDeep], xI G q_a_kind 6 a_kind, xI G q_a_wide 6 a_wide, xI G q_a_bank 6 a_bank, xI G q_a_ropeAt 7 a_ropeAt, xI G q_a_pulls 7 a_pulls, xI G q_a_bears 7 a_bears, xO q_b 7 [v_b_laced, v_b_burst, .int b_flow, v_b_seed, .ref q_b_wear], xI G q_b_wear 7 b_wear]) X hW hl.1 (c_X8_bursting l G q_t_water q_t_water_depth q_a q_a_ropeAt q_a_bears q_b q_b_wear (.ref q_t_water_width) (.ref q_t_water_comes) (.ref q_t_water_spill) (.ref q_t_water_harmAt) (.int o1.2.2.2.2.2.1) (.int o1.2.2.2.2.2.2.1) (.int o1.2.2.2.2.2.2.2) (v_a_flow) (.int a_tape) (.int a_reaches) (v_a_hands) (v_a_boats) (v_a_muds) (v_a_loose) (.ref q_a_kind) (.ref q_a_wide) (.ref q_a_bank) (v_a_mud) (.ref q_a_pulls) (v_a_strong) (v_a_boatWide) (v_a_boatDeep) (v_b_laced) (v_b_burst) (.int b_flow) (v_b_seed) o1.2.2.1 a_ropes a_ropeAt a_bears b_wear p3 o5 ho5) 0 rfl rfl kw_882 kw_692 kw_693 kw_27 kw_694 (by decide +kernel) ⟨rfl, rfl⟩ ⟨by decide, by decide⟩ ⟨Nat.zero_le _, Nat.zero_le _⟩ [1, 4, 7, 11, 13, 14, 15] (by decide) rfl rfl rfl rfl rfl rfl (Nat.le_of_ble_eq_true rfl) rfl dX1_holds_41 (fun H locs hW => ?_)
      refine lv_if_ne (tgt := 51) hx hb dX1_holds_44 (by decide) (fun c6 => ?_) (fun c6 => ?_)
      · have hm := (if_neg c6).symm.trans hm
        refine lv_iconst (v := 0) hx hb dX1_holds_51 (by decide) ?_
        obtain rfl := Option.some.inj hm
        exact mx_zret X nb0 hW dX1_holds_52
      · have hm := (if_pos c6).symm.trans hm
        refine lv_iconst (v := 1) hx hb dX1_holds_47 (by decide) ?_
        refine lv_goto (tgt := 52) hx hb dX1_holds_48 (by decide) ?_
        obtain rfl := Option.some.inj hm
        exact mx_zret X nb1 hW dX1_holds_52

abbrev rm_X1_hasLaced : Room := { frames := 1, cells := 0, slots := 0, locals := 21 }
noncomputable def f_X1_hasLaced_L2 (k_36 : Option (Int32)) (x1 : Int32) (x2 : Int32) (a_ropes : Int32) (a_ropeAt : Nat → Int32) : Nat → Int32 → Option (Int32)
  | 0, _ => none
  | n + 1, x3 =>
    (if a_ropes ≤ x3 then
      k_36
    else
      (f_X10_isIn x1 x3).bind fun o2 => (if o2 = 0 then
        f_X1_hasLaced_L2 k_36 x1 x2 a_ropes a_ropeAt n (x3 + 1)
      else
        gd (inb x3 7) <| (if (a_ropeAt x3.toNatClampNeg) = x2 then
          some 1
        else
          f_X1_hasLaced_L2 k_36 x1 x2 a_ropes a_ropeAt n (x3 + 1))))
noncomputable def f_X1_hasLaced (p2 : Int32) (p3 : Int32) (a_ropes : Int32) (a_ropeAt : Nat → Int32) : Option (Int32) :=
  f_X1_hasLaced_L2 (some 0) p2 p3 a_ropes a_ropeAt 2000 0
set_option maxHeartbeats 4000000 in
set_option maxRecDepth 100000 in
theorem w_X1_hasLaced_L2 {p : Program} {l : Launch} {e : Env} {s : State} {m : MethodId} {args : Array Value} {below : List Frame} {meth : Method} {c : Code} {A : Nat → Prop} {G : mx_G} (X : mx_X p s m args meth c RX1 "hasLaced" cX1_hasLaced 4 (some .boolean) G) (q_a : Nat) (q_a_ropeAt : Nat) (v_a_flow : Value) (v_a_tape : Value) (v_a_reaches : Value) (v_a_hands : Value) (v_a_boats : Value) (v_a_muds : Value) (v_a_loose : Value) (v_a_kind : Value) (v_a_wide : Value) (v_a_bank : Value) (v_a_mud : Value) (v_a_pulls : Value) (v_a_bears : Value) (v_a_strong : Value) (v_a_boatWide : Value) (v_a_boatDeep : Value) (a_ropes : Int32) (a_ropeAt : Nat → Int32) (x1 : Int32) (x2 : Int32) (out : Int32) (k_36 : Option (Int32)) (hk_36 : ∀ (H : Heap) (locs : List Loc) (ls : Array Slot), k_36 = some out → mx_W G s A [xO q_a 6 [v_a_flow, v_a_tape, v_a_reaches, .int a_ropes, v_a_hands, v_a_boats, v_a_muds, v_a_loose, v_a_kind, v_a_wide, v_a_bank, v_a_mud, .ref q_a_ropeAt, v_a_pulls, v_a_bears, v_a_strong, v_a_boatWide, v_a_boatDeep], xI G q_a_ropeAt 7 a_ropeAt] H locs → lv_has ls 4 [] → W p l e rm_X1_hasLaced s m args below meth c H locs 0 0 (MQ below (mx_Q G (some (.int out)) [xO q_a 6 [v_a_flow, v_a_tape, v_a_reaches, .int a_ropes, v_a_hands, v_a_boats, v_a_muds, v_a_loose, v_a_kind, v_a_wide, v_a_bank, v_a_mud, .ref q_a_ropeAt, v_a_pulls, v_a_bears, v_a_strong, v_a_boatWide, v_a_boatDeep], xI G q_a_ropeAt 7 a_ropeAt] A) args s 0 0 A) (F0 m 36 ls [])) : ∀ (n : Nat) (x3 : Int32) (H : Heap) (locs : List Loc) (ls : Array Slot), f_X1_hasLaced_L2 k_36 x1 x2 a_ropes a_ropeAt n x3 = some out → mx_W G s A [xO q_a 6 [v_a_flow, v_a_tape, v_a_reaches, .int a_ropes, v_a_hands, v_a_boats, v_a_muds, v_a_loose, v_a_kind, v_a_wide, v_a_bank, v_a_mud, .ref q_a_ropeAt, v_a_pulls, v_a_bears, v_a_strong, v_a_boatWide, v_a_boatDeep], xI G q_a_ropeAt 7 a_ropeAt] H locs → lv_has ls 4 [(0, .ref q_a), (1, .int x1), (2, .int x2), (3, .int x3)] → W p l e rm_X1_hasLaced s m args below meth c H locs 0 0 (MQ below (mx_Q G (some (.int out)) [xO q_a 6 [v_a_flow, v_a_tape, v_a_reaches, .int a_ropes, v_a_hands, v_a_boats, v_a_muds, v_a_loose, v_a_kind, v_a_wide, v_a_bank, v_a_mud, .ref q_a_ropeAt, v_a_pulls, v_a_bears, v_a_strong, v_a_boatWide, v_a_boatDeep], xI G q_a_ropeAt 7 a_ropeAt] A) args s 0 0 A) (F0 m 2 ls []) := by
  obtain ⟨hx, hb, hml, hown, hts, hKN, -⟩ := id X
  intro n
  induction n with
  | zero => intro x3 H locs ls hm hW hl; exact absurd (show none = some out from hm) (fun h => by cases h)
  | succ n ih =>
    intro x3 H locs ls hm hW hl
    rw [f_X1_hasLaced_L2] at hm
    refine lv_iload_n hx hb dX1_hasLaced_2 rfl (lv_at hl 3 rfl) ?_
    refine lv_aload_n hx hb dX1_hasLaced_3 rfl (lv_at hl 0 rfl) ?_
    refine mx_get (C := RX6) (T := TX6) (N := 18) (ci := 6) X hW 0 rfl rfl tbc_X6 3 (by decide) kw_872 rfl dX1_hasLaced_4 ?_
    refine lv_icmp_ge (tgt := 36) hx hb dX1_hasLaced_7 (by decide) (fun c1 => ?_) (fun c1 => ?_)
    · have hm := (if_pos c1).symm.trans hm
      exact hk_36  _ _ _ hm hW (lv_sub hl [] rfl)
    · have hm := (if_neg c1).symm.trans hm
      refine lv_iload_n hx hb dX1_hasLaced_10 rfl (lv_at hl 1 rfl) ?_
      refine lv_iload_n hx hb dX1_hasLaced_11 rfl (lv_at hl 3 rfl) ?_
      obtain ⟨o2, ho2, hm⟩ := bd_s hm
      refine mx_callSN (n := 2) (As := [.int x1, .int x3]) (rest := []) (st1 := [.int o2]) (w2 := [xO q_a 6 [v_a_flow, v_a_tape, v_a_reaches, .int a_ropes, v_a_hands, v_a_boats, v_a_muds, v_a_loose, v_a_kind, v_a_wide, v_a_bank, v_a_mud, .ref q_a_ropeAt, v_a_pulls, v_a_bears, v_a_strong, v_a_boatWide, v_a_boatDeep], xI G q_a_ropeAt 7 a_ropeAt]) X hW hl.1 (c_X10_isIn l G x1 x3 o2 ho2) kn_19 kw_302 kw_2 kw_303 (by decide +kernel) ⟨rfl, rfl⟩ ⟨by decide, by decide⟩ ⟨Nat.zero_le _, Nat.zero_le _⟩ [] (by decide) rfl rfl rfl rfl rfl rfl (Nat.le_of_ble_eq_true rfl) rfl dX1_hasLaced_12 (fun H locs hW => ?_)
      refine lv_if_eq (tgt := 30) hx hb dX1_hasLaced_15 (by decide) (fun c3 => ?_) (fun c3 => ?_)
      · have hm := (if_pos c3).symm.trans hm
        refine lv_iinc (v := x3 + 1) (lv' := [(3, .int (x3 + 1)), (0, .ref q_a), (1, .int x1), (2, .int x2)]) hx hb dX1_hasLaced_30 hl (k := 3) rfl rfl (by decide) rfl (fun ls hl => ?_)
        refine lv_goto (tgt := 2) hx hb dX1_hasLaced_33 (by decide) ?_
        exact ih (x3 + 1) _ _ _ hm hW (lv_sub hl [1, 2, 3, 0] rfl)
      · have hm := (if_neg c3).symm.trans hm
        refine lv_aload_n hx hb dX1_hasLaced_18 rfl (lv_at hl 0 rfl) ?_
        refine mx_get (C := RX6) (T := TX6) (N := 18) (ci := 6) X hW 0 rfl rfl tbc_X6 12 (by decide) kw_903 rfl dX1_hasLaced_19 ?_
        refine lv_iload_n hx hb dX1_hasLaced_22 rfl (lv_at hl 3 rfl) ?_
        obtain ⟨hg4, hm⟩ := gd_s hm
        refine mx_iald X hW 1 rfl (inb_s hg4) dX1_hasLaced_23 ?_
        refine lv_iload_n hx hb dX1_hasLaced_24 rfl (lv_at hl 2 rfl) ?_
        refine lv_icmp_ne (tgt := 30) hx hb dX1_hasLaced_25 (by decide) (fun c5 => ?_) (fun c5 => ?_)
        · have hm := (if_neg c5).symm.trans hm
          refine lv_iinc (v := x3 + 1) (lv' := [(3, .int (x3 + 1)), (0, .ref q_a), (1, .int x1), (2, .int x2)]) hx hb dX1_hasLaced_30 hl (k := 3) rfl rfl (by decide) rfl (fun ls hl => ?_)
          refine lv_goto (tgt := 2) hx hb dX1_hasLaced_33 (by decide) ?_
          exact ih (x3 + 1) _ _ _ hm hW (lv_sub hl [1, 2, 3, 0] rfl)
        · have hm := (if_pos c5).symm.trans hm
          refine lv_iconst (v := 1) hx hb dX1_hasLaced_28 (by decide) ?_
          obtain rfl := Option.some.inj hm
          exact mx_zret X nb1 hW dX1_hasLaced_29
set_option maxHeartbeats 4000000 in
set_option maxRecDepth 100000 in
theorem c_X1_hasLaced (l : Launch) (G : mx_G) (q_a : Nat) (q_a_ropeAt : Nat) (v_a_flow : Value) (v_a_tape : Value) (v_a_reaches : Value) (v_a_hands : Value) (v_a_boats : Value) (v_a_muds : Value) (v_a_loose : Value) (v_a_kind : Value) (v_a_wide : Value) (v_a_bank : Value) (v_a_mud : Value) (v_a_pulls : Value) (v_a_bears : Value) (v_a_strong : Value) (v_a_boatWide : Value) (v_a_boatDeep : Value) (a_ropes : Int32) (a_ropeAt : Nat → Int32) (p2 : Int32) (p3 : Int32) (out : Int32) (hm : f_X1_hasLaced p2 p3 a_ropes a_ropeAt = some out) : mx_C l yX1_hasLaced cX1_hasLaced 4 (some .boolean) rm_X1_hasLaced G [.ref q_a, .int p2, .int p3] [xO q_a 6 [v_a_flow, v_a_tape, v_a_reaches, .int a_ropes, v_a_hands, v_a_boats, v_a_muds, v_a_loose, v_a_kind, v_a_wide, v_a_bank, v_a_mud, .ref q_a_ropeAt, v_a_pulls, v_a_bears, v_a_strong, v_a_boatWide, v_a_boatDeep], xI G q_a_ropeAt 7 a_ropeAt] (some (.int out)) [xO q_a 6 [v_a_flow, v_a_tape, v_a_reaches, .int a_ropes, v_a_hands, v_a_boats, v_a_muds, v_a_loose, v_a_kind, v_a_wide, v_a_bank, v_a_mud, .ref q_a_ropeAt, v_a_pulls, v_a_bears, v_a_strong, v_a_boatWide, v_a_boatDeep], xI G q_a_ropeAt 7 a_ropeAt] := by
  refine mx_enter (own := RX1) (name := "hasLaced") (lv := [(0, .ref q_a), (1, .int p2), (2, .int p3)]) (by decide) rfl rfl (Nat.le_of_ble_eq_true rfl) rfl ?_
  intro p e s m args below meth c A ls X hW hl
  obtain ⟨hx, hb, hml, hown, hts, hKN, -⟩ := id X
  unfold f_X1_hasLaced at hm
  refine lv_iconst (v := 0) hx hb dX1_hasLaced_0 (by decide) ?_
  refine lv_istore_n (lv' := [(3, .int 0), (0, .ref q_a), (1, .int p2), (2, .int p3)]) hx hb dX1_hasLaced_1 rfl hl (by decide) rfl (fun ls hl => ?_)
  refine w_X1_hasLaced_L2 X q_a q_a_ropeAt (v_a_flow) (v_a_tape) (v_a_reaches) (v_a_hands) (v_a_boats) (v_a_muds) (v_a_loose) (v_a_kind) (v_a_wide) (v_a_bank) (v_a_mud) (v_a_pulls) (v_a_bears) (v_a_strong) (v_a_boatWide) (v_a_boatDeep) a_ropes a_ropeAt p2 p3 out _ (fun H locs ls hm hW hl => ?_) _ 0 _ _ _ hm hW (lv_sub hl [1, 2, 3, 0] rfl)
  refine lv_iconst (v := 0) hx hb dX1_hasLaced_36 (by decide) ?_
  obtain rfl := Option.some.inj hm
  exact mx_zret X nb0 hW dX1_hasLaced_37

abbrev rm_X1_lacedWidths : Room := { frames := 2, cells := 0, slots := 0, locals := 44 }
noncomputable def f_X1_lacedWidths_L5 (k_43 : Int32 → Option (Int32)) (x2 : Int32) (t_water_width : Nat → Int32) (a_reaches : Int32) (a_ropes : Int32) (a_ropeAt : Nat → Int32) : Nat → Int32 → Int32 → Option (Int32)
  | 0, _, _ => none
  | n + 1, x3, x4 =>
    (if a_reaches ≤ x4 then
      k_43 x3
    else
      (f_X1_hasLaced x2 x4 a_ropes a_ropeAt).bind fun o2 => (if o2 = 0 then
        f_X1_lacedWidths_L5 k_43 x2 t_water_width a_reaches a_ropes a_ropeAt n x3 (x4 + 1)
      else
        gd (inb x4 6) <| nm (x3 + (t_water_width x4.toNatClampNeg)) fun z5 =>f_X1_lacedWidths_L5 k_43 x2 t_water_width a_reaches a_ropes a_ropeAt n z5 (x4 + 1)))
noncomputable def f_X1_lacedWidths (p2 : Int32) (t_water_width : Nat → Int32) (a_reaches : Int32) (a_ropes : Int32) (a_ropeAt : Nat → Int32) : Option (Int32) :=
  f_X1_lacedWidths_L5 (fun x3_5 =>
    some x3_5) p2 t_water_width a_reaches a_ropes a_ropeAt 2000 0 0
set_option maxHeartbeats 4000000 in
set_option maxRecDepth 100000 in
theorem w_X1_lacedWidths_L5 {p : Program} {l : Launch} {e : Env} {s : State} {m : MethodId} {args : Array Value} {below : List Frame} {meth : Method} {c : Code} {A : Nat → Prop} {G : mx_G} (X : mx_X p s m args meth c RX1 "lacedWidths" cX1_lacedWidths 5 (some .int) G) (q_t : Nat) (q_t_water : Nat) (q_t_water_width : Nat) (q_a : Nat) (q_a_ropeAt : Nat) (v_t_count : Value) (v_t_fewest : Value) (v_t_shortest : Value) (v_t_shortestSum : Value) (v_t_changed : Value) (v_t_changedHarm : Value) (v_t_water_comes : Value) (v_t_water_depth : Value) (v_t_water_spill : Value) (v_t_water_harmAt : Value) (v_t_water_below : Value) (v_t_water_allHarm : Value) (v_t_water_spilling : Value) (v_a_flow : Value) (v_a_tape : Value) (v_a_hands : Value) (v_a_boats : Value) (v_a_muds : Value) (v_a_loose : Value) (v_a_kind : Value) (v_a_wide : Value) (v_a_bank : Value) (v_a_mud : Value) (v_a_pulls : Value) (v_a_bears : Value) (v_a_strong : Value) (v_a_boatWide : Value) (v_a_boatDeep : Value) (t_water_width : Nat → Int32) (a_reaches : Int32) (a_ropes : Int32) (a_ropeAt : Nat → Int32) (x2 : Int32) (out : Int32) (k_43 : Int32 → Option (Int32)) (hk_43 : ∀ (x3 : Int32) (H : Heap) (locs : List Loc) (ls : Array Slot), k_43 x3 = some out → mx_W G s A [xO q_t 1 [.ref q_t_water, v_t_count, v_t_fewest, v_t_shortest, v_t_shortestSum, v_t_changed, v_t_changedHarm], xO q_t_water 8 [.ref q_t_water_width, v_t_water_comes, v_t_water_depth, v_t_water_spill, v_t_water_harmAt, v_t_water_below, v_t_water_allHarm, v_t_water_spilling], xI G q_t_water_width 6 t_water_width, xO q_a 6 [v_a_flow, v_a_tape, .int a_reaches, .int a_ropes, v_a_hands, v_a_boats, v_a_muds, v_a_loose, v_a_kind, v_a_wide, v_a_bank, v_a_mud, .ref q_a_ropeAt, v_a_pulls, v_a_bears, v_a_strong, v_a_boatWide, v_a_boatDeep], xI G q_a_ropeAt 7 a_ropeAt] H locs → lv_has ls 5 [(3, .int x3)] → W p l e rm_X1_lacedWidths s m args below meth c H locs 0 0 (MQ below (mx_Q G (some (.int out)) [xO q_t 1 [.ref q_t_water, v_t_count, v_t_fewest, v_t_shortest, v_t_shortestSum, v_t_changed, v_t_changedHarm], xO q_t_water 8 [.ref q_t_water_width, v_t_water_comes, v_t_water_depth, v_t_water_spill, v_t_water_harmAt, v_t_water_below, v_t_water_allHarm, v_t_water_spilling], xI G q_t_water_width 6 t_water_width, xO q_a 6 [v_a_flow, v_a_tape, .int a_reaches, .int a_ropes, v_a_hands, v_a_boats, v_a_muds, v_a_loose, v_a_kind, v_a_wide, v_a_bank, v_a_mud, .ref q_a_ropeAt, v_a_pulls, v_a_bears, v_a_strong, v_a_boatWide, v_a_boatDeep], xI G q_a_ropeAt 7 a_ropeAt] A) args s 0 0 A) (F0 m 43 ls [])) : ∀ (n : Nat) (x3 : Int32) (x4 : Int32) (H : Heap) (locs : List Loc) (ls : Array Slot), f_X1_lacedWidths_L5 k_43 x2 t_water_width a_reaches a_ropes a_ropeAt n x3 x4 = some out → mx_W G s A [xO q_t 1 [.ref q_t_water, v_t_count, v_t_fewest, v_t_shortest, v_t_shortestSum, v_t_changed, v_t_changedHarm], xO q_t_water 8 [.ref q_t_water_width, v_t_water_comes, v_t_water_depth, v_t_water_spill, v_t_water_harmAt, v_t_water_below, v_t_water_allHarm, v_t_water_spilling], xI G q_t_water_width 6 t_water_width, xO q_a 6 [v_a_flow, v_a_tape, .int a_reaches, .int a_ropes, v_a_hands, v_a_boats, v_a_muds, v_a_loose, v_a_kind, v_a_wide, v_a_bank, v_a_mud, .ref q_a_ropeAt, v_a_pulls, v_a_bears, v_a_strong, v_a_boatWide, v_a_boatDeep], xI G q_a_ropeAt 7 a_ropeAt] H locs → lv_has ls 5 [(0, .ref q_t), (1, .ref q_a), (2, .int x2), (3, .int x3), (4, .int x4)] → W p l e rm_X1_lacedWidths s m args below meth c H locs 0 0 (MQ below (mx_Q G (some (.int out)) [xO q_t 1 [.ref q_t_water, v_t_count, v_t_fewest, v_t_shortest, v_t_shortestSum, v_t_changed, v_t_changedHarm], xO q_t_water 8 [.ref q_t_water_width, v_t_water_comes, v_t_water_depth, v_t_water_spill, v_t_water_harmAt, v_t_water_below, v_t_water_allHarm, v_t_water_spilling], xI G q_t_water_width 6 t_water_width, xO q_a 6 [v_a_flow, v_a_tape, .int a_reaches, .int a_ropes, v_a_hands, v_a_boats, v_a_muds, v_a_loose, v_a_kind, v_a_wide, v_a_bank, v_a_mud, .ref q_a_ropeAt, v_a_pulls, v_a_bears, v_a_strong, v_a_boatWide, v_a_boatDeep], xI G q_a_ropeAt 7 a_ropeAt] A) args s 0 0 A) (F0 m 5 ls []) := by
  obtain ⟨hx, hb, hml, hown, hts, hKN, -⟩ := id X
  intro n
  induction n with
  | zero => intro x3 x4 H locs ls hm hW hl; exact absurd (show none = some out from hm) (fun h => by cases h)
  | succ n ih =>
    intro x3 x4 H locs ls hm hW hl
    rw [f_X1_lacedWidths_L5] at hm
    refine lv_iload hx hb dX1_lacedWidths_5 (lv_at hl 4 rfl) ?_
    refine lv_aload_n hx hb dX1_lacedWidths_7 rfl (lv_at hl 1 rfl) ?_
    refine mx_get (C := RX6) (T := TX6) (N := 18) (ci := 6) X hW 3 rfl rfl tbc_X6 2 (by decide) kw_898 rfl dX1_lacedWidths_8 ?_
    refine lv_icmp_ge (tgt := 43) hx hb dX1_lacedWidths_11 (by decide) (fun c1 => ?_) (fun c1 => ?_)
    · have hm := (if_pos c1).symm.trans hm
      exact hk_43 x3 _ _ _ hm hW (lv_sub hl [3] rfl)
    · have hm := (if_neg c1).symm.trans hm
      refine lv_aload_n hx hb dX1_lacedWidths_14 rfl (lv_at hl 1 rfl) ?_
      refine lv_iload_n hx hb dX1_lacedWidths_15 rfl (lv_at hl 2 rfl) ?_
      refine lv_iload hx hb dX1_lacedWidths_16 (lv_at hl 4 rfl) ?_
      obtain ⟨o2, ho2, hm⟩ := bd_s hm
      refine mx_callS (n := 3) (As := [.ref q_a, .int x2, .int x4]) (rest := []) (st1 := [.int o2]) (w2 := [xO q_t 1 [.ref q_t_water, v_t_count, v_t_fewest, v_t_shortest, v_t_shortestSum, v_t_changed, v_t_changedHarm], xO q_t_water 8 [.ref q_t_water_width, v_t_water_comes, v_t_water_depth, v_t_water_spill, v_t_water_harmAt, v_t_water_below, v_t_water_allHarm, v_t_water_spilling], xI G q_t_water_width 6 t_water_width, xO q_a 6 [v_a_flow, v_a_tape, .int a_reaches, .int a_ropes, v_a_hands, v_a_boats, v_a_muds, v_a_loose, v_a_kind, v_a_wide, v_a_bank, v_a_mud, .ref q_a_ropeAt, v_a_pulls, v_a_bears, v_a_strong, v_a_boatWide, v_a_boatDeep], xI G q_a_ropeAt 7 a_ropeAt]) X hW hl.1 (c_X1_hasLaced l G q_a q_a_ropeAt (v_a_flow) (v_a_tape) (.int a_reaches) (v_a_hands) (v_a_boats) (v_a_muds) (v_a_loose) (v_a_kind) (v_a_wide) (v_a_bank) (v_a_mud) (v_a_pulls) (v_a_bears) (v_a_strong) (v_a_boatWide) (v_a_boatDeep) a_ropes a_ropeAt x2 x4 o2 ho2) kw_900 kw_901 kw_31 kw_902 (by decide +kernel) ⟨rfl, rfl⟩ ⟨by decide, by decide⟩ ⟨Nat.zero_le _, Nat.zero_le _⟩ [3, 4] (by decide) rfl rfl rfl rfl rfl rfl (Nat.le_of_ble_eq_true rfl) rfl dX1_lacedWidths_18 (fun H locs hW => ?_)
      refine lv_if_eq (tgt := 37) hx hb dX1_lacedWidths_21 (by decide) (fun c3 => ?_) (fun c3 => ?_)
      · have hm := (if_pos c3).symm.trans hm
        refine lv_iinc (v := x4 + 1) (lv' := [(4, .int (x4 + 1)), (0, .ref q_t), (1, .ref q_a), (2, .int x2), (3, .int x3)]) hx hb dX1_lacedWidths_37 hl (k := 4) rfl rfl (by decide) rfl (fun ls hl => ?_)
        refine lv_goto (tgt := 5) hx hb dX1_lacedWidths_40 (by decide) ?_
        exact ih x3 (x4 + 1) _ _ _ hm hW (lv_sub hl [1, 2, 3, 4, 0] rfl)
      · have hm := (if_neg c3).symm.trans hm
        refine lv_iload_n hx hb dX1_lacedWidths_24 rfl (lv_at hl 3 rfl) ?_
        refine lv_aload_n hx hb dX1_lacedWidths_25 rfl (lv_at hl 0 rfl) ?_
        refine mx_get (C := RX1) (T := TX1) (N := 7) (ci := 1) X hW 0 rfl rfl tbc_X1 0 (by decide) kw_101 rfl dX1_lacedWidths_26 ?_
        refine mx_get (C := RX8) (T := TX8) (N := 8) (ci := 8) X hW 1 rfl rfl tbc_X8 0 (by decide) kw_899 rfl dX1_lacedWidths_29 ?_
        refine lv_iload hx hb dX1_lacedWidths_32 (lv_at hl 4 rfl) ?_
        obtain ⟨hg4, hm⟩ := gd_s hm
        refine mx_iald X hW 2 rfl (inb_s hg4) dX1_lacedWidths_34 ?_
        refine lv_iadd hx hb dX1_lacedWidths_35 ?_
        refine lv_topi (fun z5 ez5 => ?_)
        have hm := nm_s ez5 hm
        refine lv_istore_n (lv' := [(3, .int z5), (0, .ref q_t), (1, .ref q_a), (2, .int x2), (4, .int x4)]) hx hb dX1_lacedWidths_36 rfl hl (by decide) rfl (fun ls hl => ?_)
        refine lv_iinc (v := x4 + 1) (lv' := [(4, .int (x4 + 1)), (3, .int z5), (0, .ref q_t), (1, .ref q_a), (2, .int x2)]) hx hb dX1_lacedWidths_37 hl (k := 4) rfl rfl (by decide) rfl (fun ls hl => ?_)
        refine lv_goto (tgt := 5) hx hb dX1_lacedWidths_40 (by decide) ?_
        exact ih z5 (x4 + 1) _ _ _ hm hW (lv_sub hl [2, 3, 4, 1, 0] rfl)
set_option maxHeartbeats 4000000 in
set_option maxRecDepth 100000 in
theorem c_X1_lacedWidths (l : Launch) (G : mx_G) (q_t : Nat) (q_t_water : Nat) (q_t_water_width : Nat) (q_a : Nat) (q_a_ropeAt : Nat) (v_t_count : Value) (v_t_fewest : Value) (v_t_shortest : Value) (v_t_shortestSum : Value) (v_t_changed : Value) (v_t_changedHarm : Value) (v_t_water_comes : Value) (v_t_water_depth : Value) (v_t_water_spill : Value) (v_t_water_harmAt : Value) (v_t_water_below : Value) (v_t_water_allHarm : Value) (v_t_water_spilling : Value) (v_a_flow : Value) (v_a_tape : Value) (v_a_hands : Value) (v_a_boats : Value) (v_a_muds : Value) (v_a_loose : Value) (v_a_kind : Value) (v_a_wide : Value) (v_a_bank : Value) (v_a_mud : Value) (v_a_pulls : Value) (v_a_bears : Value) (v_a_strong : Value) (v_a_boatWide : Value) (v_a_boatDeep : Value) (t_water_width : Nat → Int32) (a_reaches : Int32) (a_ropes : Int32) (a_ropeAt : Nat → Int32) (p2 : Int32) (out : Int32) (hm : f_X1_lacedWidths p2 t_water_width a_reaches a_ropes a_ropeAt = some out) : mx_C l yX1_lacedWidths cX1_lacedWidths 5 (some .int) rm_X1_lacedWidths G [.ref q_t, .ref q_a, .int p2] [xO q_t 1 [.ref q_t_water, v_t_count, v_t_fewest, v_t_shortest, v_t_shortestSum, v_t_changed, v_t_changedHarm], xO q_t_water 8 [.ref q_t_water_width, v_t_water_comes, v_t_water_depth, v_t_water_spill, v_t_water_harmAt, v_t_water_below, v_t_water_allHarm, v_t_water_spilling], xI G q_t_water_width 6 t_water_width, xO q_a 6 [v_a_flow, v_a_tape, .int a_reaches, .int a_ropes, v_a_hands, v_a_boats, v_a_muds, v_a_loose, v_a_kind, v_a_wide, v_a_bank, v_a_mud, .ref q_a_ropeAt, v_a_pulls, v_a_bears, v_a_strong, v_a_boatWide, v_a_boatDeep], xI G q_a_ropeAt 7 a_ropeAt] (some (.int out)) [xO q_t 1 [.ref q_t_water, v_t_count, v_t_fewest, v_t_shortest, v_t_shortestSum, v_t_changed, v_t_changedHarm], xO q_t_water 8 [.ref q_t_water_width, v_t_water_comes, v_t_water_depth, v_t_water_spill, v_t_water_harmAt, v_t_water_below, v_t_water_allHarm, v_t_water_spilling], xI G q_t_water_width 6 t_water_width, xO q_a 6 [v_a_flow, v_a_tape, .int a_reaches, .int a_ropes, v_a_hands, v_a_boats, v_a_muds, v_a_loose, v_a_kind, v_a_wide, v_a_bank, v_a_mud, .ref q_a_ropeAt, v_a_pulls, v_a_bears, v_a_strong, v_a_boatWide, v_a_boatDeep], xI G q_a_ropeAt 7 a_ropeAt] := by
  refine mx_enter (own := RX1) (name := "lacedWidths") (lv := [(0, .ref q_t), (1, .ref q_a), (2, .int p2)]) (by decide) rfl rfl (Nat.le_of_ble_eq_true rfl) rfl ?_
  intro p e s m args below meth c A ls X hW hl
  obtain ⟨hx, hb, hml, hown, hts, hKN, -⟩ := id X
  unfold f_X1_lacedWidths at hm
  refine lv_iconst (v := 0) hx hb dX1_lacedWidths_0 (by decide) ?_
  refine lv_istore_n (lv' := [(3, .int 0), (0, .ref q_t), (1, .ref q_a), (2, .int p2)]) hx hb dX1_lacedWidths_1 rfl hl (by decide) rfl (fun ls hl => ?_)
  refine lv_iconst (v := 0) hx hb dX1_lacedWidths_2 (by decide) ?_
  refine lv_istore (lv' := [(4, .int 0), (3, .int 0), (0, .ref q_t), (1, .ref q_a), (2, .int p2)]) hx hb dX1_lacedWidths_3 hl (by decide) rfl (fun ls hl => ?_)
  refine w_X1_lacedWidths_L5 X q_t q_t_water q_t_water_width q_a q_a_ropeAt (v_t_count) (v_t_fewest) (v_t_shortest) (v_t_shortestSum) (v_t_changed) (v_t_changedHarm) (v_t_water_comes) (v_t_water_depth) (v_t_water_spill) (v_t_water_harmAt) (v_t_water_below) (v_t_water_allHarm) (v_t_water_spilling) (v_a_flow) (v_a_tape) (v_a_hands) (v_a_boats) (v_a_muds) (v_a_loose) (v_a_kind) (v_a_wide) (v_a_bank) (v_a_mud) (v_a_pulls) (v_a_bears) (v_a_strong) (v_a_boatWide) (v_a_boatDeep) t_water_width a_reaches a_ropes a_ropeAt p2 out _ (fun x3_5 H locs ls hm hW hl => ?_) _ 0 0 _ _ _ hm hW (lv_sub hl [2, 3, 4, 1, 0] rfl)
  refine lv_iload_n hx hb dX1_lacedWidths_43 rfl (lv_at hl 0 rfl) ?_
  obtain rfl := Option.some.inj hm
  exact mx_iret X hW dX1_lacedWidths_44

abbrev rm_X1_take : Room := { frames := 3, cells := 0, slots := 0, locals := 68 }
noncomputable def f_X1_take_B48  (x2 : Int32) (x3 : Int32) (t_count : Int32) (t_fewest : Int32) (t_shortest : Int32) (t_shortestSum : Int32) : Option (Int32 × Int32 × Int32 × Int32) :=
  nm (t_count + 1) fun z4 => some (z4, t_fewest, x2, x3)
noncomputable def f_X1_take_B26  (x2 : Int32) (t_water_width : Nat → Int32) (t_count : Int32) (t_fewest : Int32) (t_shortest : Int32) (t_shortestSum : Int32) (a_reaches : Int32) (a_ropes : Int32) (a_ropeAt : Nat → Int32) : Option (Int32 × Int32 × Int32 × Int32) :=
  (f_X1_lacedWidths x2 t_water_width a_reaches a_ropes a_ropeAt).bind fun o2 => (if t_count = 0 then
    f_X1_take_B48  x2 o2 t_count t_fewest t_shortest t_shortestSum
  else
    (if t_shortestSum ≤ o2 then
      nm (t_count + 1) fun z6 => some (z6, t_fewest, t_shortest, t_shortestSum)
    else
      f_X1_take_B48  x2 o2 t_count t_fewest t_shortest t_shortestSum))
noncomputable def f_X1_take_B21  (x2 : Int32) (t_water_width : Nat → Int32) (t_count : Int32) (t_fewest : Int32) (t_shortest : Int32) (t_shortestSum : Int32) (a_reaches : Int32) (a_ropes : Int32) (a_ropeAt : Nat → Int32) : Option (Int32 × Int32 × Int32 × Int32) :=
  f_X1_take_B26  x2 t_water_width t_count x2 t_shortest t_shortestSum a_reaches a_ropes a_ropeAt
noncomputable def f_X1_take (p2 : Int32) (t_water_width : Nat → Int32) (t_count : Int32) (t_fewest : Int32) (t_shortest : Int32) (t_shortestSum : Int32) (a_reaches : Int32) (a_ropes : Int32) (a_ropeAt : Nat → Int32) : Option (Int32 × Int32 × Int32 × Int32) :=
  (if t_count = 0 then
    f_X1_take_B21  p2 t_water_width t_count t_fewest t_shortest t_shortestSum a_reaches a_ropes a_ropeAt
  else
    (f_J6_bitCount_0f7a4 p2).bind fun o7 => (f_J6_bitCount_0f7a4 t_fewest).bind fun o8 => (if o8 ≤ o7 then
      f_X1_take_B26  p2 t_water_width t_count t_fewest t_shortest t_shortestSum a_reaches a_ropes a_ropeAt
    else
      f_X1_take_B21  p2 t_water_width t_count t_fewest t_shortest t_shortestSum a_reaches a_ropes a_ropeAt))
set_option maxHeartbeats 4000000 in
set_option maxRecDepth 100000 in
theorem w_X1_take_B48 {p : Program} {l : Launch} {e : Env} {s : State} {m : MethodId} {args : Array Value} {below : List Frame} {meth : Method} {c : Code} {A : Nat → Prop} {G : mx_G} (X : mx_X p s m args meth c RX1 "take" cX1_take 4 none G) (q_t : Nat) (q_t_water : Nat) (q_t_water_width : Nat) (q_a : Nat) (q_a_ropeAt : Nat) (v_t_changed : Value) (v_t_changedHarm : Value) (v_t_water_comes : Value) (v_t_water_depth : Value) (v_t_water_spill : Value) (v_t_water_harmAt : Value) (v_t_water_below : Value) (v_t_water_allHarm : Value) (v_t_water_spilling : Value) (v_a_flow : Value) (v_a_tape : Value) (v_a_hands : Value) (v_a_boats : Value) (v_a_muds : Value) (v_a_loose : Value) (v_a_kind : Value) (v_a_wide : Value) (v_a_bank : Value) (v_a_mud : Value) (v_a_pulls : Value) (v_a_bears : Value) (v_a_strong : Value) (v_a_boatWide : Value) (v_a_boatDeep : Value) (t_water_width : Nat → Int32) (a_reaches : Int32) (a_ropes : Int32) (a_ropeAt : Nat → Int32) (out : Int32 × Int32 × Int32 × Int32)   : ∀ (x2 : Int32) (x3 : Int32) (t_count : Int32) (t_fewest : Int32) (t_shortest : Int32) (t_shortestSum : Int32) (H : Heap) (locs : List Loc) (ls : Array Slot), f_X1_take_B48  x2 x3 t_count t_fewest t_shortest t_shortestSum = some out → mx_W G s A [xO q_t 1 [.ref q_t_water, .int t_count, .int t_fewest, .int t_shortest, .int t_shortestSum, v_t_changed, v_t_changedHarm], xO q_t_water 8 [.ref q_t_water_width, v_t_water_comes, v_t_water_depth, v_t_water_spill, v_t_water_harmAt, v_t_water_below, v_t_water_allHarm, v_t_water_spilling], xI G q_t_water_width 6 t_water_width, xO q_a 6 [v_a_flow, v_a_tape, .int a_reaches, .int a_ropes, v_a_hands, v_a_boats, v_a_muds, v_a_loose, v_a_kind, v_a_wide, v_a_bank, v_a_mud, .ref q_a_ropeAt, v_a_pulls, v_a_bears, v_a_strong, v_a_boatWide, v_a_boatDeep], xI G q_a_ropeAt 7 a_ropeAt] H locs → lv_has ls 4 [(0, .ref q_t), (2, .int x2), (3, .int x3)] → W p l e rm_X1_take s m args below meth c H locs 0 0 (MQ below (mx_Q G none [xO q_t 1 [.ref q_t_water, .int out.1, .int out.2.1, .int out.2.2.1, .int out.2.2.2, v_t_changed, v_t_changedHarm], xO q_t_water 8 [.ref q_t_water_width, v_t_water_comes, v_t_water_depth, v_t_water_spill, v_t_water_harmAt, v_t_water_below, v_t_water_allHarm, v_t_water_spilling], xI G q_t_water_width 6 t_water_width, xO q_a 6 [v_a_flow, v_a_tape, .int a_reaches, .int a_ropes, v_a_hands, v_a_boats, v_a_muds, v_a_loose, v_a_kind, v_a_wide, v_a_bank, v_a_mud, .ref q_a_ropeAt, v_a_pulls, v_a_bears, v_a_strong, v_a_boatWide, v_a_boatDeep], xI G q_a_ropeAt 7 a_ropeAt] A) args s 0 0 A) (F0 m 48 ls []) := by
  obtain ⟨hx, hb, hml, hown, hts, hKN, -⟩ := id X
  intro x2 x3 t_count t_fewest t_shortest t_shortestSum H locs ls hm hW hl
  unfold f_X1_take_B48 at hm
  refine lv_aload_n hx hb dX1_take_48 rfl (lv_at hl 0 rfl) ?_
  refine lv_iload_n hx hb dX1_take_49 rfl (lv_at hl 1 rfl) ?_
  refine mx_put (C := RX1) (T := TX1) (N := 7) (ci := 1) (w2 := [xO q_t 1 [.ref q_t_water, .int t_count, .int t_fewest, .int x2, .int t_shortestSum, v_t_changed, v_t_changedHarm], xO q_t_water 8 [.ref q_t_water_width, v_t_water_comes, v_t_water_depth, v_t_water_spill, v_t_water_harmAt, v_t_water_below, v_t_water_allHarm, v_t_water_spilling], xI G q_t_water_width 6 t_water_width, xO q_a 6 [v_a_flow, v_a_tape, .int a_reaches, .int a_ropes, v_a_hands, v_a_boats, v_a_muds, v_a_loose, v_a_kind, v_a_wide, v_a_bank, v_a_mud, .ref q_a_ropeAt, v_a_pulls, v_a_bears, v_a_strong, v_a_boatWide, v_a_boatDeep], xI G q_a_ropeAt 7 a_ropeAt]) X hW 0 rfl rfl tbc_X1 tyX1 tyX1_ok nmX1 3 (by decide) kw_870 rfl rfl rfl rfl (Nat.le_of_ble_eq_true rfl) rfl dX1_take_50 (fun H locs hW => ?_)
  refine lv_aload_n hx hb dX1_take_53 rfl (lv_at hl 0 rfl) ?_
  refine lv_iload_n hx hb dX1_take_54 rfl (lv_at hl 2 rfl) ?_
  refine mx_put (C := RX1) (T := TX1) (N := 7) (ci := 1) (w2 := [xO q_t 1 [.ref q_t_water, .int t_count, .int t_fewest, .int x2, .int x3, v_t_changed, v_t_changedHarm], xO q_t_water 8 [.ref q_t_water_width, v_t_water_comes, v_t_water_depth, v_t_water_spill, v_t_water_harmAt, v_t_water_below, v_t_water_allHarm, v_t_water_spilling], xI G q_t_water_width 6 t_water_width, xO q_a 6 [v_a_flow, v_a_tape, .int a_reaches, .int a_ropes, v_a_hands, v_a_boats, v_a_muds, v_a_loose, v_a_kind, v_a_wide, v_a_bank, v_a_mud, .ref q_a_ropeAt, v_a_pulls, v_a_bears, v_a_strong, v_a_boatWide, v_a_boatDeep], xI G q_a_ropeAt 7 a_ropeAt]) X hW 0 rfl rfl tbc_X1 tyX1 tyX1_ok nmX1 4 (by decide) kw_871 rfl rfl rfl rfl (Nat.le_of_ble_eq_true rfl) rfl dX1_take_55 (fun H locs hW => ?_)
  refine lv_aload_n hx hb dX1_take_58 rfl (lv_at hl 0 rfl) ?_
  refine lv_dup hx hb dX1_take_59 rfl ?_
  refine mx_get (C := RX1) (T := TX1) (N := 7) (ci := 1) X hW 0 rfl rfl tbc_X1 1 (by decide) kw_868 rfl dX1_take_60 ?_
  refine lv_iconst (v := 1) hx hb dX1_take_63 (by decide) ?_
  refine lv_iadd hx hb dX1_take_64 ?_
  refine lv_topi (fun z4 ez4 => ?_)
  have hm := nm_s ez4 hm
  refine mx_put (C := RX1) (T := TX1) (N := 7) (ci := 1) (w2 := [xO q_t 1 [.ref q_t_water, .int z4, .int t_fewest, .int x2, .int x3, v_t_changed, v_t_changedHarm], xO q_t_water 8 [.ref q_t_water_width, v_t_water_comes, v_t_water_depth, v_t_water_spill, v_t_water_harmAt, v_t_water_below, v_t_water_allHarm, v_t_water_spilling], xI G q_t_water_width 6 t_water_width, xO q_a 6 [v_a_flow, v_a_tape, .int a_reaches, .int a_ropes, v_a_hands, v_a_boats, v_a_muds, v_a_loose, v_a_kind, v_a_wide, v_a_bank, v_a_mud, .ref q_a_ropeAt, v_a_pulls, v_a_bears, v_a_strong, v_a_boatWide, v_a_boatDeep], xI G q_a_ropeAt 7 a_ropeAt]) X hW 0 rfl rfl tbc_X1 tyX1 tyX1_ok nmX1 1 (by decide) kw_868 rfl rfl rfl rfl (Nat.le_of_ble_eq_true rfl) rfl dX1_take_65 (fun H locs hW => ?_)
  obtain rfl := Option.some.inj hm
  exact mx_vret X hW dX1_take_68
set_option maxHeartbeats 4000000 in
set_option maxRecDepth 100000 in
theorem w_X1_take_B26 {p : Program} {l : Launch} {e : Env} {s : State} {m : MethodId} {args : Array Value} {below : List Frame} {meth : Method} {c : Code} {A : Nat → Prop} {G : mx_G} (X : mx_X p s m args meth c RX1 "take" cX1_take 4 none G) (q_t : Nat) (q_t_water : Nat) (q_t_water_width : Nat) (q_a : Nat) (q_a_ropeAt : Nat) (v_t_changed : Value) (v_t_changedHarm : Value) (v_t_water_comes : Value) (v_t_water_depth : Value) (v_t_water_spill : Value) (v_t_water_harmAt : Value) (v_t_water_below : Value) (v_t_water_allHarm : Value) (v_t_water_spilling : Value) (v_a_flow : Value) (v_a_tape : Value) (v_a_hands : Value) (v_a_boats : Value) (v_a_muds : Value) (v_a_loose : Value) (v_a_kind : Value) (v_a_wide : Value) (v_a_bank : Value) (v_a_mud : Value) (v_a_pulls : Value) (v_a_bears : Value) (v_a_strong : Value) (v_a_boatWide : Value) (v_a_boatDeep : Value) (out : Int32 × Int32 × Int32 × Int32)   : ∀ (x2 : Int32) (t_water_width : Nat → Int32) (t_count : Int32) (t_fewest : Int32) (t_shortest : Int32) (t_shortestSum : Int32) (a_reaches : Int32) (a_ropes : Int32) (a_ropeAt : Nat → Int32) (H : Heap) (locs : List Loc) (ls : Array Slot), f_X1_take_B26  x2 t_water_width t_count t_fewest t_shortest t_shortestSum a_reaches a_ropes a_ropeAt = some out → mx_W G s A [xO q_t 1 [.ref q_t_water, .int t_count, .int t_fewest, .int t_shortest, .int t_shortestSum, v_t_changed, v_t_changedHarm], xO q_t_water 8 [.ref q_t_water_width, v_t_water_comes, v_t_water_depth, v_t_water_spill, v_t_water_harmAt, v_t_water_below, v_t_water_allHarm, v_t_water_spilling], xI G q_t_water_width 6 t_water_width, xO q_a 6 [v_a_flow, v_a_tape, .int a_reaches, .int a_ropes, v_a_hands, v_a_boats, v_a_muds, v_a_loose, v_a_kind, v_a_wide, v_a_bank, v_a_mud, .ref q_a_ropeAt, v_a_pulls, v_a_bears, v_a_strong, v_a_boatWide, v_a_boatDeep], xI G q_a_ropeAt 7 a_ropeAt] H locs → lv_has ls 4 [(0, .ref q_t), (1, .ref q_a), (2, .int x2)] → W p l e rm_X1_take s m args below meth c H locs 0 0 (MQ below (mx_Q G none [xO q_t 1 [.ref q_t_water, .int out.1, .int out.2.1, .int out.2.2.1, .int out.2.2.2, v_t_changed, v_t_changedHarm], xO q_t_water 8 [.ref q_t_water_width, v_t_water_comes, v_t_water_depth, v_t_water_spill, v_t_water_harmAt, v_t_water_below, v_t_water_allHarm, v_t_water_spilling], xI G q_t_water_width 6 t_water_width, xO q_a 6 [v_a_flow, v_a_tape, .int a_reaches, .int a_ropes, v_a_hands, v_a_boats, v_a_muds, v_a_loose, v_a_kind, v_a_wide, v_a_bank, v_a_mud, .ref q_a_ropeAt, v_a_pulls, v_a_bears, v_a_strong, v_a_boatWide, v_a_boatDeep], xI G q_a_ropeAt 7 a_ropeAt] A) args s 0 0 A) (F0 m 26 ls []) := by
  obtain ⟨hx, hb, hml, hown, hts, hKN, -⟩ := id X
  intro x2 t_water_width t_count t_fewest t_shortest t_shortestSum a_reaches a_ropes a_ropeAt H locs ls hm hW hl
  unfold f_X1_take_B26 at hm
  refine lv_aload_n hx hb dX1_take_26 rfl (lv_at hl 0 rfl) ?_
  refine lv_aload_n hx hb dX1_take_27 rfl (lv_at hl 1 rfl) ?_
  refine lv_iload_n hx hb dX1_take_28 rfl (lv_at hl 2 rfl) ?_
  obtain ⟨o2, ho2, hm⟩ := bd_s hm
  refine mx_callV (C := RX1) (T := TX1) (N := 7) (ci := 1) (n := 2) (As := [.ref q_a, .int x2]) (rest := []) (st1 := [.int o2]) (w2 := [xO q_t 1 [.ref q_t_water, .int t_count, .int t_fewest, .int t_shortest, .int t_shortestSum, v_t_changed, v_t_changedHarm], xO q_t_water 8 [.ref q_t_water_width, v_t_water_comes, v_t_water_depth, v_t_water_spill, v_t_water_harmAt, v_t_water_below, v_t_water_allHarm, v_t_water_spilling], xI G q_t_water_width 6 t_water_width, xO q_a 6 [v_a_flow, v_a_tape, .int a_reaches, .int a_ropes, v_a_hands, v_a_boats, v_a_muds, v_a_loose, v_a_kind, v_a_wide, v_a_bank, v_a_mud, .ref q_a_ropeAt, v_a_pulls, v_a_bears, v_a_strong, v_a_boatWide, v_a_boatDeep], xI G q_a_ropeAt 7 a_ropeAt]) X hW hl.1 (c_X1_lacedWidths l G q_t q_t_water q_t_water_width q_a q_a_ropeAt (.int t_count) (.int t_fewest) (.int t_shortest) (.int t_shortestSum) (v_t_changed) (v_t_changedHarm) (v_t_water_comes) (v_t_water_depth) (v_t_water_spill) (v_t_water_harmAt) (v_t_water_below) (v_t_water_allHarm) (v_t_water_spilling) (v_a_flow) (v_a_tape) (v_a_hands) (v_a_boats) (v_a_muds) (v_a_loose) (v_a_kind) (v_a_wide) (v_a_bank) (v_a_mud) (v_a_pulls) (v_a_bears) (v_a_strong) (v_a_boatWide) (v_a_boatDeep) t_water_width a_reaches a_ropes a_ropeAt x2 o2 ho2) 0 rfl rfl kw_894 kw_895 kw_896 kw_31 kw_897 (by decide +kernel) ⟨rfl, rfl⟩ ⟨by decide, by decide⟩ ⟨Nat.zero_le _, Nat.zero_le _⟩ [0, 1, 2, 3, 4] (by decide) rfl rfl rfl rfl rfl rfl (Nat.le_of_ble_eq_true rfl) rfl dX1_take_29 (fun H locs hW => ?_)
  refine lv_istore_n (lv' := [(3, .int o2), (0, .ref q_t), (1, .ref q_a), (2, .int x2)]) hx hb dX1_take_32 rfl hl (by decide) rfl (fun ls hl => ?_)
  refine lv_aload_n hx hb dX1_take_33 rfl (lv_at hl 1 rfl) ?_
  refine mx_get (C := RX1) (T := TX1) (N := 7) (ci := 1) X hW 0 rfl rfl tbc_X1 1 (by decide) kw_868 rfl dX1_take_34 ?_
  refine lv_if_eq (tgt := 48) hx hb dX1_take_37 (by decide) (fun c3 => ?_) (fun c3 => ?_)
  · have hm := (if_pos c3).symm.trans hm
    exact w_X1_take_B48 X q_t q_t_water q_t_water_width q_a q_a_ropeAt (v_t_changed) (v_t_changedHarm) (v_t_water_comes) (v_t_water_depth) (v_t_water_spill) (v_t_water_harmAt) (v_t_water_below) (v_t_water_allHarm) (v_t_water_spilling) (v_a_flow) (v_a_tape) (v_a_hands) (v_a_boats) (v_a_muds) (v_a_loose) (v_a_kind) (v_a_wide) (v_a_bank) (v_a_mud) (v_a_pulls) (v_a_bears) (v_a_strong) (v_a_boatWide) (v_a_boatDeep) t_water_width a_reaches a_ropes a_ropeAt out   x2 o2 t_count t_fewest t_shortest t_shortestSum _ _ _ hm hW (lv_sub hl [1, 3, 0] rfl)
  · have hm := (if_neg c3).symm.trans hm
    refine lv_iload_n hx hb dX1_take_40 rfl (lv_at hl 0 rfl) ?_
    refine lv_aload_n hx hb dX1_take_41 rfl (lv_at hl 1 rfl) ?_
    refine mx_get (C := RX1) (T := TX1) (N := 7) (ci := 1) X hW 0 rfl rfl tbc_X1 4 (by decide) kw_871 rfl dX1_take_42 ?_
    refine lv_icmp_ge (tgt := 58) hx hb dX1_take_45 (by decide) (fun c5 => ?_) (fun c5 => ?_)
    · have hm := (if_pos c5).symm.trans hm
      refine lv_aload_n hx hb dX1_take_58 rfl (lv_at hl 1 rfl) ?_
      refine lv_dup hx hb dX1_take_59 rfl ?_
      refine mx_get (C := RX1) (T := TX1) (N := 7) (ci := 1) X hW 0 rfl rfl tbc_X1 1 (by decide) kw_868 rfl dX1_take_60 ?_
      refine lv_iconst (v := 1) hx hb dX1_take_63 (by decide) ?_
      refine lv_iadd hx hb dX1_take_64 ?_
      refine lv_topi (fun z6 ez6 => ?_)
      have hm := nm_s ez6 hm
      refine mx_put (C := RX1) (T := TX1) (N := 7) (ci := 1) (w2 := [xO q_t 1 [.ref q_t_water, .int z6, .int t_fewest, .int t_shortest, .int t_shortestSum, v_t_changed, v_t_changedHarm], xO q_t_water 8 [.ref q_t_water_width, v_t_water_comes, v_t_water_depth, v_t_water_spill, v_t_water_harmAt, v_t_water_below, v_t_water_allHarm, v_t_water_spilling], xI G q_t_water_width 6 t_water_width, xO q_a 6 [v_a_flow, v_a_tape, .int a_reaches, .int a_ropes, v_a_hands, v_a_boats, v_a_muds, v_a_loose, v_a_kind, v_a_wide, v_a_bank, v_a_mud, .ref q_a_ropeAt, v_a_pulls, v_a_bears, v_a_strong, v_a_boatWide, v_a_boatDeep], xI G q_a_ropeAt 7 a_ropeAt]) X hW 0 rfl rfl tbc_X1 tyX1 tyX1_ok nmX1 1 (by decide) kw_868 rfl rfl rfl rfl (Nat.le_of_ble_eq_true rfl) rfl dX1_take_65 (fun H locs hW => ?_)
      obtain rfl := Option.some.inj hm
      exact mx_vret X hW dX1_take_68
    · have hm := (if_neg c5).symm.trans hm
      exact w_X1_take_B48 X q_t q_t_water q_t_water_width q_a q_a_ropeAt (v_t_changed) (v_t_changedHarm) (v_t_water_comes) (v_t_water_depth) (v_t_water_spill) (v_t_water_harmAt) (v_t_water_below) (v_t_water_allHarm) (v_t_water_spilling) (v_a_flow) (v_a_tape) (v_a_hands) (v_a_boats) (v_a_muds) (v_a_loose) (v_a_kind) (v_a_wide) (v_a_bank) (v_a_mud) (v_a_pulls) (v_a_bears) (v_a_strong) (v_a_boatWide) (v_a_boatDeep) t_water_width a_reaches a_ropes a_ropeAt out   x2 o2 t_count t_fewest t_shortest t_shortestSum _ _ _ hm hW (lv_sub hl [1, 3, 0] rfl)
set_option maxHeartbeats 4000000 in
set_option maxRecDepth 100000 in
theorem w_X1_take_B21 {p : Program} {l : Launch} {e : Env} {s : State} {m : MethodId} {args : Array Value} {below : List Frame} {meth : Method} {c : Code} {A : Nat → Prop} {G : mx_G} (X : mx_X p s m args meth c RX1 "take" cX1_take 4 none G) (q_t : Nat) (q_t_water : Nat) (q_t_water_width : Nat) (q_a : Nat) (q_a_ropeAt : Nat) (v_t_changed : Value) (v_t_changedHarm : Value) (v_t_water_comes : Value) (v_t_water_depth : Value) (v_t_water_spill : Value) (v_t_water_harmAt : Value) (v_t_water_below : Value) (v_t_water_allHarm : Value) (v_t_water_spilling : Value) (v_a_flow : Value) (v_a_tape : Value) (v_a_hands : Value) (v_a_boats : Value) (v_a_muds : Value) (v_a_loose : Value) (v_a_kind : Value) (v_a_wide : Value) (v_a_bank : Value) (v_a_mud : Value) (v_a_pulls : Value) (v_a_bears : Value) (v_a_strong : Value) (v_a_boatWide : Value) (v_a_boatDeep : Value) (out : Int32 × Int32 × Int32 × Int32)   : ∀ (x2 : Int32) (t_water_width : Nat → Int32) (t_count : Int32) (t_fewest : Int32) (t_shortest : Int32) (t_shortestSum : Int32) (a_reaches : Int32) (a_ropes : Int32) (a_ropeAt : Nat → Int32) (H : Heap) (locs : List Loc) (ls : Array Slot), f_X1_take_B21  x2 t_water_width t_count t_fewest t_shortest t_shortestSum a_reaches a_ropes a_ropeAt = some out → mx_W G s A [xO q_t 1 [.ref q_t_water, .int t_count, .int t_fewest, .int t_shortest, .int t_shortestSum, v_t_changed, v_t_changedHarm], xO q_t_water 8 [.ref q_t_water_width, v_t_water_comes, v_t_water_depth, v_t_water_spill, v_t_water_harmAt, v_t_water_below, v_t_water_allHarm, v_t_water_spilling], xI G q_t_water_width 6 t_water_width, xO q_a 6 [v_a_flow, v_a_tape, .int a_reaches, .int a_ropes, v_a_hands, v_a_boats, v_a_muds, v_a_loose, v_a_kind, v_a_wide, v_a_bank, v_a_mud, .ref q_a_ropeAt, v_a_pulls, v_a_bears, v_a_strong, v_a_boatWide, v_a_boatDeep], xI G q_a_ropeAt 7 a_ropeAt] H locs → lv_has ls 4 [(0, .ref q_t), (1, .ref q_a), (2, .int x2)] → W p l e rm_X1_take s m args below meth c H locs 0 0 (MQ below (mx_Q G none [xO q_t 1 [.ref q_t_water, .int out.1, .int out.2.1, .int out.2.2.1, .int out.2.2.2, v_t_changed, v_t_changedHarm], xO q_t_water 8 [.ref q_t_water_width, v_t_water_comes, v_t_water_depth, v_t_water_spill, v_t_water_harmAt, v_t_water_below, v_t_water_allHarm, v_t_water_spilling], xI G q_t_water_width 6 t_water_width, xO q_a 6 [v_a_flow, v_a_tape, .int a_reaches, .int a_ropes, v_a_hands, v_a_boats, v_a_muds, v_a_loose, v_a_kind, v_a_wide, v_a_bank, v_a_mud, .ref q_a_ropeAt, v_a_pulls, v_a_bears, v_a_strong, v_a_boatWide, v_a_boatDeep], xI G q_a_ropeAt 7 a_ropeAt] A) args s 0 0 A) (F0 m 21 ls []) := by
  obtain ⟨hx, hb, hml, hown, hts, hKN, -⟩ := id X
  intro x2 t_water_width t_count t_fewest t_shortest t_shortestSum a_reaches a_ropes a_ropeAt H locs ls hm hW hl
  unfold f_X1_take_B21 at hm
  refine lv_aload_n hx hb dX1_take_21 rfl (lv_at hl 0 rfl) ?_
  refine lv_iload_n hx hb dX1_take_22 rfl (lv_at hl 2 rfl) ?_
  refine mx_put (C := RX1) (T := TX1) (N := 7) (ci := 1) (w2 := [xO q_t 1 [.ref q_t_water, .int t_count, .int x2, .int t_shortest, .int t_shortestSum, v_t_changed, v_t_changedHarm], xO q_t_water 8 [.ref q_t_water_width, v_t_water_comes, v_t_water_depth, v_t_water_spill, v_t_water_harmAt, v_t_water_below, v_t_water_allHarm, v_t_water_spilling], xI G q_t_water_width 6 t_water_width, xO q_a 6 [v_a_flow, v_a_tape, .int a_reaches, .int a_ropes, v_a_hands, v_a_boats, v_a_muds, v_a_loose, v_a_kind, v_a_wide, v_a_bank, v_a_mud, .ref q_a_ropeAt, v_a_pulls, v_a_bears, v_a_strong, v_a_boatWide, v_a_boatDeep], xI G q_a_ropeAt 7 a_ropeAt]) X hW 0 rfl rfl tbc_X1 tyX1 tyX1_ok nmX1 2 (by decide) kw_869 rfl rfl rfl rfl (Nat.le_of_ble_eq_true rfl) rfl dX1_take_23 (fun H locs hW => ?_)
  exact w_X1_take_B26 X q_t q_t_water q_t_water_width q_a q_a_ropeAt (v_t_changed) (v_t_changedHarm) (v_t_water_comes) (v_t_water_depth) (v_t_water_spill) (v_t_water_harmAt) (v_t_water_below) (v_t_water_allHarm) (v_t_water_spilling) (v_a_flow) (v_a_tape) (v_a_hands) (v_a_boats) (v_a_muds) (v_a_loose) (v_a_kind) (v_a_wide) (v_a_bank) (v_a_mud) (v_a_pulls) (v_a_bears) (v_a_strong) (v_a_boatWide) (v_a_boatDeep) out   x2 t_water_width t_count x2 t_shortest t_shortestSum a_reaches a_ropes a_ropeAt _ _ _ hm hW (lv_sub hl [0, 1, 2] rfl)
set_option maxHeartbeats 4000000 in
set_option maxRecDepth 100000 in
theorem c_X1_take (l : Launch) (G : mx_G) (q_t : Nat) (q_t_water : Nat) (q_t_water_width : Nat) (q_a : Nat) (q_a_ropeAt : Nat) (v_t_changed : Value) (v_t_changedHarm : Value) (v_t_water_comes : Value) (v_t_water_depth : Value) (v_t_water_spill : Value) (v_t_water_harmAt : Value) (v_t_water_below : Value) (v_t_water_allHarm : Value) (v_t_water_spilling : Value) (v_a_flow : Value) (v_a_tape : Value) (v_a_hands : Value) (v_a_boats : Value) (v_a_muds : Value) (v_a_loose : Value) (v_a_kind : Value) (v_a_wide : Value) (v_a_bank : Value) (v_a_mud : Value) (v_a_pulls : Value) (v_a_bears : Value) (v_a_strong : Value) (v_a_boatWide : Value) (v_a_boatDeep : Value) (t_water_width : Nat → Int32) (t_count : Int32) (t_fewest : Int32) (t_shortest : Int32) (t_shortestSum : Int32) (a_reaches : Int32) (a_ropes : Int32) (a_ropeAt : Nat → Int32) (p2 : Int32) (out : Int32 × Int32 × Int32 × Int32) (hm : f_X1_take p2 t_water_width t_count t_fewest t_shortest t_shortestSum a_reaches a_ropes a_ropeAt = some out) : mx_C l yX1_take cX1_take 4 none rm_X1_take G [.ref q_t, .ref q_a, .int p2] [xO q_t 1 [.ref q_t_water, .int t_count, .int t_fewest, .int t_shortest, .int t_shortestSum, v_t_changed, v_t_changedHarm], xO q_t_water 8 [.ref q_t_water_width, v_t_water_comes, v_t_water_depth, v_t_water_spill, v_t_water_harmAt, v_t_water_below, v_t_water_allHarm, v_t_water_spilling], xI G q_t_water_width 6 t_water_width, xO q_a 6 [v_a_flow, v_a_tape, .int a_reaches, .int a_ropes, v_a_hands, v_a_boats, v_a_muds, v_a_loose, v_a_kind, v_a_wide, v_a_bank, v_a_mud, .ref q_a_ropeAt, v_a_pulls, v_a_bears, v_a_strong, v_a_boatWide, v_a_boatDeep], xI G q_a_ropeAt 7 a_ropeAt] none [xO q_t 1 [.ref q_t_water, .int out.1, .int out.2.1, .int out.2.2.1, .int out.2.2.2, v_t_changed, v_t_changedHarm], xO q_t_water 8 [.ref q_t_water_width, v_t_water_comes, v_t_water_depth, v_t_water_spill, v_t_water_harmAt, v_t_water_below, v_t_water_allHarm, v_t_water_spilling], xI G q_t_water_width 6 t_water_width, xO q_a 6 [v_a_flow, v_a_tape, .int a_reaches, .int a_ropes, v_a_hands, v_a_boats, v_a_muds, v_a_loose, v_a_kind, v_a_wide, v_a_bank, v_a_mud, .ref q_a_ropeAt, v_a_pulls, v_a_bears, v_a_strong, v_a_boatWide, v_a_boatDeep], xI G q_a_ropeAt 7 a_ropeAt] := by
  refine mx_enter (own := RX1) (name := "take") (lv := [(0, .ref q_t), (1, .ref q_a), (2, .int p2)]) (by decide) rfl rfl (Nat.le_of_ble_eq_true rfl) rfl ?_
  intro p e s m args below meth c A ls X hW hl
  obtain ⟨hx, hb, hml, hown, hts, hKN, -⟩ := id X
  unfold f_X1_take at hm
  refine lv_aload_n hx hb dX1_take_0 rfl (lv_at hl 0 rfl) ?_
  refine mx_get (C := RX1) (T := TX1) (N := 7) (ci := 1) X hW 0 rfl rfl tbc_X1 1 (by decide) kw_868 rfl dX1_take_1 ?_
  refine lv_if_eq (tgt := 21) hx hb dX1_take_4 (by decide) (fun c1 => ?_) (fun c1 => ?_)
  · have hm := (if_pos c1).symm.trans hm
    exact w_X1_take_B21 X q_t q_t_water q_t_water_width q_a q_a_ropeAt (v_t_changed) (v_t_changedHarm) (v_t_water_comes) (v_t_water_depth) (v_t_water_spill) (v_t_water_harmAt) (v_t_water_below) (v_t_water_allHarm) (v_t_water_spilling) (v_a_flow) (v_a_tape) (v_a_hands) (v_a_boats) (v_a_muds) (v_a_loose) (v_a_kind) (v_a_wide) (v_a_bank) (v_a_mud) (v_a_pulls) (v_a_bears) (v_a_strong) (v_a_boatWide) (v_a_boatDeep) out   p2 t_water_width t_count t_fewest t_shortest t_shortestSum a_reaches a_ropes a_ropeAt _ _ _ hm hW (lv_sub hl [0, 1, 2] rfl)
  · have hm := (if_neg c1).symm.trans hm
    refine lv_iload_n hx hb dX1_take_7 rfl (lv_at hl 2 rfl) ?_
    obtain ⟨o7, ho7, hm⟩ := bd_s hm
    refine mx_callS (n := 1) (As := [.int p2]) (rest := []) (st1 := [.int o7]) (w2 := [xO q_t 1 [.ref q_t_water, .int t_count, .int t_fewest, .int t_shortest, .int t_shortestSum, v_t_changed, v_t_changedHarm], xO q_t_water 8 [.ref q_t_water_width, v_t_water_comes, v_t_water_depth, v_t_water_spill, v_t_water_harmAt, v_t_water_below, v_t_water_allHarm, v_t_water_spilling], xI G q_t_water_width 6 t_water_width, xO q_a 6 [v_a_flow, v_a_tape, .int a_reaches, .int a_ropes, v_a_hands, v_a_boats, v_a_muds, v_a_loose, v_a_kind, v_a_wide, v_a_bank, v_a_mud, .ref q_a_ropeAt, v_a_pulls, v_a_bears, v_a_strong, v_a_boatWide, v_a_boatDeep], xI G q_a_ropeAt 7 a_ropeAt]) X hW hl.1 (c_J6_bitCount_0f7a4 l G p2 o7 ho7) kw_887 kw_888 kw_889 kw_890 (by decide +kernel) ⟨rfl, rfl⟩ ⟨by decide, by decide⟩ ⟨Nat.zero_le _, Nat.zero_le _⟩ [] (by decide) rfl rfl rfl rfl rfl rfl (Nat.le_of_ble_eq_true rfl) rfl dX1_take_8 (fun H locs hW => ?_)
    refine lv_aload_n hx hb dX1_take_11 rfl (lv_at hl 0 rfl) ?_
    refine mx_get (C := RX1) (T := TX1) (N := 7) (ci := 1) X hW 0 rfl rfl tbc_X1 2 (by decide) kw_869 rfl dX1_take_12 ?_
    obtain ⟨o8, ho8, hm⟩ := bd_s hm
    refine mx_callS (n := 1) (As := [.int t_fewest]) (rest := [.int o7]) (st1 := [.int o8, .int o7]) (w2 := [xO q_t 1 [.ref q_t_water, .int t_count, .int t_fewest, .int t_shortest, .int t_shortestSum, v_t_changed, v_t_changedHarm], xO q_t_water 8 [.ref q_t_water_width, v_t_water_comes, v_t_water_depth, v_t_water_spill, v_t_water_harmAt, v_t_water_below, v_t_water_allHarm, v_t_water_spilling], xI G q_t_water_width 6 t_water_width, xO q_a 6 [v_a_flow, v_a_tape, .int a_reaches, .int a_ropes, v_a_hands, v_a_boats, v_a_muds, v_a_loose, v_a_kind, v_a_wide, v_a_bank, v_a_mud, .ref q_a_ropeAt, v_a_pulls, v_a_bears, v_a_strong, v_a_boatWide, v_a_boatDeep], xI G q_a_ropeAt 7 a_ropeAt]) X hW hl.1 (c_J6_bitCount_0f7a4 l G t_fewest o8 ho8) kw_887 kw_888 kw_889 kw_890 (by decide +kernel) ⟨rfl, rfl⟩ ⟨by decide, by decide⟩ ⟨Nat.zero_le _, Nat.zero_le _⟩ [] (by decide) rfl rfl rfl rfl rfl rfl (Nat.le_of_ble_eq_true rfl) rfl dX1_take_15 (fun H locs hW => ?_)
    refine lv_icmp_ge (tgt := 26) hx hb dX1_take_18 (by decide) (fun c9 => ?_) (fun c9 => ?_)
    · have hm := (if_pos c9).symm.trans hm
      exact w_X1_take_B26 X q_t q_t_water q_t_water_width q_a q_a_ropeAt (v_t_changed) (v_t_changedHarm) (v_t_water_comes) (v_t_water_depth) (v_t_water_spill) (v_t_water_harmAt) (v_t_water_below) (v_t_water_allHarm) (v_t_water_spilling) (v_a_flow) (v_a_tape) (v_a_hands) (v_a_boats) (v_a_muds) (v_a_loose) (v_a_kind) (v_a_wide) (v_a_bank) (v_a_mud) (v_a_pulls) (v_a_bears) (v_a_strong) (v_a_boatWide) (v_a_boatDeep) out   p2 t_water_width t_count t_fewest t_shortest t_shortestSum a_reaches a_ropes a_ropeAt _ _ _ hm hW (lv_sub hl [0, 1, 2] rfl)
    · have hm := (if_neg c9).symm.trans hm
      exact w_X1_take_B21 X q_t q_t_water q_t_water_width q_a q_a_ropeAt (v_t_changed) (v_t_changedHarm) (v_t_water_comes) (v_t_water_depth) (v_t_water_spill) (v_t_water_harmAt) (v_t_water_below) (v_t_water_allHarm) (v_t_water_spilling) (v_a_flow) (v_a_tape) (v_a_hands) (v_a_boats) (v_a_muds) (v_a_loose) (v_a_kind) (v_a_wide) (v_a_bank) (v_a_mud) (v_a_pulls) (v_a_bears) (v_a_strong) (v_a_boatWide) (v_a_boatDeep) out   p2 t_water_width t_count t_fewest t_shortest t_shortestSum a_reaches a_ropes a_ropeAt _ _ _ hm hW (lv_sub hl [0, 1, 2] rfl)

abbrev rm_X1_search : Room := { frames := 5, cells := 0, slots := 0, locals := 113 }
noncomputable def f_X1_search_L25 (k_66 : (Nat → Int32) → (Nat → Int32) → (Nat → Int32) → (Nat → Int32) → (Nat → Int32) → Int32 → Int32 → Int32 → Int32 → Int32 → Int32 → Int32 → Option ((Nat → Int32) × (Nat → Int32) × (Nat → Int32) × (Nat → Int32) × (Nat → Int32) × Int32 × Int32 × Int32 × Int32 × Int32 × Int32 × Int32)) (a_tape : Int32) (a_reaches : Int32) (a_ropes : Int32) (a_kind : Nat → Int32) (a_wide : Nat → Int32) (a_bank : Nat → Int32) (a_ropeAt : Nat → Int32) (a_pulls : Nat → Int32) (a_bears : Nat → Int32) (b_burst : Int32) (b_flow : Int32) (b_wear : Nat → Int32) : Nat → Int32 → (Nat → Int32) → (Nat → Int32) → (Nat → Int32) → (Nat → Int32) → (Nat → Int32) → Int32 → Int32 → Int32 → Int32 → Int32 → Int32 → Int32 → Option ((Nat → Int32) × (Nat → Int32) × (Nat → Int32) × (Nat → Int32) × (Nat → Int32) × Int32 × Int32 × Int32 × Int32 × Int32 × Int32 × Int32)
  | 0, _, _, _, _, _, _, _, _, _, _, _, _, _ => none
  | n + 1, x3, t_water_width, t_water_comes, t_water_depth, t_water_spill, t_water_harmAt, t_water_below, t_water_allHarm, t_water_spilling, t_count, t_fewest, t_shortest, t_shortestSum =>
    (if (1 <<< (a_ropes &&& 31)) ≤ x3 then
      k_66 t_water_width t_water_comes t_water_depth t_water_spill t_water_harmAt t_water_below t_water_allHarm t_water_spilling t_count t_fewest t_shortest t_shortestSum
    else
      (if (x3 &&& b_burst) = 0 then
        (f_X1_holds x3 t_water_width t_water_comes t_water_depth t_water_spill t_water_harmAt t_water_below t_water_allHarm t_water_spilling a_tape a_reaches a_ropes a_kind a_wide a_bank a_ropeAt a_pulls a_bears b_flow b_wear).bind fun o3 => (if o3.1 = 0 then
          f_X1_search_L25 k_66 a_tape a_reaches a_ropes a_kind a_wide a_bank a_ropeAt a_pulls a_bears b_burst b_flow b_wear n (x3 + 1) o3.2.1 o3.2.2.1 o3.2.2.2.1 o3.2.2.2.2.1 o3.2.2.2.2.2.1 o3.2.2.2.2.2.2.1 o3.2.2.2.2.2.2.2.1 o3.2.2.2.2.2.2.2.2 t_count t_fewest t_shortest t_shortestSum
        else
          (f_X1_take x3 o3.2.1 t_count t_fewest t_shortest t_shortestSum a_reaches a_ropes a_ropeAt).bind fun o5 =>f_X1_search_L25 k_66 a_tape a_reaches a_ropes a_kind a_wide a_bank a_ropeAt a_pulls a_bears b_burst b_flow b_wear n (x3 + 1) o3.2.1 o3.2.2.1 o3.2.2.2.1 o3.2.2.2.2.1 o3.2.2.2.2.2.1 o3.2.2.2.2.2.2.1 o3.2.2.2.2.2.2.2.1 o3.2.2.2.2.2.2.2.2 o5.1 o5.2.1 o5.2.2.1 o5.2.2.2)
      else
        f_X1_search_L25 k_66 a_tape a_reaches a_ropes a_kind a_wide a_bank a_ropeAt a_pulls a_bears b_burst b_flow b_wear n (x3 + 1) t_water_width t_water_comes t_water_depth t_water_spill t_water_harmAt t_water_below t_water_allHarm t_water_spilling t_count t_fewest t_shortest t_shortestSum))
noncomputable def f_X1_search (t_water_width : Nat → Int32) (t_water_comes : Nat → Int32) (t_water_depth : Nat → Int32) (t_water_spill : Nat → Int32) (t_water_harmAt : Nat → Int32) (t_water_below : Int32) (t_water_allHarm : Int32) (t_water_spilling : Int32) (t_count : Int32) (t_fewest : Int32) (t_shortest : Int32) (t_shortestSum : Int32) (a_tape : Int32) (a_reaches : Int32) (a_ropes : Int32) (a_kind : Nat → Int32) (a_wide : Nat → Int32) (a_bank : Nat → Int32) (a_ropeAt : Nat → Int32) (a_pulls : Nat → Int32) (a_bears : Nat → Int32) (b_burst : Int32) (b_flow : Int32) (b_wear : Nat → Int32) : Option ((Nat → Int32) × (Nat → Int32) × (Nat → Int32) × (Nat → Int32) × (Nat → Int32) × Int32 × Int32 × Int32 × Int32 × Int32 × Int32 × Int32) :=
  f_X1_search_L25 (fun t_water_width_25 t_water_comes_25 t_water_depth_25 t_water_spill_25 t_water_harmAt_25 t_water_below_25 t_water_allHarm_25 t_water_spilling_25 t_count_25 t_fewest_25 t_shortest_25 t_shortestSum_25 =>
    some (t_water_width_25, t_water_comes_25, t_water_depth_25, t_water_spill_25, t_water_harmAt_25, t_water_below_25, t_water_allHarm_25, t_water_spilling_25, t_count_25, t_fewest_25, t_shortest_25, t_shortestSum_25)) a_tape a_reaches a_ropes a_kind a_wide a_bank a_ropeAt a_pulls a_bears b_burst b_flow b_wear 2000 0 t_water_width t_water_comes t_water_depth t_water_spill t_water_harmAt t_water_below t_water_allHarm t_water_spilling 0 ((-2)) ((-2)) ((-2))
set_option maxHeartbeats 4000000 in
set_option maxRecDepth 100000 in
theorem w_X1_search_L25 {p : Program} {l : Launch} {e : Env} {s : State} {m : MethodId} {args : Array Value} {below : List Frame} {meth : Method} {c : Code} {A : Nat → Prop} {G : mx_G} (X : mx_X p s m args meth c RX1 "search" cX1_search 4 none G) (q_t : Nat) (q_t_water : Nat) (q_t_water_width : Nat) (q_t_water_comes : Nat) (q_t_water_depth : Nat) (q_t_water_spill : Nat) (q_t_water_harmAt : Nat) (q_a : Nat) (q_a_kind : Nat) (q_a_wide : Nat) (q_a_bank : Nat) (q_a_ropeAt : Nat) (q_a_pulls : Nat) (q_a_bears : Nat) (q_b : Nat) (q_b_wear : Nat) (v_t_changed : Value) (v_t_changedHarm : Value) (v_a_flow : Value) (v_a_hands : Value) (v_a_boats : Value) (v_a_muds : Value) (v_a_loose : Value) (v_a_mud : Value) (v_a_strong : Value) (v_a_boatWide : Value) (v_a_boatDeep : Value) (v_b_laced : Value) (v_b_seed : Value) (a_tape : Int32) (a_reaches : Int32) (a_ropes : Int32) (a_kind : Nat → Int32) (a_wide : Nat → Int32) (a_bank : Nat → Int32) (a_ropeAt : Nat → Int32) (a_pulls : Nat → Int32) (a_bears : Nat → Int32) (b_burst : Int32) (b_flow : Int32) (b_wear : Nat → Int32)  (out : (Nat → Int32) × (Nat → Int32) × (Nat → Int32) × (Nat → Int32) × (Nat → Int32) × Int32 × Int32 × Int32 × Int32 × Int32 × Int32 × Int32) (k_66 : (Nat → Int32) → (Nat → Int32) → (Nat → Int32) → (Nat → Int32) → (Nat → Int32) → Int32 → Int32 → Int32 → Int32 → Int32 → Int32 → Int32 → Option ((Nat → Int32) × (Nat → Int32) × (Nat → Int32) × (Nat → Int32) × (Nat → Int32) × Int32 × Int32 × Int32 × Int32 × Int32 × Int32 × Int32)) (hk_66 : ∀ (t_water_width : Nat → Int32) (t_water_comes : Nat → Int32) (t_water_depth : Nat → Int32) (t_water_spill : Nat → Int32) (t_water_harmAt : Nat → Int32) (t_water_below : Int32) (t_water_allHarm : Int32) (t_water_spilling : Int32) (t_count : Int32) (t_fewest : Int32) (t_shortest : Int32) (t_shortestSum : Int32) (H : Heap) (locs : List Loc) (ls : Array Slot), k_66 t_water_width t_water_comes t_water_depth t_water_spill t_water_harmAt t_water_below t_water_allHarm t_water_spilling t_count t_fewest t_shortest t_shortestSum = some out → mx_W G s A [xO q_t 1 [.ref q_t_water, .int t_count, .int t_fewest, .int t_shortest, .int t_shortestSum, v_t_changed, v_t_changedHarm], xO q_t_water 8 [.ref q_t_water_width, .ref q_t_water_comes, .ref q_t_water_depth, .ref q_t_water_spill, .ref q_t_water_harmAt, .int t_water_below, .int t_water_allHarm, .int t_water_spilling], xI G q_t_water_width 6 t_water_width, xI G q_t_water_comes 6 t_water_comes, xI G q_t_water_depth 6 t_water_depth, xI G q_t_water_spill 6 t_water_spill, xI G q_t_water_harmAt 6 t_water_harmAt, xO q_a 6 [v_a_flow, .int a_tape, .int a_reaches, .int a_ropes, v_a_hands, v_a_boats, v_a_muds, v_a_loose, .ref q_a_kind, .ref q_a_wide, .ref q_a_bank, v_a_mud, .ref q_a_ropeAt, .ref q_a_pulls, .ref q_a_bears, v_a_strong, v_a_boatWide, v_a_boatDeep], xI G q_a_kind 6 a_kind, xI G q_a_wide 6 a_wide, xI G q_a_bank 6 a_bank, xI G q_a_ropeAt 7 a_ropeAt, xI G q_a_pulls 7 a_pulls, xI G q_a_bears 7 a_bears, xO q_b 7 [v_b_laced, .int b_burst, .int b_flow, v_b_seed, .ref q_b_wear], xI G q_b_wear 7 b_wear] H locs → lv_has ls 4 [] → W p l e rm_X1_search s m args below meth c H locs 0 0 (MQ below (mx_Q G none [xO q_t 1 [.ref q_t_water, .int out.2.2.2.2.2.2.2.2.1, .int out.2.2.2.2.2.2.2.2.2.1, .int out.2.2.2.2.2.2.2.2.2.2.1, .int out.2.2.2.2.2.2.2.2.2.2.2, v_t_changed, v_t_changedHarm], xO q_t_water 8 [.ref q_t_water_width, .ref q_t_water_comes, .ref q_t_water_depth, .ref q_t_water_spill, .ref q_t_water_harmAt, .int out.2.2.2.2.2.1, .int out.2.2.2.2.2.2.1, .int out.2.2.2.2.2.2.2.1], xI G q_t_water_width 6 out.1, xI G q_t_water_comes 6 out.2.1, xI G q_t_water_depth 6 out.2.2.1, xI G q_t_water_spill 6 out.2.2.2.1, xI G q_t_water_harmAt 6 out.2.2.2.2.1, xO q_a 6 [v_a_flow, .int a_tape, .int a_reaches, .int a_ropes, v_a_hands, v_a_boats, v_a_muds, v_a_loose, .ref q_a_kind, .ref q_a_wide, .ref q_a_bank, v_a_mud, .ref q_a_ropeAt, .ref q_a_pulls, .ref q_a_bears, v_a_strong, v_a_boatWide, v_a_boatDeep], xI G q_a_kind 6 a_kind, xI G q_a_wide 6 a_wide, xI G q_a_bank 6 a_bank, xI G q_a_ropeAt 7 a_ropeAt, xI G q_a_pulls 7 a_pulls, xI G q_a_bears 7 a_bears, xO q_b 7 [v_b_laced, .int b_burst, .int b_flow, v_b_seed, .ref q_b_wear], xI G q_b_wear 7 b_wear] A) args s 0 0 A) (F0 m 66 ls [])) : ∀ (n : Nat) (x3 : Int32) (t_water_width : Nat → Int32) (t_water_comes : Nat → Int32) (t_water_depth : Nat → Int32) (t_water_spill : Nat → Int32) (t_water_harmAt : Nat → Int32) (t_water_below : Int32) (t_water_allHarm : Int32) (t_water_spilling : Int32) (t_count : Int32) (t_fewest : Int32) (t_shortest : Int32) (t_shortestSum : Int32) (H : Heap) (locs : List Loc) (ls : Array Slot), f_X1_search_L25 k_66 a_tape a_reaches a_ropes a_kind a_wide a_bank a_ropeAt a_pulls a_bears b_burst b_flow b_wear n x3 t_water_width t_water_comes t_water_depth t_water_spill t_water_harmAt t_water_below t_water_allHarm t_water_spilling t_count t_fewest t_shortest t_shortestSum = some out → mx_W G s A [xO q_t 1 [.ref q_t_water, .int t_count, .int t_fewest, .int t_shortest, .int t_shortestSum, v_t_changed, v_t_changedHarm], xO q_t_water 8 [.ref q_t_water_width, .ref q_t_water_comes, .ref q_t_water_depth, .ref q_t_water_spill, .ref q_t_water_harmAt, .int t_water_below, .int t_water_allHarm, .int t_water_spilling], xI G q_t_water_width 6 t_water_width, xI G q_t_water_comes 6 t_water_comes, xI G q_t_water_depth 6 t_water_depth, xI G q_t_water_spill 6 t_water_spill, xI G q_t_water_harmAt 6 t_water_harmAt, xO q_a 6 [v_a_flow, .int a_tape, .int a_reaches, .int a_ropes, v_a_hands, v_a_boats, v_a_muds, v_a_loose, .ref q_a_kind, .ref q_a_wide, .ref q_a_bank, v_a_mud, .ref q_a_ropeAt, .ref q_a_pulls, .ref q_a_bears, v_a_strong, v_a_boatWide, v_a_boatDeep], xI G q_a_kind 6 a_kind, xI G q_a_wide 6 a_wide, xI G q_a_bank 6 a_bank, xI G q_a_ropeAt 7 a_ropeAt, xI G q_a_pulls 7 a_pulls, xI G q_a_bears 7 a_bears, xO q_b 7 [v_b_laced, .int b_burst, .int b_flow, v_b_seed, .ref q_b_wear], xI G q_b_wear 7 b_wear] H locs → lv_has ls 4 [(0, .ref q_t), (1, .ref q_a), (2, .ref q_b), (3, .int x3)] → W p l e rm_X1_search s m args below meth c H locs 0 0 (MQ below (mx_Q G none [xO q_t 1 [.ref q_t_water, .int out.2.2.2.2.2.2.2.2.1, .int out.2.2.2.2.2.2.2.2.2.1, .int out.2.2.2.2.2.2.2.2.2.2.1, .int out.2.2.2.2.2.2.2.2.2.2.2, v_t_changed, v_t_changedHarm], xO q_t_water 8 [.ref q_t_water_width, .ref q_t_water_comes, .ref q_t_water_depth, .ref q_t_water_spill, .ref q_t_water_harmAt, .int out.2.2.2.2.2.1, .int out.2.2.2.2.2.2.1, .int out.2.2.2.2.2.2.2.1], xI G q_t_water_width 6 out.1, xI G q_t_water_comes 6 out.2.1, xI G q_t_water_depth 6 out.2.2.1, xI G q_t_water_spill 6 out.2.2.2.1, xI G q_t_water_harmAt 6 out.2.2.2.2.1, xO q_a 6 [v_a_flow, .int a_tape, .int a_reaches, .int a_ropes, v_a_hands, v_a_boats, v_a_muds, v_a_loose, .ref q_a_kind, .ref q_a_wide, .ref q_a_bank, v_a_mud, .ref q_a_ropeAt, .ref q_a_pulls, .ref q_a_bears, v_a_strong, v_a_boatWide, v_a_boatDeep], xI G q_a_kind 6 a_kind, xI G q_a_wide 6 a_wide, xI G q_a_bank 6 a_bank, xI G q_a_ropeAt 7 a_ropeAt, xI G q_a_pulls 7 a_pulls, xI G q_a_bears 7 a_bears, xO q_b 7 [v_b_laced, .int b_burst, .int b_flow, v_b_seed, .ref q_b_wear], xI G q_b_wear 7 b_wear] A) args s 0 0 A) (F0 m 25 ls []) := by
  obtain ⟨hx, hb, hml, hown, hts, hKN, -⟩ := id X
  intro n
  induction n with
  | zero => intro x3 t_water_width t_water_comes t_water_depth t_water_spill t_water_harmAt t_water_below t_water_allHarm t_water_spilling t_count t_fewest t_shortest t_shortestSum H locs ls hm hW hl; exact absurd (show none = some out from hm) (fun h => by cases h)
  | succ n ih =>
    intro x3 t_water_width t_water_comes t_water_depth t_water_spill t_water_harmAt t_water_below t_water_allHarm t_water_spilling t_count t_fewest t_shortest t_shortestSum H locs ls hm hW hl
    rw [f_X1_search_L25] at hm
    refine lv_iload_n hx hb dX1_search_25 rfl (lv_at hl 3 rfl) ?_
    refine lv_iconst (v := 1) hx hb dX1_search_26 (by decide) ?_
    refine lv_aload_n hx hb dX1_search_27 rfl (lv_at hl 1 rfl) ?_
    refine mx_get (C := RX6) (T := TX6) (N := 18) (ci := 6) X hW 7 rfl rfl tbc_X6 3 (by decide) kw_872 rfl dX1_search_28 ?_
    refine lv_ishl hx hb dX1_search_31 ?_
    refine lv_icmp_ge (tgt := 66) hx hb dX1_search_32 (by decide) (fun c1 => ?_) (fun c1 => ?_)
    · have hm := (if_pos c1).symm.trans hm
      exact hk_66 t_water_width t_water_comes t_water_depth t_water_spill t_water_harmAt t_water_below t_water_allHarm t_water_spilling t_count t_fewest t_shortest t_shortestSum _ _ _ hm hW (lv_sub hl [] rfl)
    · have hm := (if_neg c1).symm.trans hm
      refine lv_iload_n hx hb dX1_search_35 rfl (lv_at hl 3 rfl) ?_
      refine lv_aload_n hx hb dX1_search_36 rfl (lv_at hl 2 rfl) ?_
      refine mx_get (C := RX7) (T := TX7) (N := 5) (ci := 7) X hW 14 rfl rfl tbc_X7 1 (by decide) kw_873 rfl dX1_search_37 ?_
      refine lv_iand hx hb dX1_search_40 ?_
      refine lv_if_ne (tgt := 60) hx hb dX1_search_41 (by decide) (fun c2 => ?_) (fun c2 => ?_)
      · have hm := (if_neg c2).symm.trans hm
        refine lv_iinc (v := x3 + 1) (lv' := [(3, .int (x3 + 1)), (0, .ref q_t), (1, .ref q_a), (2, .ref q_b)]) hx hb dX1_search_60 hl (k := 3) rfl rfl (by decide) rfl (fun ls hl => ?_)
        refine lv_goto (tgt := 25) hx hb dX1_search_63 (by decide) ?_
        exact ih (x3 + 1) t_water_width t_water_comes t_water_depth t_water_spill t_water_harmAt t_water_below t_water_allHarm t_water_spilling t_count t_fewest t_shortest t_shortestSum _ _ _ hm hW (lv_sub hl [1, 2, 3, 0] rfl)
      · have hm := (if_pos c2).symm.trans hm
        refine lv_aload_n hx hb dX1_search_44 rfl (lv_at hl 0 rfl) ?_
        refine lv_aload_n hx hb dX1_search_45 rfl (lv_at hl 1 rfl) ?_
        refine lv_aload_n hx hb dX1_search_46 rfl (lv_at hl 2 rfl) ?_
        refine lv_iload_n hx hb dX1_search_47 rfl (lv_at hl 3 rfl) ?_
        obtain ⟨o3, ho3, hm⟩ := bd_s hm
        refine mx_callV (C := RX1) (T := TX1) (N := 7) (ci := 1) (n := 3) (As := [.ref q_a, .ref q_b, .int x3]) (rest := []) (st1 := [.int o3.1]) (w2 := [xO q_t 1 [.ref q_t_water, .int t_count, .int t_fewest, .int t_shortest, .int t_shortestSum, v_t_changed, v_t_changedHarm], xO q_t_water 8 [.ref q_t_water_width, .ref q_t_water_comes, .ref q_t_water_depth, .ref q_t_water_spill, .ref q_t_water_harmAt, .int o3.2.2.2.2.2.2.1, .int o3.2.2.2.2.2.2.2.1, .int o3.2.2.2.2.2.2.2.2], xI G q_t_water_width 6 o3.2.1, xI G q_t_water_comes 6 o3.2.2.1, xI G q_t_water_depth 6 o3.2.2.2.1, xI G q_t_water_spill 6 o3.2.2.2.2.1, xI G q_t_water_harmAt 6 o3.2.2.2.2.2.1, xO q_a 6 [v_a_flow, .int a_tape, .int a_reaches, .int a_ropes, v_a_hands, v_a_boats, v_a_muds, v_a_loose, .ref q_a_kind, .ref q_a_wide, .ref q_a_bank, v_a_mud, .ref q_a_ropeAt, .ref q_a_pulls, .ref q_a_bears, v_a_strong, v_a_boatWide, v_a_boatDeep], xI G q_a_kind 6 a_kind, xI G q_a_wide 6 a_wide, xI G q_a_bank 6 a_bank, xI G q_a_ropeAt 7 a_ropeAt, xI G q_a_pulls 7 a_pulls, xI G q_a_bears 7 a_bears, xO q_b 7 [v_b_laced, .int b_burst, .int b_flow, v_b_seed, .ref q_b_wear], xI G q_b_wear 7 b_wear]) X hW hl.1 (c_X1_holds l G q_t q_t_water q_t_water_width q_t_water_comes q_t_water_depth q_t_water_spill q_t_water_harmAt q_a q_a_kind q_a_wide q_a_bank q_a_ropeAt q_a_pulls q_a_bears q_b q_b_wear (.int t_count) (.int t_fewest) (.int t_shortest) (.int t_shortestSum) (v_t_changed) (v_t_changedHarm) (v_a_flow) (v_a_hands) (v_a_boats) (v_a_muds) (v_a_loose) (v_a_mud) (v_a_strong) (v_a_boatWide) (v_a_boatDeep) (v_b_laced) (.int b_burst) (v_b_seed) t_water_width t_water_comes t_water_depth t_water_spill t_water_harmAt t_water_below t_water_allHarm t_water_spilling a_tape a_reaches a_ropes a_kind a_wide a_bank a_ropeAt a_pulls a_bears b_flow b_wear x3 o3 ho3) 0 rfl rfl kw_874 kw_875 kw_876 kw_31 kw_877 (by decide +kernel) ⟨rfl, rfl⟩ ⟨by decide, by decide⟩ ⟨Nat.zero_le _, Nat.zero_le _⟩ [0, 1, 2, 3, 4, 5, 6, 7, 8, 9, 10, 11, 12, 13, 14, 15] (by decide) rfl rfl rfl rfl rfl rfl (Nat.le_of_ble_eq_true rfl) rfl dX1_search_48 (fun H locs hW => ?_)
        refine lv_if_eq (tgt := 60) hx hb dX1_search_51 (by decide) (fun c4 => ?_) (fun c4 => ?_)
        · have hm := (if_pos c4).symm.trans hm
          refine lv_iinc (v := x3 + 1) (lv' := [(3, .int (x3 + 1)), (0, .ref q_t), (1, .ref q_a), (2, .ref q_b)]) hx hb dX1_search_60 hl (k := 3) rfl rfl (by decide) rfl (fun ls hl => ?_)
          refine lv_goto (tgt := 25) hx hb dX1_search_63 (by decide) ?_
          exact ih (x3 + 1) o3.2.1 o3.2.2.1 o3.2.2.2.1 o3.2.2.2.2.1 o3.2.2.2.2.2.1 o3.2.2.2.2.2.2.1 o3.2.2.2.2.2.2.2.1 o3.2.2.2.2.2.2.2.2 t_count t_fewest t_shortest t_shortestSum _ _ _ hm hW (lv_sub hl [1, 2, 3, 0] rfl)
        · have hm := (if_neg c4).symm.trans hm
          refine lv_aload_n hx hb dX1_search_54 rfl (lv_at hl 0 rfl) ?_
          refine lv_aload_n hx hb dX1_search_55 rfl (lv_at hl 1 rfl) ?_
          refine lv_iload_n hx hb dX1_search_56 rfl (lv_at hl 3 rfl) ?_
          obtain ⟨o5, ho5, hm⟩ := bd_s hm
          refine mx_callV (C := RX1) (T := TX1) (N := 7) (ci := 1) (n := 2) (As := [.ref q_a, .int x3]) (rest := []) (st1 := []) (w2 := [xO q_t 1 [.ref q_t_water, .int o5.1, .int o5.2.1, .int o5.2.2.1, .int o5.2.2.2, v_t_changed, v_t_changedHarm], xO q_t_water 8 [.ref q_t_water_width, .ref q_t_water_comes, .ref q_t_water_depth, .ref q_t_water_spill, .ref q_t_water_harmAt, .int o3.2.2.2.2.2.2.1, .int o3.2.2.2.2.2.2.2.1, .int o3.2.2.2.2.2.2.2.2], xI G q_t_water_width 6 o3.2.1, xI G q_t_water_comes 6 o3.2.2.1, xI G q_t_water_depth 6 o3.2.2.2.1, xI G q_t_water_spill 6 o3.2.2.2.2.1, xI G q_t_water_harmAt 6 o3.2.2.2.2.2.1, xO q_a 6 [v_a_flow, .int a_tape, .int a_reaches, .int a_ropes, v_a_hands, v_a_boats, v_a_muds, v_a_loose, .ref q_a_kind, .ref q_a_wide, .ref q_a_bank, v_a_mud, .ref q_a_ropeAt, .ref q_a_pulls, .ref q_a_bears, v_a_strong, v_a_boatWide, v_a_boatDeep], xI G q_a_kind 6 a_kind, xI G q_a_wide 6 a_wide, xI G q_a_bank 6 a_bank, xI G q_a_ropeAt 7 a_ropeAt, xI G q_a_pulls 7 a_pulls, xI G q_a_bears 7 a_bears, xO q_b 7 [v_b_laced, .int b_burst, .int b_flow, v_b_seed, .ref q_b_wear], xI G q_b_wear 7 b_wear]) X hW hl.1 (c_X1_take l G q_t q_t_water q_t_water_width q_a q_a_ropeAt (v_t_changed) (v_t_changedHarm) (.ref q_t_water_comes) (.ref q_t_water_depth) (.ref q_t_water_spill) (.ref q_t_water_harmAt) (.int o3.2.2.2.2.2.2.1) (.int o3.2.2.2.2.2.2.2.1) (.int o3.2.2.2.2.2.2.2.2) (v_a_flow) (.int a_tape) (v_a_hands) (v_a_boats) (v_a_muds) (v_a_loose) (.ref q_a_kind) (.ref q_a_wide) (.ref q_a_bank) (v_a_mud) (.ref q_a_pulls) (.ref q_a_bears) (v_a_strong) (v_a_boatWide) (v_a_boatDeep) o3.2.1 t_count t_fewest t_shortest t_shortestSum a_reaches a_ropes a_ropeAt x3 o5 ho5) 0 rfl rfl kw_883 kw_884 kw_885 kw_31 kw_886 (by decide +kernel) ⟨rfl, rfl⟩ ⟨by decide, by decide⟩ ⟨Nat.zero_le _, Nat.zero_le _⟩ [0, 1, 2, 7, 11] (by decide) rfl rfl rfl rfl rfl rfl (Nat.le_of_ble_eq_true rfl) rfl dX1_search_57 (fun H locs hW => ?_)
          refine lv_iinc (v := x3 + 1) (lv' := [(3, .int (x3 + 1)), (0, .ref q_t), (1, .ref q_a), (2, .ref q_b)]) hx hb dX1_search_60 hl (k := 3) rfl rfl (by decide) rfl (fun ls hl => ?_)
          refine lv_goto (tgt := 25) hx hb dX1_search_63 (by decide) ?_
          exact ih (x3 + 1) o3.2.1 o3.2.2.1 o3.2.2.2.1 o3.2.2.2.2.1 o3.2.2.2.2.2.1 o3.2.2.2.2.2.2.1 o3.2.2.2.2.2.2.2.1 o3.2.2.2.2.2.2.2.2 o5.1 o5.2.1 o5.2.2.1 o5.2.2.2 _ _ _ hm hW (lv_sub hl [1, 2, 3, 0] rfl)
set_option maxHeartbeats 4000000 in
set_option maxRecDepth 100000 in
theorem c_X1_search (l : Launch) (G : mx_G) (q_t : Nat) (q_t_water : Nat) (q_t_water_width : Nat) (q_t_water_comes : Nat) (q_t_water_depth : Nat) (q_t_water_spill : Nat) (q_t_water_harmAt : Nat) (q_a : Nat) (q_a_kind : Nat) (q_a_wide : Nat) (q_a_bank : Nat) (q_a_ropeAt : Nat) (q_a_pulls : Nat) (q_a_bears : Nat) (q_b : Nat) (q_b_wear : Nat) (v_t_changed : Value) (v_t_changedHarm : Value) (v_a_flow : Value) (v_a_hands : Value) (v_a_boats : Value) (v_a_muds : Value) (v_a_loose : Value) (v_a_mud : Value) (v_a_strong : Value) (v_a_boatWide : Value) (v_a_boatDeep : Value) (v_b_laced : Value) (v_b_seed : Value) (t_water_width : Nat → Int32) (t_water_comes : Nat → Int32) (t_water_depth : Nat → Int32) (t_water_spill : Nat → Int32) (t_water_harmAt : Nat → Int32) (t_water_below : Int32) (t_water_allHarm : Int32) (t_water_spilling : Int32) (t_count : Int32) (t_fewest : Int32) (t_shortest : Int32) (t_shortestSum : Int32) (a_tape : Int32) (a_reaches : Int32) (a_ropes : Int32) (a_kind : Nat → Int32) (a_wide : Nat → Int32) (a_bank : Nat → Int32) (a_ropeAt : Nat → Int32) (a_pulls : Nat → Int32) (a_bears : Nat → Int32) (b_burst : Int32) (b_flow : Int32) (b_wear : Nat → Int32) (out : (Nat → Int32) × (Nat → Int32) × (Nat → Int32) × (Nat → Int32) × (Nat → Int32) × Int32 × Int32 × Int32 × Int32 × Int32 × Int32 × Int32) (hm : f_X1_search t_water_width t_water_comes t_water_depth t_water_spill t_water_harmAt t_water_below t_water_allHarm t_water_spilling t_count t_fewest t_shortest t_shortestSum a_tape a_reaches a_ropes a_kind a_wide a_bank a_ropeAt a_pulls a_bears b_burst b_flow b_wear = some out) : mx_C l yX1_search cX1_search 4 none rm_X1_search G [.ref q_t, .ref q_a, .ref q_b] [xO q_t 1 [.ref q_t_water, .int t_count, .int t_fewest, .int t_shortest, .int t_shortestSum, v_t_changed, v_t_changedHarm], xO q_t_water 8 [.ref q_t_water_width, .ref q_t_water_comes, .ref q_t_water_depth, .ref q_t_water_spill, .ref q_t_water_harmAt, .int t_water_below, .int t_water_allHarm, .int t_water_spilling], xI G q_t_water_width 6 t_water_width, xI G q_t_water_comes 6 t_water_comes, xI G q_t_water_depth 6 t_water_depth, xI G q_t_water_spill 6 t_water_spill, xI G q_t_water_harmAt 6 t_water_harmAt, xO q_a 6 [v_a_flow, .int a_tape, .int a_reaches, .int a_ropes, v_a_hands, v_a_boats, v_a_muds, v_a_loose, .ref q_a_kind, .ref q_a_wide, .ref q_a_bank, v_a_mud, .ref q_a_ropeAt, .ref q_a_pulls, .ref q_a_bears, v_a_strong, v_a_boatWide, v_a_boatDeep], xI G q_a_kind 6 a_kind, xI G q_a_wide 6 a_wide, xI G q_a_bank 6 a_bank, xI G q_a_ropeAt 7 a_ropeAt, xI G q_a_pulls 7 a_pulls, xI G q_a_bears 7 a_bears, xO q_b 7 [v_b_laced, .int b_burst, .int b_flow, v_b_seed, .ref q_b_wear], xI G q_b_wear 7 b_wear] none [xO q_t 1 [.ref q_t_water, .int out.2.2.2.2.2.2.2.2.1, .int out.2.2.2.2.2.2.2.2.2.1, .int out.2.2.2.2.2.2.2.2.2.2.1, .int out.2.2.2.2.2.2.2.2.2.2.2, v_t_changed, v_t_changedHarm], xO q_t_water 8 [.ref q_t_water_width, .ref q_t_water_comes, .ref q_t_water_depth, .ref q_t_water_spill, .ref q_t_water_harmAt, .int out.2.2.2.2.2.1, .int out.2.2.2.2.2.2.1, .int out.2.2.2.2.2.2.2.1], xI G q_t_water_width 6 out.1, xI G q_t_water_comes 6 out.2.1, xI G q_t_water_depth 6 out.2.2.1, xI G q_t_water_spill 6 out.2.2.2.1, xI G q_t_water_harmAt 6 out.2.2.2.2.1, xO q_a 6 [v_a_flow, .int a_tape, .int a_reaches, .int a_ropes, v_a_hands, v_a_boats, v_a_muds, v_a_loose, .ref q_a_kind, .ref q_a_wide, .ref q_a_bank, v_a_mud, .ref q_a_ropeAt, .ref q_a_pulls, .ref q_a_bears, v_a_strong, v_a_boatWide, v_a_boatDeep], xI G q_a_kind 6 a_kind, xI G q_a_wide 6 a_wide, xI G q_a_bank 6 a_bank, xI G q_a_ropeAt 7 a_ropeAt, xI G q_a_pulls 7 a_pulls, xI G q_a_bears 7 a_bears, xO q_b 7 [v_b_laced, .int b_burst, .int b_flow, v_b_seed, .ref q_b_wear], xI G q_b_wear 7 b_wear] := by
  refine mx_enter (own := RX1) (name := "search") (lv := [(0, .ref q_t), (1, .ref q_a), (2, .ref q_b)]) (by decide) rfl rfl (Nat.le_of_ble_eq_true rfl) rfl ?_
  intro p e s m args below meth c A ls X hW hl
  obtain ⟨hx, hb, hml, hown, hts, hKN, -⟩ := id X
  unfold f_X1_search at hm
  refine lv_aload_n hx hb dX1_search_0 rfl (lv_at hl 0 rfl) ?_
  refine lv_iconst (v := 0) hx hb dX1_search_1 (by decide) ?_
  refine mx_put (C := RX1) (T := TX1) (N := 7) (ci := 1) (w2 := [xO q_t 1 [.ref q_t_water, .int 0, .int t_fewest, .int t_shortest, .int t_shortestSum, v_t_changed, v_t_changedHarm], xO q_t_water 8 [.ref q_t_water_width, .ref q_t_water_comes, .ref q_t_water_depth, .ref q_t_water_spill, .ref q_t_water_harmAt, .int t_water_below, .int t_water_allHarm, .int t_water_spilling], xI G q_t_water_width 6 t_water_width, xI G q_t_water_comes 6 t_water_comes, xI G q_t_water_depth 6 t_water_depth, xI G q_t_water_spill 6 t_water_spill, xI G q_t_water_harmAt 6 t_water_harmAt, xO q_a 6 [v_a_flow, .int a_tape, .int a_reaches, .int a_ropes, v_a_hands, v_a_boats, v_a_muds, v_a_loose, .ref q_a_kind, .ref q_a_wide, .ref q_a_bank, v_a_mud, .ref q_a_ropeAt, .ref q_a_pulls, .ref q_a_bears, v_a_strong, v_a_boatWide, v_a_boatDeep], xI G q_a_kind 6 a_kind, xI G q_a_wide 6 a_wide, xI G q_a_bank 6 a_bank, xI G q_a_ropeAt 7 a_ropeAt, xI G q_a_pulls 7 a_pulls, xI G q_a_bears 7 a_bears, xO q_b 7 [v_b_laced, .int b_burst, .int b_flow, v_b_seed, .ref q_b_wear], xI G q_b_wear 7 b_wear]) X hW 0 rfl rfl tbc_X1 tyX1 tyX1_ok nmX1 1 (by decide) kw_868 rfl rfl rfl rfl (Nat.le_of_ble_eq_true rfl) rfl dX1_search_2 (fun H locs hW => ?_)
  refine lv_aload_n hx hb dX1_search_5 rfl (lv_at hl 0 rfl) ?_
  refine lv_bipush (v := (-2)) hx hb dX1_search_6 (by decide) ?_
  refine mx_put (C := RX1) (T := TX1) (N := 7) (ci := 1) (w2 := [xO q_t 1 [.ref q_t_water, .int 0, .int ((-2)), .int t_shortest, .int t_shortestSum, v_t_changed, v_t_changedHarm], xO q_t_water 8 [.ref q_t_water_width, .ref q_t_water_comes, .ref q_t_water_depth, .ref q_t_water_spill, .ref q_t_water_harmAt, .int t_water_below, .int t_water_allHarm, .int t_water_spilling], xI G q_t_water_width 6 t_water_width, xI G q_t_water_comes 6 t_water_comes, xI G q_t_water_depth 6 t_water_depth, xI G q_t_water_spill 6 t_water_spill, xI G q_t_water_harmAt 6 t_water_harmAt, xO q_a 6 [v_a_flow, .int a_tape, .int a_reaches, .int a_ropes, v_a_hands, v_a_boats, v_a_muds, v_a_loose, .ref q_a_kind, .ref q_a_wide, .ref q_a_bank, v_a_mud, .ref q_a_ropeAt, .ref q_a_pulls, .ref q_a_bears, v_a_strong, v_a_boatWide, v_a_boatDeep], xI G q_a_kind 6 a_kind, xI G q_a_wide 6 a_wide, xI G q_a_bank 6 a_bank, xI G q_a_ropeAt 7 a_ropeAt, xI G q_a_pulls 7 a_pulls, xI G q_a_bears 7 a_bears, xO q_b 7 [v_b_laced, .int b_burst, .int b_flow, v_b_seed, .ref q_b_wear], xI G q_b_wear 7 b_wear]) X hW 0 rfl rfl tbc_X1 tyX1 tyX1_ok nmX1 2 (by decide) kw_869 rfl rfl rfl rfl (Nat.le_of_ble_eq_true rfl) rfl dX1_search_8 (fun H locs hW => ?_)
  refine lv_aload_n hx hb dX1_search_11 rfl (lv_at hl 0 rfl) ?_
  refine lv_bipush (v := (-2)) hx hb dX1_search_12 (by decide) ?_
  refine mx_put (C := RX1) (T := TX1) (N := 7) (ci := 1) (w2 := [xO q_t 1 [.ref q_t_water, .int 0, .int ((-2)), .int ((-2)), .int t_shortestSum, v_t_changed, v_t_changedHarm], xO q_t_water 8 [.ref q_t_water_width, .ref q_t_water_comes, .ref q_t_water_depth, .ref q_t_water_spill, .ref q_t_water_harmAt, .int t_water_below, .int t_water_allHarm, .int t_water_spilling], xI G q_t_water_width 6 t_water_width, xI G q_t_water_comes 6 t_water_comes, xI G q_t_water_depth 6 t_water_depth, xI G q_t_water_spill 6 t_water_spill, xI G q_t_water_harmAt 6 t_water_harmAt, xO q_a 6 [v_a_flow, .int a_tape, .int a_reaches, .int a_ropes, v_a_hands, v_a_boats, v_a_muds, v_a_loose, .ref q_a_kind, .ref q_a_wide, .ref q_a_bank, v_a_mud, .ref q_a_ropeAt, .ref q_a_pulls, .ref q_a_bears, v_a_strong, v_a_boatWide, v_a_boatDeep], xI G q_a_kind 6 a_kind, xI G q_a_wide 6 a_wide, xI G q_a_bank 6 a_bank, xI G q_a_ropeAt 7 a_ropeAt, xI G q_a_pulls 7 a_pulls, xI G q_a_bears 7 a_bears, xO q_b 7 [v_b_laced, .int b_burst, .int b_flow, v_b_seed, .ref q_b_wear], xI G q_b_wear 7 b_wear]) X hW 0 rfl rfl tbc_X1 tyX1 tyX1_ok nmX1 3 (by decide) kw_870 rfl rfl rfl rfl (Nat.le_of_ble_eq_true rfl) rfl dX1_search_14 (fun H locs hW => ?_)
  refine lv_aload_n hx hb dX1_search_17 rfl (lv_at hl 0 rfl) ?_
  refine lv_bipush (v := (-2)) hx hb dX1_search_18 (by decide) ?_
  refine mx_put (C := RX1) (T := TX1) (N := 7) (ci := 1) (w2 := [xO q_t 1 [.ref q_t_water, .int 0, .int ((-2)), .int ((-2)), .int ((-2)), v_t_changed, v_t_changedHarm], xO q_t_water 8 [.ref q_t_water_width, .ref q_t_water_comes, .ref q_t_water_depth, .ref q_t_water_spill, .ref q_t_water_harmAt, .int t_water_below, .int t_water_allHarm, .int t_water_spilling], xI G q_t_water_width 6 t_water_width, xI G q_t_water_comes 6 t_water_comes, xI G q_t_water_depth 6 t_water_depth, xI G q_t_water_spill 6 t_water_spill, xI G q_t_water_harmAt 6 t_water_harmAt, xO q_a 6 [v_a_flow, .int a_tape, .int a_reaches, .int a_ropes, v_a_hands, v_a_boats, v_a_muds, v_a_loose, .ref q_a_kind, .ref q_a_wide, .ref q_a_bank, v_a_mud, .ref q_a_ropeAt, .ref q_a_pulls, .ref q_a_bears, v_a_strong, v_a_boatWide, v_a_boatDeep], xI G q_a_kind 6 a_kind, xI G q_a_wide 6 a_wide, xI G q_a_bank 6 a_bank, xI G q_a_ropeAt 7 a_ropeAt, xI G q_a_pulls 7 a_pulls, xI G q_a_bears 7 a_bears, xO q_b 7 [v_b_laced, .int b_burst, .int b_flow, v_b_seed, .ref q_b_wear], xI G q_b_wear 7 b_wear]) X hW 0 rfl rfl tbc_X1 tyX1 tyX1_ok nmX1 4 (by decide) kw_871 rfl rfl rfl rfl (Nat.le_of_ble_eq_true rfl) rfl dX1_search_20 (fun H locs hW => ?_)
  refine lv_iconst (v := 0) hx hb dX1_search_23 (by decide) ?_
  refine lv_istore_n (lv' := [(3, .int 0), (0, .ref q_t), (1, .ref q_a), (2, .ref q_b)]) hx hb dX1_search_24 rfl hl (by decide) rfl (fun ls hl => ?_)
  refine w_X1_search_L25 X q_t q_t_water q_t_water_width q_t_water_comes q_t_water_depth q_t_water_spill q_t_water_harmAt q_a q_a_kind q_a_wide q_a_bank q_a_ropeAt q_a_pulls q_a_bears q_b q_b_wear (v_t_changed) (v_t_changedHarm) (v_a_flow) (v_a_hands) (v_a_boats) (v_a_muds) (v_a_loose) (v_a_mud) (v_a_strong) (v_a_boatWide) (v_a_boatDeep) (v_b_laced) (v_b_seed) a_tape a_reaches a_ropes a_kind a_wide a_bank a_ropeAt a_pulls a_bears b_burst b_flow b_wear out _ (fun t_water_width_25 t_water_comes_25 t_water_depth_25 t_water_spill_25 t_water_harmAt_25 t_water_below_25 t_water_allHarm_25 t_water_spilling_25 t_count_25 t_fewest_25 t_shortest_25 t_shortestSum_25 H locs ls hm hW hl => ?_) _ 0 t_water_width t_water_comes t_water_depth t_water_spill t_water_harmAt t_water_below t_water_allHarm t_water_spilling 0 ((-2)) ((-2)) ((-2)) _ _ _ hm hW (lv_sub hl [1, 2, 3, 0] rfl)
  obtain rfl := Option.some.inj hm
  exact mx_vret X hW dX1_search_66

abbrev rm_X1_searchChange : Room := { frames := 4, cells := 0, slots := 0, locals := 90 }
noncomputable def f_X1_searchChange_L39 (k_117 : (Nat → Int32) → (Nat → Int32) → (Nat → Int32) → (Nat → Int32) → (Nat → Int32) → Int32 → Int32 → Int32 → Int32 → Int32 → Option ((Nat → Int32) × (Nat → Int32) × (Nat → Int32) × (Nat → Int32) × (Nat → Int32) × Int32 × Int32 × Int32 × Int32 × Int32)) (a_reaches : Int32) (a_ropes : Int32) (a_kind : Nat → Int32) (a_wide : Nat → Int32) (a_bank : Nat → Int32) (a_ropeAt : Nat → Int32) (a_pulls : Nat → Int32) (b_laced : Int32) (b_burst : Int32) (b_flow : Int32) : Nat → Int32 → Int32 → (Nat → Int32) → (Nat → Int32) → (Nat → Int32) → (Nat → Int32) → (Nat → Int32) → Int32 → Int32 → Int32 → Int32 → Int32 → Option ((Nat → Int32) × (Nat → Int32) × (Nat → Int32) × (Nat → Int32) × (Nat → Int32) × Int32 × Int32 × Int32 × Int32 × Int32)
  | 0, _, _, _, _, _, _, _, _, _, _, _, _ => none
  | n + 1, x3, x4, t_water_width, t_water_comes, t_water_depth, t_water_spill, t_water_harmAt, t_water_below, t_water_allHarm, t_water_spilling, t_changed, t_changedHarm =>
    (if a_ropes ≤ x4 then
      k_117 t_water_width t_water_comes t_water_depth t_water_spill t_water_harmAt t_water_below t_water_allHarm t_water_spilling t_changed t_changedHarm
    else
      (f_X10_isIn b_burst x4).bind fun o3 => (if o3 = 0 then
        (f_X8_run (b_laced ^^^ (1 <<< (x4 &&& 31))) b_flow t_water_width t_water_comes t_water_depth t_water_spill t_water_harmAt t_water_below t_water_allHarm t_water_spilling a_reaches a_ropes a_kind a_wide a_bank a_ropeAt a_pulls).bind fun o5 => (if x3 ≤ o5.2.2.2.2.2.2.1 then
          f_X1_searchChange_L39 k_117 a_reaches a_ropes a_kind a_wide a_bank a_ropeAt a_pulls b_laced b_burst b_flow n x3 (x4 + 1) o5.1 o5.2.1 o5.2.2.1 o5.2.2.2.1 o5.2.2.2.2.1 o5.2.2.2.2.2.1 o5.2.2.2.2.2.2.1 o5.2.2.2.2.2.2.2 t_changed t_changedHarm
        else
          f_X1_searchChange_L39 k_117 a_reaches a_ropes a_kind a_wide a_bank a_ropeAt a_pulls b_laced b_burst b_flow n o5.2.2.2.2.2.2.1 (x4 + 1) o5.1 o5.2.1 o5.2.2.1 o5.2.2.2.1 o5.2.2.2.2.1 o5.2.2.2.2.2.1 o5.2.2.2.2.2.2.1 o5.2.2.2.2.2.2.2 x4 o5.2.2.2.2.2.2.1)
      else
        f_X1_searchChange_L39 k_117 a_reaches a_ropes a_kind a_wide a_bank a_ropeAt a_pulls b_laced b_burst b_flow n x3 (x4 + 1) t_water_width t_water_comes t_water_depth t_water_spill t_water_harmAt t_water_below t_water_allHarm t_water_spilling t_changed t_changedHarm))
noncomputable def f_X1_searchChange (t_water_width : Nat → Int32) (t_water_comes : Nat → Int32) (t_water_depth : Nat → Int32) (t_water_spill : Nat → Int32) (t_water_harmAt : Nat → Int32) (t_water_below : Int32) (t_water_allHarm : Int32) (t_water_spilling : Int32) (t_changed : Int32) (t_changedHarm : Int32) (a_reaches : Int32) (a_ropes : Int32) (a_kind : Nat → Int32) (a_wide : Nat → Int32) (a_bank : Nat → Int32) (a_ropeAt : Nat → Int32) (a_pulls : Nat → Int32) (b_laced : Int32) (b_burst : Int32) (b_flow : Int32) : Option ((Nat → Int32) × (Nat → Int32) × (Nat → Int32) × (Nat → Int32) × (Nat → Int32) × Int32 × Int32 × Int32 × Int32 × Int32) :=
  (f_X8_run b_laced b_flow t_water_width t_water_comes t_water_depth t_water_spill t_water_harmAt t_water_below t_water_allHarm t_water_spilling a_reaches a_ropes a_kind a_wide a_bank a_ropeAt a_pulls).bind fun o1 => f_X1_searchChange_L39 (fun t_water_width_39 t_water_comes_39 t_water_depth_39 t_water_spill_39 t_water_harmAt_39 t_water_below_39 t_water_allHarm_39 t_water_spilling_39 t_changed_39 t_changedHarm_39 =>
    some (t_water_width_39, t_water_comes_39, t_water_depth_39, t_water_spill_39, t_water_harmAt_39, t_water_below_39, t_water_allHarm_39, t_water_spilling_39, t_changed_39, t_changedHarm_39)) a_reaches a_ropes a_kind a_wide a_bank a_ropeAt a_pulls b_laced b_burst b_flow 2000 o1.2.2.2.2.2.2.1 0 o1.1 o1.2.1 o1.2.2.1 o1.2.2.2.1 o1.2.2.2.2.1 o1.2.2.2.2.2.1 o1.2.2.2.2.2.2.1 o1.2.2.2.2.2.2.2 ((-2)) ((-2))
set_option maxHeartbeats 4000000 in
set_option maxRecDepth 100000 in
theorem w_X1_searchChange_L39 {p : Program} {l : Launch} {e : Env} {s : State} {m : MethodId} {args : Array Value} {below : List Frame} {meth : Method} {c : Code} {A : Nat → Prop} {G : mx_G} (X : mx_X p s m args meth c RX1 "searchChange" cX1_searchChange 5 none G) (q_t : Nat) (q_t_water : Nat) (q_t_water_width : Nat) (q_t_water_comes : Nat) (q_t_water_depth : Nat) (q_t_water_spill : Nat) (q_t_water_harmAt : Nat) (q_a : Nat) (q_a_kind : Nat) (q_a_wide : Nat) (q_a_bank : Nat) (q_a_ropeAt : Nat) (q_a_pulls : Nat) (q_b : Nat) (v_t_count : Value) (v_t_fewest : Value) (v_t_shortest : Value) (v_t_shortestSum : Value) (v_a_flow : Value) (v_a_tape : Value) (v_a_hands : Value) (v_a_boats : Value) (v_a_muds : Value) (v_a_loose : Value) (v_a_mud : Value) (v_a_bears : Value) (v_a_strong : Value) (v_a_boatWide : Value) (v_a_boatDeep : Value) (v_b_seed : Value) (v_b_wear : Value) (a_reaches : Int32) (a_ropes : Int32) (a_kind : Nat → Int32) (a_wide : Nat → Int32) (a_bank : Nat → Int32) (a_ropeAt : Nat → Int32) (a_pulls : Nat → Int32) (b_laced : Int32) (b_burst : Int32) (b_flow : Int32)  (out : (Nat → Int32) × (Nat → Int32) × (Nat → Int32) × (Nat → Int32) × (Nat → Int32) × Int32 × Int32 × Int32 × Int32 × Int32) (k_117 : (Nat → Int32) → (Nat → Int32) → (Nat → Int32) → (Nat → Int32) → (Nat → Int32) → Int32 → Int32 → Int32 → Int32 → Int32 → Option ((Nat → Int32) × (Nat → Int32) × (Nat → Int32) × (Nat → Int32) × (Nat → Int32) × Int32 × Int32 × Int32 × Int32 × Int32)) (hk_117 : ∀ (t_water_width : Nat → Int32) (t_water_comes : Nat → Int32) (t_water_depth : Nat → Int32) (t_water_spill : Nat → Int32) (t_water_harmAt : Nat → Int32) (t_water_below : Int32) (t_water_allHarm : Int32) (t_water_spilling : Int32) (t_changed : Int32) (t_changedHarm : Int32) (H : Heap) (locs : List Loc) (ls : Array Slot), k_117 t_water_width t_water_comes t_water_depth t_water_spill t_water_harmAt t_water_below t_water_allHarm t_water_spilling t_changed t_changedHarm = some out → mx_W G s A [xO q_t 1 [.ref q_t_water, v_t_count, v_t_fewest, v_t_shortest, v_t_shortestSum, .int t_changed, .int t_changedHarm], xO q_t_water 8 [.ref q_t_water_width, .ref q_t_water_comes, .ref q_t_water_depth, .ref q_t_water_spill, .ref q_t_water_harmAt, .int t_water_below, .int t_water_allHarm, .int t_water_spilling], xI G q_t_water_width 6 t_water_width, xI G q_t_water_comes 6 t_water_comes, xI G q_t_water_depth 6 t_water_depth, xI G q_t_water_spill 6 t_water_spill, xI G q_t_water_harmAt 6 t_water_harmAt, xO q_a 6 [v_a_flow, v_a_tape, .int a_reaches, .int a_ropes, v_a_hands, v_a_boats, v_a_muds, v_a_loose, .ref q_a_kind, .ref q_a_wide, .ref q_a_bank, v_a_mud, .ref q_a_ropeAt, .ref q_a_pulls, v_a_bears, v_a_strong, v_a_boatWide, v_a_boatDeep], xI G q_a_kind 6 a_kind, xI G q_a_wide 6 a_wide, xI G q_a_bank 6 a_bank, xI G q_a_ropeAt 7 a_ropeAt, xI G q_a_pulls 7 a_pulls, xO q_b 7 [.int b_laced, .int b_burst, .int b_flow, v_b_seed, v_b_wear]] H locs → lv_has ls 5 [] → W p l e rm_X1_searchChange s m args below meth c H locs 0 0 (MQ below (mx_Q G none [xO q_t 1 [.ref q_t_water, v_t_count, v_t_fewest, v_t_shortest, v_t_shortestSum, .int out.2.2.2.2.2.2.2.2.1, .int out.2.2.2.2.2.2.2.2.2], xO q_t_water 8 [.ref q_t_water_width, .ref q_t_water_comes, .ref q_t_water_depth, .ref q_t_water_spill, .ref q_t_water_harmAt, .int out.2.2.2.2.2.1, .int out.2.2.2.2.2.2.1, .int out.2.2.2.2.2.2.2.1], xI G q_t_water_width 6 out.1, xI G q_t_water_comes 6 out.2.1, xI G q_t_water_depth 6 out.2.2.1, xI G q_t_water_spill 6 out.2.2.2.1, xI G q_t_water_harmAt 6 out.2.2.2.2.1, xO q_a 6 [v_a_flow, v_a_tape, .int a_reaches, .int a_ropes, v_a_hands, v_a_boats, v_a_muds, v_a_loose, .ref q_a_kind, .ref q_a_wide, .ref q_a_bank, v_a_mud, .ref q_a_ropeAt, .ref q_a_pulls, v_a_bears, v_a_strong, v_a_boatWide, v_a_boatDeep], xI G q_a_kind 6 a_kind, xI G q_a_wide 6 a_wide, xI G q_a_bank 6 a_bank, xI G q_a_ropeAt 7 a_ropeAt, xI G q_a_pulls 7 a_pulls, xO q_b 7 [.int b_laced, .int b_burst, .int b_flow, v_b_seed, v_b_wear]] A) args s 0 0 A) (F0 m 117 ls [])) : ∀ (n : Nat) (x3 : Int32) (x4 : Int32) (t_water_width : Nat → Int32) (t_water_comes : Nat → Int32) (t_water_depth : Nat → Int32) (t_water_spill : Nat → Int32) (t_water_harmAt : Nat → Int32) (t_water_below : Int32) (t_water_allHarm : Int32) (t_water_spilling : Int32) (t_changed : Int32) (t_changedHarm : Int32) (H : Heap) (locs : List Loc) (ls : Array Slot), f_X1_searchChange_L39 k_117 a_reaches a_ropes a_kind a_wide a_bank a_ropeAt a_pulls b_laced b_burst b_flow n x3 x4 t_water_width t_water_comes t_water_depth t_water_spill t_water_harmAt t_water_below t_water_allHarm t_water_spilling t_changed t_changedHarm = some out → mx_W G s A [xO q_t 1 [.ref q_t_water, v_t_count, v_t_fewest, v_t_shortest, v_t_shortestSum, .int t_changed, .int t_changedHarm], xO q_t_water 8 [.ref q_t_water_width, .ref q_t_water_comes, .ref q_t_water_depth, .ref q_t_water_spill, .ref q_t_water_harmAt, .int t_water_below, .int t_water_allHarm, .int t_water_spilling], xI G q_t_water_width 6 t_water_width, xI G q_t_water_comes 6 t_water_comes, xI G q_t_water_depth 6 t_water_depth, xI G q_t_water_spill 6 t_water_spill, xI G q_t_water_harmAt 6 t_water_harmAt, xO q_a 6 [v_a_flow, v_a_tape, .int a_reaches, .int a_ropes, v_a_hands, v_a_boats, v_a_muds, v_a_loose, .ref q_a_kind, .ref q_a_wide, .ref q_a_bank, v_a_mud, .ref q_a_ropeAt, .ref q_a_pulls, v_a_bears, v_a_strong, v_a_boatWide, v_a_boatDeep], xI G q_a_kind 6 a_kind, xI G q_a_wide 6 a_wide, xI G q_a_bank 6 a_bank, xI G q_a_ropeAt 7 a_ropeAt, xI G q_a_pulls 7 a_pulls, xO q_b 7 [.int b_laced, .int b_burst, .int b_flow, v_b_seed, v_b_wear]] H locs → lv_has ls 5 [(0, .ref q_t), (1, .ref q_a), (2, .ref q_b), (3, .int x3), (4, .int x4)] → W p l e rm_X1_searchChange s m args below meth c H locs 0 0 (MQ below (mx_Q G none [xO q_t 1 [.ref q_t_water, v_t_count, v_t_fewest, v_t_shortest, v_t_shortestSum, .int out.2.2.2.2.2.2.2.2.1, .int out.2.2.2.2.2.2.2.2.2], xO q_t_water 8 [.ref q_t_water_width, .ref q_t_water_comes, .ref q_t_water_depth, .ref q_t_water_spill, .ref q_t_water_harmAt, .int out.2.2.2.2.2.1, .int out.2.2.2.2.2.2.1, .int out.2.2.2.2.2.2.2.1], xI G q_t_water_width 6 out.1, xI G q_t_water_comes 6 out.2.1, xI G q_t_water_depth 6 out.2.2.1, xI G q_t_water_spill 6 out.2.2.2.1, xI G q_t_water_harmAt 6 out.2.2.2.2.1, xO q_a 6 [v_a_flow, v_a_tape, .int a_reaches, .int a_ropes, v_a_hands, v_a_boats, v_a_muds, v_a_loose, .ref q_a_kind, .ref q_a_wide, .ref q_a_bank, v_a_mud, .ref q_a_ropeAt, .ref q_a_pulls, v_a_bears, v_a_strong, v_a_boatWide, v_a_boatDeep], xI G q_a_kind 6 a_kind, xI G q_a_wide 6 a_wide, xI G q_a_bank 6 a_bank, xI G q_a_ropeAt 7 a_ropeAt, xI G q_a_pulls 7 a_pulls, xO q_b 7 [.int b_laced, .int b_burst, .int b_flow, v_b_seed, v_b_wear]] A) args s 0 0 A) (F0 m 39 ls []) := by
  obtain ⟨hx, hb, hml, hown, hts, hKN, -⟩ := id X
  intro n
  induction n with
  | zero => intro x3 x4 t_water_width t_water_comes t_water_depth t_water_spill t_water_harmAt t_water_below t_water_allHarm t_water_spilling t_changed t_changedHarm H locs ls hm hW hl; exact absurd (show none = some out from hm) (fun h => by cases h)
  | succ n ih =>
    intro x3 x4 t_water_width t_water_comes t_water_depth t_water_spill t_water_harmAt t_water_below t_water_allHarm t_water_spilling t_changed t_changedHarm H locs ls hm hW hl
    rw [f_X1_searchChange_L39] at hm
    refine lv_iload hx hb dX1_searchChange_39 (lv_at hl 4 rfl) ?_
    refine lv_aload_n hx hb dX1_searchChange_41 rfl (lv_at hl 1 rfl) ?_
    refine mx_get (C := RX6) (T := TX6) (N := 18) (ci := 6) X hW 7 rfl rfl tbc_X6 3 (by decide) kw_872 rfl dX1_searchChange_42 ?_
    refine lv_icmp_ge (tgt := 117) hx hb dX1_searchChange_45 (by decide) (fun c2 => ?_) (fun c2 => ?_)
    · have hm := (if_pos c2).symm.trans hm
      exact hk_117 t_water_width t_water_comes t_water_depth t_water_spill t_water_harmAt t_water_below t_water_allHarm t_water_spilling t_changed t_changedHarm _ _ _ hm hW (lv_sub hl [] rfl)
    · have hm := (if_neg c2).symm.trans hm
      refine lv_aload_n hx hb dX1_searchChange_48 rfl (lv_at hl 2 rfl) ?_
      refine mx_get (C := RX7) (T := TX7) (N := 5) (ci := 7) X hW 13 rfl rfl tbc_X7 1 (by decide) kw_873 rfl dX1_searchChange_49 ?_
      refine lv_iload hx hb dX1_searchChange_52 (lv_at hl 4 rfl) ?_
      obtain ⟨o3, ho3, hm⟩ := bd_s hm
      refine mx_callSN (n := 2) (As := [.int b_burst, .int x4]) (rest := []) (st1 := [.int o3]) (w2 := [xO q_t 1 [.ref q_t_water, v_t_count, v_t_fewest, v_t_shortest, v_t_shortestSum, .int t_changed, .int t_changedHarm], xO q_t_water 8 [.ref q_t_water_width, .ref q_t_water_comes, .ref q_t_water_depth, .ref q_t_water_spill, .ref q_t_water_harmAt, .int t_water_below, .int t_water_allHarm, .int t_water_spilling], xI G q_t_water_width 6 t_water_width, xI G q_t_water_comes 6 t_water_comes, xI G q_t_water_depth 6 t_water_depth, xI G q_t_water_spill 6 t_water_spill, xI G q_t_water_harmAt 6 t_water_harmAt, xO q_a 6 [v_a_flow, v_a_tape, .int a_reaches, .int a_ropes, v_a_hands, v_a_boats, v_a_muds, v_a_loose, .ref q_a_kind, .ref q_a_wide, .ref q_a_bank, v_a_mud, .ref q_a_ropeAt, .ref q_a_pulls, v_a_bears, v_a_strong, v_a_boatWide, v_a_boatDeep], xI G q_a_kind 6 a_kind, xI G q_a_wide 6 a_wide, xI G q_a_bank 6 a_bank, xI G q_a_ropeAt 7 a_ropeAt, xI G q_a_pulls 7 a_pulls, xO q_b 7 [.int b_laced, .int b_burst, .int b_flow, v_b_seed, v_b_wear]]) X hW hl.1 (c_X10_isIn l G b_burst x4 o3 ho3) kn_19 kw_302 kw_2 kw_303 (by decide +kernel) ⟨rfl, rfl⟩ ⟨by decide, by decide⟩ ⟨Nat.zero_le _, Nat.zero_le _⟩ [] (by decide) rfl rfl rfl rfl rfl rfl (Nat.le_of_ble_eq_true rfl) rfl dX1_searchChange_54 (fun H locs hW => ?_)
      refine lv_if_ne (tgt := 111) hx hb dX1_searchChange_57 (by decide) (fun c4 => ?_) (fun c4 => ?_)
      · have hm := (if_neg c4).symm.trans hm
        refine lv_iinc (v := x4 + 1) (lv' := [(4, .int (x4 + 1)), (0, .ref q_t), (1, .ref q_a), (2, .ref q_b), (3, .int x3)]) hx hb dX1_searchChange_111 hl (k := 4) rfl rfl (by decide) rfl (fun ls hl => ?_)
        refine lv_goto (tgt := 39) hx hb dX1_searchChange_114 (by decide) ?_
        exact ih x3 (x4 + 1) t_water_width t_water_comes t_water_depth t_water_spill t_water_harmAt t_water_below t_water_allHarm t_water_spilling t_changed t_changedHarm _ _ _ hm hW (lv_sub hl [1, 2, 3, 4, 0] rfl)
      · have hm := (if_pos c4).symm.trans hm
        refine lv_aload_n hx hb dX1_searchChange_60 rfl (lv_at hl 0 rfl) ?_
        refine mx_get (C := RX1) (T := TX1) (N := 7) (ci := 1) X hW 0 rfl rfl tbc_X1 0 (by decide) kw_101 rfl dX1_searchChange_61 ?_
        refine lv_aload_n hx hb dX1_searchChange_64 rfl (lv_at hl 1 rfl) ?_
        refine lv_aload_n hx hb dX1_searchChange_65 rfl (lv_at hl 2 rfl) ?_
        refine mx_get (C := RX7) (T := TX7) (N := 5) (ci := 7) X hW 13 rfl rfl tbc_X7 0 (by decide) kw_965 rfl dX1_searchChange_66 ?_
        refine lv_iconst (v := 1) hx hb dX1_searchChange_69 (by decide) ?_
        refine lv_iload hx hb dX1_searchChange_70 (lv_at hl 4 rfl) ?_
        refine lv_ishl hx hb dX1_searchChange_72 ?_
        refine lv_ixor hx hb dX1_searchChange_73 ?_
        refine lv_aload_n hx hb dX1_searchChange_74 rfl (lv_at hl 2 rfl) ?_
        refine mx_get (C := RX7) (T := TX7) (N := 5) (ci := 7) X hW 13 rfl rfl tbc_X7 2 (by decide) kw_878 rfl dX1_searchChange_75 ?_
        obtain ⟨o5, ho5, hm⟩ := bd_s hm
        refine mx_callV (C := RX8) (T := TX8) (N := 8) (ci := 8) (n := 3) (As := [.ref q_a, .int (b_laced ^^^ (1 <<< (x4 &&& 31))), .int b_flow]) (rest := []) (st1 := []) (w2 := [xO q_t 1 [.ref q_t_water, v_t_count, v_t_fewest, v_t_shortest, v_t_shortestSum, .int t_changed, .int t_changedHarm], xO q_t_water 8 [.ref q_t_water_width, .ref q_t_water_comes, .ref q_t_water_depth, .ref q_t_water_spill, .ref q_t_water_harmAt, .int o5.2.2.2.2.2.1, .int o5.2.2.2.2.2.2.1, .int o5.2.2.2.2.2.2.2], xI G q_t_water_width 6 o5.1, xI G q_t_water_comes 6 o5.2.1, xI G q_t_water_depth 6 o5.2.2.1, xI G q_t_water_spill 6 o5.2.2.2.1, xI G q_t_water_harmAt 6 o5.2.2.2.2.1, xO q_a 6 [v_a_flow, v_a_tape, .int a_reaches, .int a_ropes, v_a_hands, v_a_boats, v_a_muds, v_a_loose, .ref q_a_kind, .ref q_a_wide, .ref q_a_bank, v_a_mud, .ref q_a_ropeAt, .ref q_a_pulls, v_a_bears, v_a_strong, v_a_boatWide, v_a_boatDeep], xI G q_a_kind 6 a_kind, xI G q_a_wide 6 a_wide, xI G q_a_bank 6 a_bank, xI G q_a_ropeAt 7 a_ropeAt, xI G q_a_pulls 7 a_pulls, xO q_b 7 [.int b_laced, .int b_burst, .int b_flow, v_b_seed, v_b_wear]]) X hW hl.1 (c_X8_run l G q_t_water q_t_water_width q_t_water_comes q_t_water_depth q_t_water_spill q_t_water_harmAt q_a q_a_kind q_a_wide q_a_bank q_a_ropeAt q_a_pulls (v_a_flow) (v_a_tape) (v_a_hands) (v_a_boats) (v_a_muds) (v_a_loose) (v_a_mud) (v_a_bears) (v_a_strong) (v_a_boatWide) (v_a_boatDeep) t_water_width t_water_comes t_water_depth t_water_spill t_water_harmAt t_water_below t_water_allHarm t_water_spilling a_reaches a_ropes a_kind a_wide a_bank a_ropeAt a_pulls (b_laced ^^^ (1 <<< (x4 &&& 31))) b_flow o5 ho5) 0 rfl rfl kw_880 kw_592 kw_593 kw_27 kw_594 (by decide +kernel) ⟨rfl, rfl⟩ ⟨by decide, by decide⟩ ⟨Nat.zero_le _, Nat.zero_le _⟩ [1, 2, 3, 4, 5, 6, 7, 8, 9, 10, 11, 12] (by decide) rfl rfl rfl rfl rfl rfl (Nat.le_of_ble_eq_true rfl) rfl dX1_searchChange_78 (fun H locs hW => ?_)
        refine lv_aload_n hx hb dX1_searchChange_81 rfl (lv_at hl 0 rfl) ?_
        refine mx_get (C := RX1) (T := TX1) (N := 7) (ci := 1) X hW 0 rfl rfl tbc_X1 0 (by decide) kw_101 rfl dX1_searchChange_82 ?_
        refine mx_get (C := RX8) (T := TX8) (N := 8) (ci := 8) X hW 1 rfl rfl tbc_X8 6 (by decide) kw_966 rfl dX1_searchChange_85 ?_
        refine lv_iload_n hx hb dX1_searchChange_88 rfl (lv_at hl 3 rfl) ?_
        refine lv_icmp_ge (tgt := 111) hx hb dX1_searchChange_89 (by decide) (fun c6 => ?_) (fun c6 => ?_)
        · have hm := (if_pos c6).symm.trans hm
          refine lv_iinc (v := x4 + 1) (lv' := [(4, .int (x4 + 1)), (0, .ref q_t), (1, .ref q_a), (2, .ref q_b), (3, .int x3)]) hx hb dX1_searchChange_111 hl (k := 4) rfl rfl (by decide) rfl (fun ls hl => ?_)
          refine lv_goto (tgt := 39) hx hb dX1_searchChange_114 (by decide) ?_
          exact ih x3 (x4 + 1) o5.1 o5.2.1 o5.2.2.1 o5.2.2.2.1 o5.2.2.2.2.1 o5.2.2.2.2.2.1 o5.2.2.2.2.2.2.1 o5.2.2.2.2.2.2.2 t_changed t_changedHarm _ _ _ hm hW (lv_sub hl [1, 2, 3, 4, 0] rfl)
        · have hm := (if_neg c6).symm.trans hm
          refine lv_aload_n hx hb dX1_searchChange_92 rfl (lv_at hl 0 rfl) ?_
          refine mx_get (C := RX1) (T := TX1) (N := 7) (ci := 1) X hW 0 rfl rfl tbc_X1 0 (by decide) kw_101 rfl dX1_searchChange_93 ?_
          refine mx_get (C := RX8) (T := TX8) (N := 8) (ci := 8) X hW 1 rfl rfl tbc_X8 6 (by decide) kw_966 rfl dX1_searchChange_96 ?_
          refine lv_istore_n (lv' := [(3, .int o5.2.2.2.2.2.2.1), (0, .ref q_t), (1, .ref q_a), (2, .ref q_b), (4, .int x4)]) hx hb dX1_searchChange_99 rfl hl (by decide) rfl (fun ls hl => ?_)
          refine lv_aload_n hx hb dX1_searchChange_100 rfl (lv_at hl 1 rfl) ?_
          refine lv_iload hx hb dX1_searchChange_101 (lv_at hl 4 rfl) ?_
          refine mx_put (C := RX1) (T := TX1) (N := 7) (ci := 1) (w2 := [xO q_t 1 [.ref q_t_water, v_t_count, v_t_fewest, v_t_shortest, v_t_shortestSum, .int x4, .int t_changedHarm], xO q_t_water 8 [.ref q_t_water_width, .ref q_t_water_comes, .ref q_t_water_depth, .ref q_t_water_spill, .ref q_t_water_harmAt, .int o5.2.2.2.2.2.1, .int o5.2.2.2.2.2.2.1, .int o5.2.2.2.2.2.2.2], xI G q_t_water_width 6 o5.1, xI G q_t_water_comes 6 o5.2.1, xI G q_t_water_depth 6 o5.2.2.1, xI G q_t_water_spill 6 o5.2.2.2.1, xI G q_t_water_harmAt 6 o5.2.2.2.2.1, xO q_a 6 [v_a_flow, v_a_tape, .int a_reaches, .int a_ropes, v_a_hands, v_a_boats, v_a_muds, v_a_loose, .ref q_a_kind, .ref q_a_wide, .ref q_a_bank, v_a_mud, .ref q_a_ropeAt, .ref q_a_pulls, v_a_bears, v_a_strong, v_a_boatWide, v_a_boatDeep], xI G q_a_kind 6 a_kind, xI G q_a_wide 6 a_wide, xI G q_a_bank 6 a_bank, xI G q_a_ropeAt 7 a_ropeAt, xI G q_a_pulls 7 a_pulls, xO q_b 7 [.int b_laced, .int b_burst, .int b_flow, v_b_seed, v_b_wear]]) X hW 0 rfl rfl tbc_X1 tyX1 tyX1_ok nmX1 5 (by decide) kw_963 rfl rfl rfl rfl (Nat.le_of_ble_eq_true rfl) rfl dX1_searchChange_103 (fun H locs hW => ?_)
          refine lv_aload_n hx hb dX1_searchChange_106 rfl (lv_at hl 1 rfl) ?_
          refine lv_iload_n hx hb dX1_searchChange_107 rfl (lv_at hl 0 rfl) ?_
          refine mx_put (C := RX1) (T := TX1) (N := 7) (ci := 1) (w2 := [xO q_t 1 [.ref q_t_water, v_t_count, v_t_fewest, v_t_shortest, v_t_shortestSum, .int x4, .int o5.2.2.2.2.2.2.1], xO q_t_water 8 [.ref q_t_water_width, .ref q_t_water_comes, .ref q_t_water_depth, .ref q_t_water_spill, .ref q_t_water_harmAt, .int o5.2.2.2.2.2.1, .int o5.2.2.2.2.2.2.1, .int o5.2.2.2.2.2.2.2], xI G q_t_water_width 6 o5.1, xI G q_t_water_comes 6 o5.2.1, xI G q_t_water_depth 6 o5.2.2.1, xI G q_t_water_spill 6 o5.2.2.2.1, xI G q_t_water_harmAt 6 o5.2.2.2.2.1, xO q_a 6 [v_a_flow, v_a_tape, .int a_reaches, .int a_ropes, v_a_hands, v_a_boats, v_a_muds, v_a_loose, .ref q_a_kind, .ref q_a_wide, .ref q_a_bank, v_a_mud, .ref q_a_ropeAt, .ref q_a_pulls, v_a_bears, v_a_strong, v_a_boatWide, v_a_boatDeep], xI G q_a_kind 6 a_kind, xI G q_a_wide 6 a_wide, xI G q_a_bank 6 a_bank, xI G q_a_ropeAt 7 a_ropeAt, xI G q_a_pulls 7 a_pulls, xO q_b 7 [.int b_laced, .int b_burst, .int b_flow, v_b_seed, v_b_wear]]) X hW 0 rfl rfl tbc_X1 tyX1 tyX1_ok nmX1 6 (by decide) kw_964 rfl rfl rfl rfl (Nat.le_of_ble_eq_true rfl) rfl dX1_searchChange_108 (fun H locs hW => ?_)
          refine lv_iinc (v := x4 + 1) (lv' := [(4, .int (x4 + 1)), (3, .int o5.2.2.2.2.2.2.1), (0, .ref q_t), (1, .ref q_a), (2, .ref q_b)]) hx hb dX1_searchChange_111 hl (k := 4) rfl rfl (by decide) rfl (fun ls hl => ?_)
          refine lv_goto (tgt := 39) hx hb dX1_searchChange_114 (by decide) ?_
          exact ih o5.2.2.2.2.2.2.1 (x4 + 1) o5.1 o5.2.1 o5.2.2.1 o5.2.2.2.1 o5.2.2.2.2.1 o5.2.2.2.2.2.1 o5.2.2.2.2.2.2.1 o5.2.2.2.2.2.2.2 x4 o5.2.2.2.2.2.2.1 _ _ _ hm hW (lv_sub hl [2, 3, 4, 1, 0] rfl)
set_option maxHeartbeats 4000000 in
set_option maxRecDepth 100000 in
theorem c_X1_searchChange (l : Launch) (G : mx_G) (q_t : Nat) (q_t_water : Nat) (q_t_water_width : Nat) (q_t_water_comes : Nat) (q_t_water_depth : Nat) (q_t_water_spill : Nat) (q_t_water_harmAt : Nat) (q_a : Nat) (q_a_kind : Nat) (q_a_wide : Nat) (q_a_bank : Nat) (q_a_ropeAt : Nat) (q_a_pulls : Nat) (q_b : Nat) (v_t_count : Value) (v_t_fewest : Value) (v_t_shortest : Value) (v_t_shortestSum : Value) (v_a_flow : Value) (v_a_tape : Value) (v_a_hands : Value) (v_a_boats : Value) (v_a_muds : Value) (v_a_loose : Value) (v_a_mud : Value) (v_a_bears : Value) (v_a_strong : Value) (v_a_boatWide : Value) (v_a_boatDeep : Value) (v_b_seed : Value) (v_b_wear : Value) (t_water_width : Nat → Int32) (t_water_comes : Nat → Int32) (t_water_depth : Nat → Int32) (t_water_spill : Nat → Int32) (t_water_harmAt : Nat → Int32) (t_water_below : Int32) (t_water_allHarm : Int32) (t_water_spilling : Int32) (t_changed : Int32) (t_changedHarm : Int32) (a_reaches : Int32) (a_ropes : Int32) (a_kind : Nat → Int32) (a_wide : Nat → Int32) (a_bank : Nat → Int32) (a_ropeAt : Nat → Int32) (a_pulls : Nat → Int32) (b_laced : Int32) (b_burst : Int32) (b_flow : Int32) (out : (Nat → Int32) × (Nat → Int32) × (Nat → Int32) × (Nat → Int32) × (Nat → Int32) × Int32 × Int32 × Int32 × Int32 × Int32) (hm : f_X1_searchChange t_water_width t_water_comes t_water_depth t_water_spill t_water_harmAt t_water_below t_water_allHarm t_water_spilling t_changed t_changedHarm a_reaches a_ropes a_kind a_wide a_bank a_ropeAt a_pulls b_laced b_burst b_flow = some out) : mx_C l yX1_searchChange cX1_searchChange 5 none rm_X1_searchChange G [.ref q_t, .ref q_a, .ref q_b] [xO q_t 1 [.ref q_t_water, v_t_count, v_t_fewest, v_t_shortest, v_t_shortestSum, .int t_changed, .int t_changedHarm], xO q_t_water 8 [.ref q_t_water_width, .ref q_t_water_comes, .ref q_t_water_depth, .ref q_t_water_spill, .ref q_t_water_harmAt, .int t_water_below, .int t_water_allHarm, .int t_water_spilling], xI G q_t_water_width 6 t_water_width, xI G q_t_water_comes 6 t_water_comes, xI G q_t_water_depth 6 t_water_depth, xI G q_t_water_spill 6 t_water_spill, xI G q_t_water_harmAt 6 t_water_harmAt, xO q_a 6 [v_a_flow, v_a_tape, .int a_reaches, .int a_ropes, v_a_hands, v_a_boats, v_a_muds, v_a_loose, .ref q_a_kind, .ref q_a_wide, .ref q_a_bank, v_a_mud, .ref q_a_ropeAt, .ref q_a_pulls, v_a_bears, v_a_strong, v_a_boatWide, v_a_boatDeep], xI G q_a_kind 6 a_kind, xI G q_a_wide 6 a_wide, xI G q_a_bank 6 a_bank, xI G q_a_ropeAt 7 a_ropeAt, xI G q_a_pulls 7 a_pulls, xO q_b 7 [.int b_laced, .int b_burst, .int b_flow, v_b_seed, v_b_wear]] none [xO q_t 1 [.ref q_t_water, v_t_count, v_t_fewest, v_t_shortest, v_t_shortestSum, .int out.2.2.2.2.2.2.2.2.1, .int out.2.2.2.2.2.2.2.2.2], xO q_t_water 8 [.ref q_t_water_width, .ref q_t_water_comes, .ref q_t_water_depth, .ref q_t_water_spill, .ref q_t_water_harmAt, .int out.2.2.2.2.2.1, .int out.2.2.2.2.2.2.1, .int out.2.2.2.2.2.2.2.1], xI G q_t_water_width 6 out.1, xI G q_t_water_comes 6 out.2.1, xI G q_t_water_depth 6 out.2.2.1, xI G q_t_water_spill 6 out.2.2.2.1, xI G q_t_water_harmAt 6 out.2.2.2.2.1, xO q_a 6 [v_a_flow, v_a_tape, .int a_reaches, .int a_ropes, v_a_hands, v_a_boats, v_a_muds, v_a_loose, .ref q_a_kind, .ref q_a_wide, .ref q_a_bank, v_a_mud, .ref q_a_ropeAt, .ref q_a_pulls, v_a_bears, v_a_strong, v_a_boatWide, v_a_boatDeep], xI G q_a_kind 6 a_kind, xI G q_a_wide 6 a_wide, xI G q_a_bank 6 a_bank, xI G q_a_ropeAt 7 a_ropeAt, xI G q_a_pulls 7 a_pulls, xO q_b 7 [.int b_laced, .int b_burst, .int b_flow, v_b_seed, v_b_wear]] := by
  refine mx_enter (own := RX1) (name := "searchChange") (lv := [(0, .ref q_t), (1, .ref q_a), (2, .ref q_b)]) (by decide) rfl rfl (Nat.le_of_ble_eq_true rfl) rfl ?_
  intro p e s m args below meth c A ls X hW hl
  obtain ⟨hx, hb, hml, hown, hts, hKN, -⟩ := id X
  unfold f_X1_searchChange at hm
  refine lv_aload_n hx hb dX1_searchChange_0 rfl (lv_at hl 0 rfl) ?_
  refine lv_bipush (v := (-2)) hx hb dX1_searchChange_1 (by decide) ?_
  refine mx_put (C := RX1) (T := TX1) (N := 7) (ci := 1) (w2 := [xO q_t 1 [.ref q_t_water, v_t_count, v_t_fewest, v_t_shortest, v_t_shortestSum, .int ((-2)), .int t_changedHarm], xO q_t_water 8 [.ref q_t_water_width, .ref q_t_water_comes, .ref q_t_water_depth, .ref q_t_water_spill, .ref q_t_water_harmAt, .int t_water_below, .int t_water_allHarm, .int t_water_spilling], xI G q_t_water_width 6 t_water_width, xI G q_t_water_comes 6 t_water_comes, xI G q_t_water_depth 6 t_water_depth, xI G q_t_water_spill 6 t_water_spill, xI G q_t_water_harmAt 6 t_water_harmAt, xO q_a 6 [v_a_flow, v_a_tape, .int a_reaches, .int a_ropes, v_a_hands, v_a_boats, v_a_muds, v_a_loose, .ref q_a_kind, .ref q_a_wide, .ref q_a_bank, v_a_mud, .ref q_a_ropeAt, .ref q_a_pulls, v_a_bears, v_a_strong, v_a_boatWide, v_a_boatDeep], xI G q_a_kind 6 a_kind, xI G q_a_wide 6 a_wide, xI G q_a_bank 6 a_bank, xI G q_a_ropeAt 7 a_ropeAt, xI G q_a_pulls 7 a_pulls, xO q_b 7 [.int b_laced, .int b_burst, .int b_flow, v_b_seed, v_b_wear]]) X hW 0 rfl rfl tbc_X1 tyX1 tyX1_ok nmX1 5 (by decide) kw_963 rfl rfl rfl rfl (Nat.le_of_ble_eq_true rfl) rfl dX1_searchChange_3 (fun H locs hW => ?_)
  refine lv_aload_n hx hb dX1_searchChange_6 rfl (lv_at hl 0 rfl) ?_
  refine lv_bipush (v := (-2)) hx hb dX1_searchChange_7 (by decide) ?_
  refine mx_put (C := RX1) (T := TX1) (N := 7) (ci := 1) (w2 := [xO q_t 1 [.ref q_t_water, v_t_count, v_t_fewest, v_t_shortest, v_t_shortestSum, .int ((-2)), .int ((-2))], xO q_t_water 8 [.ref q_t_water_width, .ref q_t_water_comes, .ref q_t_water_depth, .ref q_t_water_spill, .ref q_t_water_harmAt, .int t_water_below, .int t_water_allHarm, .int t_water_spilling], xI G q_t_water_width 6 t_water_width, xI G q_t_water_comes 6 t_water_comes, xI G q_t_water_depth 6 t_water_depth, xI G q_t_water_spill 6 t_water_spill, xI G q_t_water_harmAt 6 t_water_harmAt, xO q_a 6 [v_a_flow, v_a_tape, .int a_reaches, .int a_ropes, v_a_hands, v_a_boats, v_a_muds, v_a_loose, .ref q_a_kind, .ref q_a_wide, .ref q_a_bank, v_a_mud, .ref q_a_ropeAt, .ref q_a_pulls, v_a_bears, v_a_strong, v_a_boatWide, v_a_boatDeep], xI G q_a_kind 6 a_kind, xI G q_a_wide 6 a_wide, xI G q_a_bank 6 a_bank, xI G q_a_ropeAt 7 a_ropeAt, xI G q_a_pulls 7 a_pulls, xO q_b 7 [.int b_laced, .int b_burst, .int b_flow, v_b_seed, v_b_wear]]) X hW 0 rfl rfl tbc_X1 tyX1 tyX1_ok nmX1 6 (by decide) kw_964 rfl rfl rfl rfl (Nat.le_of_ble_eq_true rfl) rfl dX1_searchChange_9 (fun H locs hW => ?_)
  refine lv_aload_n hx hb dX1_searchChange_12 rfl (lv_at hl 0 rfl) ?_
  refine mx_get (C := RX1) (T := TX1) (N := 7) (ci := 1) X hW 0 rfl rfl tbc_X1 0 (by decide) kw_101 rfl dX1_searchChange_13 ?_
  refine lv_aload_n hx hb dX1_searchChange_16 rfl (lv_at hl 1 rfl) ?_
  refine lv_aload_n hx hb dX1_searchChange_17 rfl (lv_at hl 2 rfl) ?_
  refine mx_get (C := RX7) (T := TX7) (N := 5) (ci := 7) X hW 13 rfl rfl tbc_X7 0 (by decide) kw_965 rfl dX1_searchChange_18 ?_
  refine lv_aload_n hx hb dX1_searchChange_21 rfl (lv_at hl 2 rfl) ?_
  refine mx_get (C := RX7) (T := TX7) (N := 5) (ci := 7) X hW 13 rfl rfl tbc_X7 2 (by decide) kw_878 rfl dX1_searchChange_22 ?_
  obtain ⟨o1, ho1, hm⟩ := bd_s hm
  refine mx_callV (C := RX8) (T := TX8) (N := 8) (ci := 8) (n := 3) (As := [.ref q_a, .int b_laced, .int b_flow]) (rest := []) (st1 := []) (w2 := [xO q_t 1 [.ref q_t_water, v_t_count, v_t_fewest, v_t_shortest, v_t_shortestSum, .int ((-2)), .int ((-2))], xO q_t_water 8 [.ref q_t_water_width, .ref q_t_water_comes, .ref q_t_water_depth, .ref q_t_water_spill, .ref q_t_water_harmAt, .int o1.2.2.2.2.2.1, .int o1.2.2.2.2.2.2.1, .int o1.2.2.2.2.2.2.2], xI G q_t_water_width 6 o1.1, xI G q_t_water_comes 6 o1.2.1, xI G q_t_water_depth 6 o1.2.2.1, xI G q_t_water_spill 6 o1.2.2.2.1, xI G q_t_water_harmAt 6 o1.2.2.2.2.1, xO q_a 6 [v_a_flow, v_a_tape, .int a_reaches, .int a_ropes, v_a_hands, v_a_boats, v_a_muds, v_a_loose, .ref q_a_kind, .ref q_a_wide, .ref q_a_bank, v_a_mud, .ref q_a_ropeAt, .ref q_a_pulls, v_a_bears, v_a_strong, v_a_boatWide, v_a_boatDeep], xI G q_a_kind 6 a_kind, xI G q_a_wide 6 a_wide, xI G q_a_bank 6 a_bank, xI G q_a_ropeAt 7 a_ropeAt, xI G q_a_pulls 7 a_pulls, xO q_b 7 [.int b_laced, .int b_burst, .int b_flow, v_b_seed, v_b_wear]]) X hW hl.1 (c_X8_run l G q_t_water q_t_water_width q_t_water_comes q_t_water_depth q_t_water_spill q_t_water_harmAt q_a q_a_kind q_a_wide q_a_bank q_a_ropeAt q_a_pulls (v_a_flow) (v_a_tape) (v_a_hands) (v_a_boats) (v_a_muds) (v_a_loose) (v_a_mud) (v_a_bears) (v_a_strong) (v_a_boatWide) (v_a_boatDeep) t_water_width t_water_comes t_water_depth t_water_spill t_water_harmAt t_water_below t_water_allHarm t_water_spilling a_reaches a_ropes a_kind a_wide a_bank a_ropeAt a_pulls b_laced b_flow o1 ho1) 0 rfl rfl kw_880 kw_592 kw_593 kw_27 kw_594 (by decide +kernel) ⟨rfl, rfl⟩ ⟨by decide, by decide⟩ ⟨Nat.zero_le _, Nat.zero_le _⟩ [1, 2, 3, 4, 5, 6, 7, 8, 9, 10, 11, 12] (by decide) rfl rfl rfl rfl rfl rfl (Nat.le_of_ble_eq_true rfl) rfl dX1_searchChange_25 (fun H locs hW => ?_)
  refine lv_aload_n hx hb dX1_searchChange_28 rfl (lv_at hl 0 rfl) ?_
  refine mx_get (C := RX1) (T := TX1) (N := 7) (ci := 1) X hW 0 rfl rfl tbc_X1 0 (by decide) kw_101 rfl dX1_searchChange_29 ?_
  refine mx_get (C := RX8) (T := TX8) (N := 8) (ci := 8) X hW 1 rfl rfl tbc_X8 6 (by decide) kw_966 rfl dX1_searchChange_32 ?_
  refine lv_istore_n (lv' := [(3, .int o1.2.2.2.2.2.2.1), (0, .ref q_t), (1, .ref q_a), (2, .ref q_b)]) hx hb dX1_searchChange_35 rfl hl (by decide) rfl (fun ls hl => ?_)
  refine lv_iconst (v := 0) hx hb dX1_searchChange_36 (by decide) ?_
  refine lv_istore (lv' := [(4, .int 0), (3, .int o1.2.2.2.2.2.2.1), (0, .ref q_t), (1, .ref q_a), (2, .ref q_b)]) hx hb dX1_searchChange_37 hl (by decide) rfl (fun ls hl => ?_)
  refine w_X1_searchChange_L39 X q_t q_t_water q_t_water_width q_t_water_comes q_t_water_depth q_t_water_spill q_t_water_harmAt q_a q_a_kind q_a_wide q_a_bank q_a_ropeAt q_a_pulls q_b (v_t_count) (v_t_fewest) (v_t_shortest) (v_t_shortestSum) (v_a_flow) (v_a_tape) (v_a_hands) (v_a_boats) (v_a_muds) (v_a_loose) (v_a_mud) (v_a_bears) (v_a_strong) (v_a_boatWide) (v_a_boatDeep) (v_b_seed) (v_b_wear) a_reaches a_ropes a_kind a_wide a_bank a_ropeAt a_pulls b_laced b_burst b_flow out _ (fun t_water_width_39 t_water_comes_39 t_water_depth_39 t_water_spill_39 t_water_harmAt_39 t_water_below_39 t_water_allHarm_39 t_water_spilling_39 t_changed_39 t_changedHarm_39 H locs ls hm hW hl => ?_) _ o1.2.2.2.2.2.2.1 0 o1.1 o1.2.1 o1.2.2.1 o1.2.2.2.1 o1.2.2.2.2.1 o1.2.2.2.2.2.1 o1.2.2.2.2.2.2.1 o1.2.2.2.2.2.2.2 ((-2)) ((-2)) _ _ _ hm hW (lv_sub hl [2, 3, 4, 1, 0] rfl)
  obtain rfl := Option.some.inj hm
  exact mx_vret X hW dX1_searchChange_117

abbrev rm_X2_forget : Room := { frames := 0, cells := 0, slots := 0, locals := 0 }
noncomputable def f_X2_forget (t_oldest : Int32) (t_count : Int32) (t_marked : Int32) : Option (Int32 × Int32 × Int32) :=
  some (0, 0, 0)
set_option maxHeartbeats 4000000 in
set_option maxRecDepth 100000 in
theorem c_X2_forget (l : Launch) (G : mx_G) (q_t : Nat) (v_t_kept : Value) (v_t_marks : Value) (t_oldest : Int32) (t_count : Int32) (t_marked : Int32) (out : Int32 × Int32 × Int32) (hm : f_X2_forget t_oldest t_count t_marked = some out) : mx_C l yX2_forget cX2_forget 1 none rm_X2_forget G [.ref q_t] [xO q_t 2 [v_t_kept, v_t_marks, .int t_oldest, .int t_count, .int t_marked]] none [xO q_t 2 [v_t_kept, v_t_marks, .int out.1, .int out.2.1, .int out.2.2]] := by
  refine mx_enter (own := RX2) (name := "forget") (lv := [(0, .ref q_t)]) (by decide) rfl rfl (Nat.le_of_ble_eq_true rfl) rfl ?_
  intro p e s m args below meth c A ls X hW hl
  obtain ⟨hx, hb, hml, hown, hts, hKN, -⟩ := id X
  unfold f_X2_forget at hm
  refine lv_aload_n hx hb dX2_forget_0 rfl (lv_at hl 0 rfl) ?_
  refine lv_iconst (v := 0) hx hb dX2_forget_1 (by decide) ?_
  refine mx_put (C := RX2) (T := TX2) (N := 5) (ci := 2) (w2 := [xO q_t 2 [v_t_kept, v_t_marks, .int 0, .int t_count, .int t_marked]]) X hW 0 rfl rfl tbc_X2 tyX2 tyX2_ok nmX2 2 (by decide) kw_342 rfl rfl rfl rfl (Nat.le_of_ble_eq_true rfl) rfl dX2_forget_2 (fun H locs hW => ?_)
  refine lv_aload_n hx hb dX2_forget_5 rfl (lv_at hl 0 rfl) ?_
  refine lv_iconst (v := 0) hx hb dX2_forget_6 (by decide) ?_
  refine mx_put (C := RX2) (T := TX2) (N := 5) (ci := 2) (w2 := [xO q_t 2 [v_t_kept, v_t_marks, .int 0, .int 0, .int t_marked]]) X hW 0 rfl rfl tbc_X2 tyX2 tyX2_ok nmX2 3 (by decide) kw_343 rfl rfl rfl rfl (Nat.le_of_ble_eq_true rfl) rfl dX2_forget_7 (fun H locs hW => ?_)
  refine lv_aload_n hx hb dX2_forget_10 rfl (lv_at hl 0 rfl) ?_
  refine lv_iconst (v := 0) hx hb dX2_forget_11 (by decide) ?_
  refine mx_put (C := RX2) (T := TX2) (N := 5) (ci := 2) (w2 := [xO q_t 2 [v_t_kept, v_t_marks, .int 0, .int 0, .int 0]]) X hW 0 rfl rfl tbc_X2 tyX2 tyX2_ok nmX2 4 (by decide) kw_344 rfl rfl rfl rfl (Nat.le_of_ble_eq_true rfl) rfl dX2_forget_12 (fun H locs hW => ?_)
  obtain rfl := Option.some.inj hm
  exact mx_vret X hW dX2_forget_15

abbrev rm_X6_empty : Room := { frames := 0, cells := 0, slots := 0, locals := 0 }
noncomputable def f_X6_empty_L42 (k_61 : (Nat → Int32) → Option (Int32 × Int32 × Int32 × Int32 × Int32 × Int32 × Int32 × Int32 × (Nat → Int32))) : Nat → Int32 → (Nat → Int32) → Option (Int32 × Int32 × Int32 × Int32 × Int32 × Int32 × Int32 × Int32 × (Nat → Int32))
  | 0, _, _ => none
  | n + 1, x1, t_mud =>
    (if 6 ≤ x1 then
      k_61 t_mud
    else
      gd (inb x1 6) <| nm (upd t_mud x1.toNatClampNeg ((-1))) fun r3 =>f_X6_empty_L42 k_61 n (x1 + 1) r3)
noncomputable def f_X6_empty (t_flow : Int32) (t_tape : Int32) (t_reaches : Int32) (t_ropes : Int32) (t_hands : Int32) (t_boats : Int32) (t_muds : Int32) (t_loose : Int32) (t_mud : Nat → Int32) : Option (Int32 × Int32 × Int32 × Int32 × Int32 × Int32 × Int32 × Int32 × (Nat → Int32)) :=
  f_X6_empty_L42 (fun t_mud_42 =>
    some (0, 0, 0, 0, 0, 0, 0, 0, t_mud_42))  2000 0 t_mud
set_option maxHeartbeats 4000000 in
set_option maxRecDepth 100000 in
theorem w_X6_empty_L42 {p : Program} {l : Launch} {e : Env} {s : State} {m : MethodId} {args : Array Value} {below : List Frame} {meth : Method} {c : Code} {A : Nat → Prop} {G : mx_G} (X : mx_X p s m args meth c RX6 "empty" cX6_empty 2 none G) (q_t : Nat) (q_t_mud : Nat) (v_t_kind : Value) (v_t_wide : Value) (v_t_bank : Value) (v_t_ropeAt : Value) (v_t_pulls : Value) (v_t_bears : Value) (v_t_strong : Value) (v_t_boatWide : Value) (v_t_boatDeep : Value) (t_flow : Int32) (t_tape : Int32) (t_reaches : Int32) (t_ropes : Int32) (t_hands : Int32) (t_boats : Int32) (t_muds : Int32) (t_loose : Int32)  (out : Int32 × Int32 × Int32 × Int32 × Int32 × Int32 × Int32 × Int32 × (Nat → Int32)) (k_61 : (Nat → Int32) → Option (Int32 × Int32 × Int32 × Int32 × Int32 × Int32 × Int32 × Int32 × (Nat → Int32))) (hk_61 : ∀ (t_mud : Nat → Int32) (H : Heap) (locs : List Loc) (ls : Array Slot), k_61 t_mud = some out → mx_W G s A [xO q_t 6 [.int t_flow, .int t_tape, .int t_reaches, .int t_ropes, .int t_hands, .int t_boats, .int t_muds, .int t_loose, v_t_kind, v_t_wide, v_t_bank, .ref q_t_mud, v_t_ropeAt, v_t_pulls, v_t_bears, v_t_strong, v_t_boatWide, v_t_boatDeep], xI G q_t_mud 6 t_mud] H locs → lv_has ls 2 [] → W p l e rm_X6_empty s m args below meth c H locs 0 0 (MQ below (mx_Q G none [xO q_t 6 [.int out.1, .int out.2.1, .int out.2.2.1, .int out.2.2.2.1, .int out.2.2.2.2.1, .int out.2.2.2.2.2.1, .int out.2.2.2.2.2.2.1, .int out.2.2.2.2.2.2.2.1, v_t_kind, v_t_wide, v_t_bank, .ref q_t_mud, v_t_ropeAt, v_t_pulls, v_t_bears, v_t_strong, v_t_boatWide, v_t_boatDeep], xI G q_t_mud 6 out.2.2.2.2.2.2.2.2] A) args s 0 0 A) (F0 m 61 ls [])) : ∀ (n : Nat) (x1 : Int32) (t_mud : Nat → Int32) (H : Heap) (locs : List Loc) (ls : Array Slot), f_X6_empty_L42 k_61 n x1 t_mud = some out → mx_W G s A [xO q_t 6 [.int t_flow, .int t_tape, .int t_reaches, .int t_ropes, .int t_hands, .int t_boats, .int t_muds, .int t_loose, v_t_kind, v_t_wide, v_t_bank, .ref q_t_mud, v_t_ropeAt, v_t_pulls, v_t_bears, v_t_strong, v_t_boatWide, v_t_boatDeep], xI G q_t_mud 6 t_mud] H locs → lv_has ls 2 [(0, .ref q_t), (1, .int x1)] → W p l e rm_X6_empty s m args below meth c H locs 0 0 (MQ below (mx_Q G none [xO q_t 6 [.int out.1, .int out.2.1, .int out.2.2.1, .int out.2.2.2.1, .int out.2.2.2.2.1, .int out.2.2.2.2.2.1, .int out.2.2.2.2.2.2.1, .int out.2.2.2.2.2.2.2.1, v_t_kind, v_t_wide, v_t_bank, .ref q_t_mud, v_t_ropeAt, v_t_pulls, v_t_bears, v_t_strong, v_t_boatWide, v_t_boatDeep], xI G q_t_mud 6 out.2.2.2.2.2.2.2.2] A) args s 0 0 A) (F0 m 42 ls []) := by
  obtain ⟨hx, hb, hml, hown, hts, hKN, -⟩ := id X
  intro n
  induction n with
  | zero => intro x1 t_mud H locs ls hm hW hl; exact absurd (show none = some out from hm) (fun h => by cases h)
  | succ n ih =>
    intro x1 t_mud H locs ls hm hW hl
    rw [f_X6_empty_L42] at hm
    refine lv_iload_n hx hb dX6_empty_42 rfl (lv_at hl 1 rfl) ?_
    refine lv_bipush (v := 6) hx hb dX6_empty_43 (by decide) ?_
    refine lv_icmp_ge (tgt := 61) hx hb dX6_empty_45 (by decide) (fun c1 => ?_) (fun c1 => ?_)
    · have hm := (if_pos c1).symm.trans hm
      exact hk_61 t_mud _ _ _ hm hW (lv_sub hl [] rfl)
    · have hm := (if_neg c1).symm.trans hm
      refine lv_aload_n hx hb dX6_empty_48 rfl (lv_at hl 0 rfl) ?_
      refine mx_get (C := RX6) (T := TX6) (N := 18) (ci := 6) X hW 0 rfl rfl tbc_X6 11 (by decide) kw_71 rfl dX6_empty_49 ?_
      refine lv_iload_n hx hb dX6_empty_52 rfl (lv_at hl 1 rfl) ?_
      refine lv_iconst (v := (-1)) hx hb dX6_empty_53 (by decide) ?_
      obtain ⟨hg2, hm⟩ := gd_s hm
      refine mx_iast (w2 := [xO q_t 6 [.int t_flow, .int t_tape, .int t_reaches, .int t_ropes, .int t_hands, .int t_boats, .int t_muds, .int t_loose, v_t_kind, v_t_wide, v_t_bank, .ref q_t_mud, v_t_ropeAt, v_t_pulls, v_t_bears, v_t_strong, v_t_boatWide, v_t_boatDeep], xI G q_t_mud 6 (upd t_mud x1.toNatClampNeg ((-1)))]) X hW 1 rfl (inb_s hg2) rfl dX6_empty_54 (fun H locs hW => ?_)
      obtain ⟨r3, er3⟩ : ∃ z, z = upd t_mud x1.toNatClampNeg ((-1)) := ⟨_, rfl⟩
      have hm := nm_s er3 hm
      have hW : mx_W G s A [xO q_t 6 [.int t_flow, .int t_tape, .int t_reaches, .int t_ropes, .int t_hands, .int t_boats, .int t_muds, .int t_loose, v_t_kind, v_t_wide, v_t_bank, .ref q_t_mud, v_t_ropeAt, v_t_pulls, v_t_bears, v_t_strong, v_t_boatWide, v_t_boatDeep], xI G q_t_mud 6 r3] H locs := by rw [er3]; exact hW
      refine lv_iinc (v := x1 + 1) (lv' := [(1, .int (x1 + 1)), (0, .ref q_t)]) hx hb dX6_empty_55 hl (k := 1) rfl rfl (by decide) rfl (fun ls hl => ?_)
      refine lv_goto (tgt := 42) hx hb dX6_empty_58 (by decide) ?_
      exact ih (x1 + 1) r3 _ _ _ hm hW (lv_sub hl [1, 0] rfl)
set_option maxHeartbeats 4000000 in
set_option maxRecDepth 100000 in
theorem c_X6_empty (l : Launch) (G : mx_G) (q_t : Nat) (q_t_mud : Nat) (v_t_kind : Value) (v_t_wide : Value) (v_t_bank : Value) (v_t_ropeAt : Value) (v_t_pulls : Value) (v_t_bears : Value) (v_t_strong : Value) (v_t_boatWide : Value) (v_t_boatDeep : Value) (t_flow : Int32) (t_tape : Int32) (t_reaches : Int32) (t_ropes : Int32) (t_hands : Int32) (t_boats : Int32) (t_muds : Int32) (t_loose : Int32) (t_mud : Nat → Int32) (out : Int32 × Int32 × Int32 × Int32 × Int32 × Int32 × Int32 × Int32 × (Nat → Int32)) (hm : f_X6_empty t_flow t_tape t_reaches t_ropes t_hands t_boats t_muds t_loose t_mud = some out) : mx_C l yX6_empty cX6_empty 2 none rm_X6_empty G [.ref q_t] [xO q_t 6 [.int t_flow, .int t_tape, .int t_reaches, .int t_ropes, .int t_hands, .int t_boats, .int t_muds, .int t_loose, v_t_kind, v_t_wide, v_t_bank, .ref q_t_mud, v_t_ropeAt, v_t_pulls, v_t_bears, v_t_strong, v_t_boatWide, v_t_boatDeep], xI G q_t_mud 6 t_mud] none [xO q_t 6 [.int out.1, .int out.2.1, .int out.2.2.1, .int out.2.2.2.1, .int out.2.2.2.2.1, .int out.2.2.2.2.2.1, .int out.2.2.2.2.2.2.1, .int out.2.2.2.2.2.2.2.1, v_t_kind, v_t_wide, v_t_bank, .ref q_t_mud, v_t_ropeAt, v_t_pulls, v_t_bears, v_t_strong, v_t_boatWide, v_t_boatDeep], xI G q_t_mud 6 out.2.2.2.2.2.2.2.2] := by
  refine mx_enter (own := RX6) (name := "empty") (lv := [(0, .ref q_t)]) (by decide) rfl rfl (Nat.le_of_ble_eq_true rfl) rfl ?_
  intro p e s m args below meth c A ls X hW hl
  obtain ⟨hx, hb, hml, hown, hts, hKN, -⟩ := id X
  unfold f_X6_empty at hm
  refine lv_aload_n hx hb dX6_empty_0 rfl (lv_at hl 0 rfl) ?_
  refine lv_iconst (v := 0) hx hb dX6_empty_1 (by decide) ?_
  refine mx_put (C := RX6) (T := TX6) (N := 18) (ci := 6) (w2 := [xO q_t 6 [.int 0, .int t_tape, .int t_reaches, .int t_ropes, .int t_hands, .int t_boats, .int t_muds, .int t_loose, v_t_kind, v_t_wide, v_t_bank, .ref q_t_mud, v_t_ropeAt, v_t_pulls, v_t_bears, v_t_strong, v_t_boatWide, v_t_boatDeep], xI G q_t_mud 6 t_mud]) X hW 0 rfl rfl tbc_X6 tyX6 tyX6_ok nmX6 0 (by decide) kw_188 rfl rfl rfl rfl (Nat.le_of_ble_eq_true rfl) rfl dX6_empty_2 (fun H locs hW => ?_)
  refine lv_aload_n hx hb dX6_empty_5 rfl (lv_at hl 0 rfl) ?_
  refine lv_iconst (v := 0) hx hb dX6_empty_6 (by decide) ?_
  refine mx_put (C := RX6) (T := TX6) (N := 18) (ci := 6) (w2 := [xO q_t 6 [.int 0, .int 0, .int t_reaches, .int t_ropes, .int t_hands, .int t_boats, .int t_muds, .int t_loose, v_t_kind, v_t_wide, v_t_bank, .ref q_t_mud, v_t_ropeAt, v_t_pulls, v_t_bears, v_t_strong, v_t_boatWide, v_t_boatDeep], xI G q_t_mud 6 t_mud]) X hW 0 rfl rfl tbc_X6 tyX6 tyX6_ok nmX6 1 (by decide) kw_189 rfl rfl rfl rfl (Nat.le_of_ble_eq_true rfl) rfl dX6_empty_7 (fun H locs hW => ?_)
  refine lv_aload_n hx hb dX6_empty_10 rfl (lv_at hl 0 rfl) ?_
  refine lv_iconst (v := 0) hx hb dX6_empty_11 (by decide) ?_
  refine mx_put (C := RX6) (T := TX6) (N := 18) (ci := 6) (w2 := [xO q_t 6 [.int 0, .int 0, .int 0, .int t_ropes, .int t_hands, .int t_boats, .int t_muds, .int t_loose, v_t_kind, v_t_wide, v_t_bank, .ref q_t_mud, v_t_ropeAt, v_t_pulls, v_t_bears, v_t_strong, v_t_boatWide, v_t_boatDeep], xI G q_t_mud 6 t_mud]) X hW 0 rfl rfl tbc_X6 tyX6 tyX6_ok nmX6 2 (by decide) kw_190 rfl rfl rfl rfl (Nat.le_of_ble_eq_true rfl) rfl dX6_empty_12 (fun H locs hW => ?_)
  refine lv_aload_n hx hb dX6_empty_15 rfl (lv_at hl 0 rfl) ?_
  refine lv_iconst (v := 0) hx hb dX6_empty_16 (by decide) ?_
  refine mx_put (C := RX6) (T := TX6) (N := 18) (ci := 6) (w2 := [xO q_t 6 [.int 0, .int 0, .int 0, .int 0, .int t_hands, .int t_boats, .int t_muds, .int t_loose, v_t_kind, v_t_wide, v_t_bank, .ref q_t_mud, v_t_ropeAt, v_t_pulls, v_t_bears, v_t_strong, v_t_boatWide, v_t_boatDeep], xI G q_t_mud 6 t_mud]) X hW 0 rfl rfl tbc_X6 tyX6 tyX6_ok nmX6 3 (by decide) kw_191 rfl rfl rfl rfl (Nat.le_of_ble_eq_true rfl) rfl dX6_empty_17 (fun H locs hW => ?_)
  refine lv_aload_n hx hb dX6_empty_20 rfl (lv_at hl 0 rfl) ?_
  refine lv_iconst (v := 0) hx hb dX6_empty_21 (by decide) ?_
  refine mx_put (C := RX6) (T := TX6) (N := 18) (ci := 6) (w2 := [xO q_t 6 [.int 0, .int 0, .int 0, .int 0, .int 0, .int t_boats, .int t_muds, .int t_loose, v_t_kind, v_t_wide, v_t_bank, .ref q_t_mud, v_t_ropeAt, v_t_pulls, v_t_bears, v_t_strong, v_t_boatWide, v_t_boatDeep], xI G q_t_mud 6 t_mud]) X hW 0 rfl rfl tbc_X6 tyX6 tyX6_ok nmX6 4 (by decide) kw_192 rfl rfl rfl rfl (Nat.le_of_ble_eq_true rfl) rfl dX6_empty_22 (fun H locs hW => ?_)
  refine lv_aload_n hx hb dX6_empty_25 rfl (lv_at hl 0 rfl) ?_
  refine lv_iconst (v := 0) hx hb dX6_empty_26 (by decide) ?_
  refine mx_put (C := RX6) (T := TX6) (N := 18) (ci := 6) (w2 := [xO q_t 6 [.int 0, .int 0, .int 0, .int 0, .int 0, .int 0, .int t_muds, .int t_loose, v_t_kind, v_t_wide, v_t_bank, .ref q_t_mud, v_t_ropeAt, v_t_pulls, v_t_bears, v_t_strong, v_t_boatWide, v_t_boatDeep], xI G q_t_mud 6 t_mud]) X hW 0 rfl rfl tbc_X6 tyX6 tyX6_ok nmX6 5 (by decide) kw_193 rfl rfl rfl rfl (Nat.le_of_ble_eq_true rfl) rfl dX6_empty_27 (fun H locs hW => ?_)
  refine lv_aload_n hx hb dX6_empty_30 rfl (lv_at hl 0 rfl) ?_
  refine lv_iconst (v := 0) hx hb dX6_empty_31 (by decide) ?_
  refine mx_put (C := RX6) (T := TX6) (N := 18) (ci := 6) (w2 := [xO q_t 6 [.int 0, .int 0, .int 0, .int 0, .int 0, .int 0, .int 0, .int t_loose, v_t_kind, v_t_wide, v_t_bank, .ref q_t_mud, v_t_ropeAt, v_t_pulls, v_t_bears, v_t_strong, v_t_boatWide, v_t_boatDeep], xI G q_t_mud 6 t_mud]) X hW 0 rfl rfl tbc_X6 tyX6 tyX6_ok nmX6 6 (by decide) kw_194 rfl rfl rfl rfl (Nat.le_of_ble_eq_true rfl) rfl dX6_empty_32 (fun H locs hW => ?_)
  refine lv_aload_n hx hb dX6_empty_35 rfl (lv_at hl 0 rfl) ?_
  refine lv_iconst (v := 0) hx hb dX6_empty_36 (by decide) ?_
  refine mx_put (C := RX6) (T := TX6) (N := 18) (ci := 6) (w2 := [xO q_t 6 [.int 0, .int 0, .int 0, .int 0, .int 0, .int 0, .int 0, .int 0, v_t_kind, v_t_wide, v_t_bank, .ref q_t_mud, v_t_ropeAt, v_t_pulls, v_t_bears, v_t_strong, v_t_boatWide, v_t_boatDeep], xI G q_t_mud 6 t_mud]) X hW 0 rfl rfl tbc_X6 tyX6 tyX6_ok nmX6 7 (by decide) kw_195 rfl rfl rfl rfl (Nat.le_of_ble_eq_true rfl) rfl dX6_empty_37 (fun H locs hW => ?_)
  refine lv_iconst (v := 0) hx hb dX6_empty_40 (by decide) ?_
  refine lv_istore_n (lv' := [(1, .int 0), (0, .ref q_t)]) hx hb dX6_empty_41 rfl hl (by decide) rfl (fun ls hl => ?_)
  refine w_X6_empty_L42 X q_t q_t_mud (v_t_kind) (v_t_wide) (v_t_bank) (v_t_ropeAt) (v_t_pulls) (v_t_bears) (v_t_strong) (v_t_boatWide) (v_t_boatDeep) 0 0 0 0 0 0 0 0 out _ (fun t_mud_42 H locs ls hm hW hl => ?_) _ 0 t_mud _ _ _ hm hW (lv_sub hl [1, 0] rfl)
  obtain rfl := Option.some.inj hm
  exact mx_vret X hW dX6_empty_61

abbrev rm_X7_begin : Room := { frames := 0, cells := 0, slots := 0, locals := 0 }
noncomputable def f_X7_begin_L39 (k_58 : (Nat → Int32) → Option (Int32 × Int32 × Int32 × Int32 × (Nat → Int32))) : Nat → Int32 → (Nat → Int32) → Option (Int32 × Int32 × Int32 × Int32 × (Nat → Int32))
  | 0, _, _ => none
  | n + 1, x2, t_wear =>
    (if 7 ≤ x2 then
      k_58 t_wear
    else
      gd (inb x2 7) <| nm (upd t_wear x2.toNatClampNeg 0) fun r4 =>f_X7_begin_L39 k_58 n (x2 + 1) r4)
noncomputable def f_X7_begin (t_laced : Int32) (t_burst : Int32) (t_flow : Int32) (t_seed : Int32) (t_wear : Nat → Int32) (a_flow : Int32) (a_ropes : Int32) (a_loose : Int32) : Option (Int32 × Int32 × Int32 × Int32 × (Nat → Int32)) :=
  nm (((1 <<< (a_ropes &&& 31)) - 1) &&& (a_loose ^^^ ((-1)))) fun z1 => f_X7_begin_L39 (fun t_wear_39 =>
    some (z1, 0, a_flow, 0, t_wear_39))  2000 0 t_wear
set_option maxHeartbeats 4000000 in
set_option maxRecDepth 100000 in
theorem w_X7_begin_L39 {p : Program} {l : Launch} {e : Env} {s : State} {m : MethodId} {args : Array Value} {below : List Frame} {meth : Method} {c : Code} {A : Nat → Prop} {G : mx_G} (X : mx_X p s m args meth c RX7 "begin" cX7_begin 3 none G) (q_t : Nat) (q_t_wear : Nat) (q_a : Nat) (v_a_tape : Value) (v_a_reaches : Value) (v_a_hands : Value) (v_a_boats : Value) (v_a_muds : Value) (v_a_kind : Value) (v_a_wide : Value) (v_a_bank : Value) (v_a_mud : Value) (v_a_ropeAt : Value) (v_a_pulls : Value) (v_a_bears : Value) (v_a_strong : Value) (v_a_boatWide : Value) (v_a_boatDeep : Value) (t_laced : Int32) (t_burst : Int32) (t_flow : Int32) (t_seed : Int32) (a_flow : Int32) (a_ropes : Int32) (a_loose : Int32)  (out : Int32 × Int32 × Int32 × Int32 × (Nat → Int32)) (k_58 : (Nat → Int32) → Option (Int32 × Int32 × Int32 × Int32 × (Nat → Int32))) (hk_58 : ∀ (t_wear : Nat → Int32) (H : Heap) (locs : List Loc) (ls : Array Slot), k_58 t_wear = some out → mx_W G s A [xO q_t 7 [.int t_laced, .int t_burst, .int t_flow, .int t_seed, .ref q_t_wear], xI G q_t_wear 7 t_wear, xO q_a 6 [.int a_flow, v_a_tape, v_a_reaches, .int a_ropes, v_a_hands, v_a_boats, v_a_muds, .int a_loose, v_a_kind, v_a_wide, v_a_bank, v_a_mud, v_a_ropeAt, v_a_pulls, v_a_bears, v_a_strong, v_a_boatWide, v_a_boatDeep]] H locs → lv_has ls 3 [] → W p l e rm_X7_begin s m args below meth c H locs 0 0 (MQ below (mx_Q G none [xO q_t 7 [.int out.1, .int out.2.1, .int out.2.2.1, .int out.2.2.2.1, .ref q_t_wear], xI G q_t_wear 7 out.2.2.2.2, xO q_a 6 [.int a_flow, v_a_tape, v_a_reaches, .int a_ropes, v_a_hands, v_a_boats, v_a_muds, .int a_loose, v_a_kind, v_a_wide, v_a_bank, v_a_mud, v_a_ropeAt, v_a_pulls, v_a_bears, v_a_strong, v_a_boatWide, v_a_boatDeep]] A) args s 0 0 A) (F0 m 58 ls [])) : ∀ (n : Nat) (x2 : Int32) (t_wear : Nat → Int32) (H : Heap) (locs : List Loc) (ls : Array Slot), f_X7_begin_L39 k_58 n x2 t_wear = some out → mx_W G s A [xO q_t 7 [.int t_laced, .int t_burst, .int t_flow, .int t_seed, .ref q_t_wear], xI G q_t_wear 7 t_wear, xO q_a 6 [.int a_flow, v_a_tape, v_a_reaches, .int a_ropes, v_a_hands, v_a_boats, v_a_muds, .int a_loose, v_a_kind, v_a_wide, v_a_bank, v_a_mud, v_a_ropeAt, v_a_pulls, v_a_bears, v_a_strong, v_a_boatWide, v_a_boatDeep]] H locs → lv_has ls 3 [(0, .ref q_t), (2, .int x2)] → W p l e rm_X7_begin s m args below meth c H locs 0 0 (MQ below (mx_Q G none [xO q_t 7 [.int out.1, .int out.2.1, .int out.2.2.1, .int out.2.2.2.1, .ref q_t_wear], xI G q_t_wear 7 out.2.2.2.2, xO q_a 6 [.int a_flow, v_a_tape, v_a_reaches, .int a_ropes, v_a_hands, v_a_boats, v_a_muds, .int a_loose, v_a_kind, v_a_wide, v_a_bank, v_a_mud, v_a_ropeAt, v_a_pulls, v_a_bears, v_a_strong, v_a_boatWide, v_a_boatDeep]] A) args s 0 0 A) (F0 m 39 ls []) := by
  obtain ⟨hx, hb, hml, hown, hts, hKN, -⟩ := id X
  intro n
  induction n with
  | zero => intro x2 t_wear H locs ls hm hW hl; exact absurd (show none = some out from hm) (fun h => by cases h)
  | succ n ih =>
    intro x2 t_wear H locs ls hm hW hl
    rw [f_X7_begin_L39] at hm
    refine lv_iload_n hx hb dX7_begin_39 rfl (lv_at hl 1 rfl) ?_
    refine lv_bipush (v := 7) hx hb dX7_begin_40 (by decide) ?_
    refine lv_icmp_ge (tgt := 58) hx hb dX7_begin_42 (by decide) (fun c2 => ?_) (fun c2 => ?_)
    · have hm := (if_pos c2).symm.trans hm
      exact hk_58 t_wear _ _ _ hm hW (lv_sub hl [] rfl)
    · have hm := (if_neg c2).symm.trans hm
      refine lv_aload_n hx hb dX7_begin_45 rfl (lv_at hl 0 rfl) ?_
      refine mx_get (C := RX7) (T := TX7) (N := 5) (ci := 7) X hW 0 rfl rfl tbc_X7 4 (by decide) kw_81 rfl dX7_begin_46 ?_
      refine lv_iload_n hx hb dX7_begin_49 rfl (lv_at hl 1 rfl) ?_
      refine lv_iconst (v := 0) hx hb dX7_begin_50 (by decide) ?_
      obtain ⟨hg3, hm⟩ := gd_s hm
      refine mx_iast (w2 := [xO q_t 7 [.int t_laced, .int t_burst, .int t_flow, .int t_seed, .ref q_t_wear], xI G q_t_wear 7 (upd t_wear x2.toNatClampNeg 0), xO q_a 6 [.int a_flow, v_a_tape, v_a_reaches, .int a_ropes, v_a_hands, v_a_boats, v_a_muds, .int a_loose, v_a_kind, v_a_wide, v_a_bank, v_a_mud, v_a_ropeAt, v_a_pulls, v_a_bears, v_a_strong, v_a_boatWide, v_a_boatDeep]]) X hW 1 rfl (inb_s hg3) rfl dX7_begin_51 (fun H locs hW => ?_)
      obtain ⟨r4, er4⟩ : ∃ z, z = upd t_wear x2.toNatClampNeg 0 := ⟨_, rfl⟩
      have hm := nm_s er4 hm
      have hW : mx_W G s A [xO q_t 7 [.int t_laced, .int t_burst, .int t_flow, .int t_seed, .ref q_t_wear], xI G q_t_wear 7 r4, xO q_a 6 [.int a_flow, v_a_tape, v_a_reaches, .int a_ropes, v_a_hands, v_a_boats, v_a_muds, .int a_loose, v_a_kind, v_a_wide, v_a_bank, v_a_mud, v_a_ropeAt, v_a_pulls, v_a_bears, v_a_strong, v_a_boatWide, v_a_boatDeep]] H locs := by rw [er4]; exact hW
      refine lv_iinc (v := x2 + 1) (lv' := [(2, .int (x2 + 1)), (0, .ref q_t)]) hx hb dX7_begin_52 hl (k := 1) rfl rfl (by decide) rfl (fun ls hl => ?_)
      refine lv_goto (tgt := 39) hx hb dX7_begin_55 (by decide) ?_
      exact ih (x2 + 1) r4 _ _ _ hm hW (lv_sub hl [1, 0] rfl)
set_option maxHeartbeats 4000000 in
set_option maxRecDepth 100000 in
theorem c_X7_begin (l : Launch) (G : mx_G) (q_t : Nat) (q_t_wear : Nat) (q_a : Nat) (v_a_tape : Value) (v_a_reaches : Value) (v_a_hands : Value) (v_a_boats : Value) (v_a_muds : Value) (v_a_kind : Value) (v_a_wide : Value) (v_a_bank : Value) (v_a_mud : Value) (v_a_ropeAt : Value) (v_a_pulls : Value) (v_a_bears : Value) (v_a_strong : Value) (v_a_boatWide : Value) (v_a_boatDeep : Value) (t_laced : Int32) (t_burst : Int32) (t_flow : Int32) (t_seed : Int32) (t_wear : Nat → Int32) (a_flow : Int32) (a_ropes : Int32) (a_loose : Int32) (out : Int32 × Int32 × Int32 × Int32 × (Nat → Int32)) (hm : f_X7_begin t_laced t_burst t_flow t_seed t_wear a_flow a_ropes a_loose = some out) : mx_C l yX7_begin cX7_begin 3 none rm_X7_begin G [.ref q_t, .ref q_a] [xO q_t 7 [.int t_laced, .int t_burst, .int t_flow, .int t_seed, .ref q_t_wear], xI G q_t_wear 7 t_wear, xO q_a 6 [.int a_flow, v_a_tape, v_a_reaches, .int a_ropes, v_a_hands, v_a_boats, v_a_muds, .int a_loose, v_a_kind, v_a_wide, v_a_bank, v_a_mud, v_a_ropeAt, v_a_pulls, v_a_bears, v_a_strong, v_a_boatWide, v_a_boatDeep]] none [xO q_t 7 [.int out.1, .int out.2.1, .int out.2.2.1, .int out.2.2.2.1, .ref q_t_wear], xI G q_t_wear 7 out.2.2.2.2, xO q_a 6 [.int a_flow, v_a_tape, v_a_reaches, .int a_ropes, v_a_hands, v_a_boats, v_a_muds, .int a_loose, v_a_kind, v_a_wide, v_a_bank, v_a_mud, v_a_ropeAt, v_a_pulls, v_a_bears, v_a_strong, v_a_boatWide, v_a_boatDeep]] := by
  refine mx_enter (own := RX7) (name := "begin") (lv := [(0, .ref q_t), (1, .ref q_a)]) (by decide) rfl rfl (Nat.le_of_ble_eq_true rfl) rfl ?_
  intro p e s m args below meth c A ls X hW hl
  obtain ⟨hx, hb, hml, hown, hts, hKN, -⟩ := id X
  unfold f_X7_begin at hm
  refine lv_aload_n hx hb dX7_begin_0 rfl (lv_at hl 0 rfl) ?_
  refine lv_iconst (v := 1) hx hb dX7_begin_1 (by decide) ?_
  refine lv_aload_n hx hb dX7_begin_2 rfl (lv_at hl 1 rfl) ?_
  refine mx_get (C := RX6) (T := TX6) (N := 18) (ci := 6) X hW 2 rfl rfl tbc_X6 3 (by decide) kw_331 rfl dX7_begin_3 ?_
  refine lv_ishl hx hb dX7_begin_6 ?_
  refine lv_iconst (v := 1) hx hb dX7_begin_7 (by decide) ?_
  refine lv_isub hx hb dX7_begin_8 ?_
  refine lv_aload_n hx hb dX7_begin_9 rfl (lv_at hl 1 rfl) ?_
  refine mx_get (C := RX6) (T := TX6) (N := 18) (ci := 6) X hW 2 rfl rfl tbc_X6 7 (by decide) kw_332 rfl dX7_begin_10 ?_
  refine lv_iconst (v := (-1)) hx hb dX7_begin_13 (by decide) ?_
  refine lv_ixor hx hb dX7_begin_14 ?_
  refine lv_iand hx hb dX7_begin_15 ?_
  refine lv_topi (fun z1 ez1 => ?_)
  have hm := nm_s ez1 hm
  refine mx_put (C := RX7) (T := TX7) (N := 5) (ci := 7) (w2 := [xO q_t 7 [.int z1, .int t_burst, .int t_flow, .int t_seed, .ref q_t_wear], xI G q_t_wear 7 t_wear, xO q_a 6 [.int a_flow, v_a_tape, v_a_reaches, .int a_ropes, v_a_hands, v_a_boats, v_a_muds, .int a_loose, v_a_kind, v_a_wide, v_a_bank, v_a_mud, v_a_ropeAt, v_a_pulls, v_a_bears, v_a_strong, v_a_boatWide, v_a_boatDeep]]) X hW 0 rfl rfl tbc_X7 tyX7 tyX7_ok nmX7 0 (by decide) kw_333 rfl rfl rfl rfl (Nat.le_of_ble_eq_true rfl) rfl dX7_begin_16 (fun H locs hW => ?_)
  refine lv_aload_n hx hb dX7_begin_19 rfl (lv_at hl 0 rfl) ?_
  refine lv_iconst (v := 0) hx hb dX7_begin_20 (by decide) ?_
  refine mx_put (C := RX7) (T := TX7) (N := 5) (ci := 7) (w2 := [xO q_t 7 [.int z1, .int 0, .int t_flow, .int t_seed, .ref q_t_wear], xI G q_t_wear 7 t_wear, xO q_a 6 [.int a_flow, v_a_tape, v_a_reaches, .int a_ropes, v_a_hands, v_a_boats, v_a_muds, .int a_loose, v_a_kind, v_a_wide, v_a_bank, v_a_mud, v_a_ropeAt, v_a_pulls, v_a_bears, v_a_strong, v_a_boatWide, v_a_boatDeep]]) X hW 0 rfl rfl tbc_X7 tyX7 tyX7_ok nmX7 1 (by decide) kw_334 rfl rfl rfl rfl (Nat.le_of_ble_eq_true rfl) rfl dX7_begin_21 (fun H locs hW => ?_)
  refine lv_aload_n hx hb dX7_begin_24 rfl (lv_at hl 0 rfl) ?_
  refine lv_aload_n hx hb dX7_begin_25 rfl (lv_at hl 1 rfl) ?_
  refine mx_get (C := RX6) (T := TX6) (N := 18) (ci := 6) X hW 2 rfl rfl tbc_X6 0 (by decide) kw_335 rfl dX7_begin_26 ?_
  refine mx_put (C := RX7) (T := TX7) (N := 5) (ci := 7) (w2 := [xO q_t 7 [.int z1, .int 0, .int a_flow, .int t_seed, .ref q_t_wear], xI G q_t_wear 7 t_wear, xO q_a 6 [.int a_flow, v_a_tape, v_a_reaches, .int a_ropes, v_a_hands, v_a_boats, v_a_muds, .int a_loose, v_a_kind, v_a_wide, v_a_bank, v_a_mud, v_a_ropeAt, v_a_pulls, v_a_bears, v_a_strong, v_a_boatWide, v_a_boatDeep]]) X hW 0 rfl rfl tbc_X7 tyX7 tyX7_ok nmX7 2 (by decide) kw_336 rfl rfl rfl rfl (Nat.le_of_ble_eq_true rfl) rfl dX7_begin_29 (fun H locs hW => ?_)
  refine lv_aload_n hx hb dX7_begin_32 rfl (lv_at hl 0 rfl) ?_
  refine lv_iconst (v := 0) hx hb dX7_begin_33 (by decide) ?_
  refine mx_put (C := RX7) (T := TX7) (N := 5) (ci := 7) (w2 := [xO q_t 7 [.int z1, .int 0, .int a_flow, .int 0, .ref q_t_wear], xI G q_t_wear 7 t_wear, xO q_a 6 [.int a_flow, v_a_tape, v_a_reaches, .int a_ropes, v_a_hands, v_a_boats, v_a_muds, .int a_loose, v_a_kind, v_a_wide, v_a_bank, v_a_mud, v_a_ropeAt, v_a_pulls, v_a_bears, v_a_strong, v_a_boatWide, v_a_boatDeep]]) X hW 0 rfl rfl tbc_X7 tyX7 tyX7_ok nmX7 3 (by decide) kw_337 rfl rfl rfl rfl (Nat.le_of_ble_eq_true rfl) rfl dX7_begin_34 (fun H locs hW => ?_)
  refine lv_iconst (v := 0) hx hb dX7_begin_37 (by decide) ?_
  refine lv_istore_n (lv' := [(2, .int 0), (0, .ref q_t), (1, .ref q_a)]) hx hb dX7_begin_38 rfl hl (by decide) rfl (fun ls hl => ?_)
  refine w_X7_begin_L39 X q_t q_t_wear q_a (v_a_tape) (v_a_reaches) (v_a_hands) (v_a_boats) (v_a_muds) (v_a_kind) (v_a_wide) (v_a_bank) (v_a_mud) (v_a_ropeAt) (v_a_pulls) (v_a_bears) (v_a_strong) (v_a_boatWide) (v_a_boatDeep) z1 0 a_flow 0 a_flow a_ropes a_loose out _ (fun t_wear_39 H locs ls hm hW hl => ?_) _ 0 t_wear _ _ _ hm hW (lv_sub hl [1, 0] rfl)
  obtain rfl := Option.some.inj hm
  exact mx_vret X hW dX7_begin_58

abbrev rm_X9_passed : Room := { frames := 0, cells := 0, slots := 0, locals := 0 }
noncomputable def f_X9_passed_L5 (k_65 : Int32 → Option (Int32)) (x2 : Int32) (t_water_width : Nat → Int32) (t_water_depth : Nat → Int32) (a_reaches : Int32) (a_boatWide : Nat → Int32) (a_boatDeep : Nat → Int32) : Nat → Int32 → Int32 → Option (Int32)
  | 0, _, _ => none
  | n + 1, x3, x4 =>
    (if a_reaches ≤ x4 then
      k_65 x3
    else
      gd (inb x4 6) <| gd (inb x2 5) <| (if (t_water_width x4.toNatClampNeg) < (a_boatWide x2.toNatClampNeg) then
        f_X9_passed_L5 k_65 x2 t_water_width t_water_depth a_reaches a_boatWide a_boatDeep n x3 (x4 + 1)
      else
        gd (inb x4 6) <| gd (inb x2 5) <| (if (t_water_depth x4.toNatClampNeg) < (a_boatDeep x2.toNatClampNeg) then
          f_X9_passed_L5 k_65 x2 t_water_width t_water_depth a_reaches a_boatWide a_boatDeep n x3 (x4 + 1)
        else
          nm (x3 ||| (1 <<< (x4 &&& 31))) fun z8 =>f_X9_passed_L5 k_65 x2 t_water_width t_water_depth a_reaches a_boatWide a_boatDeep n z8 (x4 + 1))))
noncomputable def f_X9_passed (p2 : Int32) (t_water_width : Nat → Int32) (t_water_depth : Nat → Int32) (a_reaches : Int32) (a_boatWide : Nat → Int32) (a_boatDeep : Nat → Int32) : Option (Int32) :=
  f_X9_passed_L5 (fun x3_5 =>
    some x3_5) p2 t_water_width t_water_depth a_reaches a_boatWide a_boatDeep 2000 0 0
set_option maxHeartbeats 4000000 in
set_option maxRecDepth 100000 in
theorem w_X9_passed_L5 {p : Program} {l : Launch} {e : Env} {s : State} {m : MethodId} {args : Array Value} {below : List Frame} {meth : Method} {c : Code} {A : Nat → Prop} {G : mx_G} (X : mx_X p s m args meth c RX9 "passed" cX9_passed 5 (some .int) G) (q_t : Nat) (q_t_water : Nat) (q_t_water_width : Nat) (q_t_water_depth : Nat) (q_a : Nat) (q_a_boatWide : Nat) (q_a_boatDeep : Nat) (v_t_water_comes : Value) (v_t_water_spill : Value) (v_t_water_harmAt : Value) (v_t_water_below : Value) (v_t_water_allHarm : Value) (v_t_water_spilling : Value) (v_a_flow : Value) (v_a_tape : Value) (v_a_ropes : Value) (v_a_hands : Value) (v_a_boats : Value) (v_a_muds : Value) (v_a_loose : Value) (v_a_kind : Value) (v_a_wide : Value) (v_a_bank : Value) (v_a_mud : Value) (v_a_ropeAt : Value) (v_a_pulls : Value) (v_a_bears : Value) (v_a_strong : Value) (t_water_width : Nat → Int32) (t_water_depth : Nat → Int32) (a_reaches : Int32) (a_boatWide : Nat → Int32) (a_boatDeep : Nat → Int32) (x2 : Int32) (out : Int32) (k_65 : Int32 → Option (Int32)) (hk_65 : ∀ (x3 : Int32) (H : Heap) (locs : List Loc) (ls : Array Slot), k_65 x3 = some out → mx_W G s A [xO q_t 9 [.ref q_t_water], xO q_t_water 8 [.ref q_t_water_width, v_t_water_comes, .ref q_t_water_depth, v_t_water_spill, v_t_water_harmAt, v_t_water_below, v_t_water_allHarm, v_t_water_spilling], xI G q_t_water_width 6 t_water_width, xI G q_t_water_depth 6 t_water_depth, xO q_a 6 [v_a_flow, v_a_tape, .int a_reaches, v_a_ropes, v_a_hands, v_a_boats, v_a_muds, v_a_loose, v_a_kind, v_a_wide, v_a_bank, v_a_mud, v_a_ropeAt, v_a_pulls, v_a_bears, v_a_strong, .ref q_a_boatWide, .ref q_a_boatDeep], xI G q_a_boatWide 5 a_boatWide, xI G q_a_boatDeep 5 a_boatDeep] H locs → lv_has ls 5 [(3, .int x3)] → W p l e rm_X9_passed s m args below meth c H locs 0 0 (MQ below (mx_Q G (some (.int out)) [xO q_t 9 [.ref q_t_water], xO q_t_water 8 [.ref q_t_water_width, v_t_water_comes, .ref q_t_water_depth, v_t_water_spill, v_t_water_harmAt, v_t_water_below, v_t_water_allHarm, v_t_water_spilling], xI G q_t_water_width 6 t_water_width, xI G q_t_water_depth 6 t_water_depth, xO q_a 6 [v_a_flow, v_a_tape, .int a_reaches, v_a_ropes, v_a_hands, v_a_boats, v_a_muds, v_a_loose, v_a_kind, v_a_wide, v_a_bank, v_a_mud, v_a_ropeAt, v_a_pulls, v_a_bears, v_a_strong, .ref q_a_boatWide, .ref q_a_boatDeep], xI G q_a_boatWide 5 a_boatWide, xI G q_a_boatDeep 5 a_boatDeep] A) args s 0 0 A) (F0 m 65 ls [])) : ∀ (n : Nat) (x3 : Int32) (x4 : Int32) (H : Heap) (locs : List Loc) (ls : Array Slot), f_X9_passed_L5 k_65 x2 t_water_width t_water_depth a_reaches a_boatWide a_boatDeep n x3 x4 = some out → mx_W G s A [xO q_t 9 [.ref q_t_water], xO q_t_water 8 [.ref q_t_water_width, v_t_water_comes, .ref q_t_water_depth, v_t_water_spill, v_t_water_harmAt, v_t_water_below, v_t_water_allHarm, v_t_water_spilling], xI G q_t_water_width 6 t_water_width, xI G q_t_water_depth 6 t_water_depth, xO q_a 6 [v_a_flow, v_a_tape, .int a_reaches, v_a_ropes, v_a_hands, v_a_boats, v_a_muds, v_a_loose, v_a_kind, v_a_wide, v_a_bank, v_a_mud, v_a_ropeAt, v_a_pulls, v_a_bears, v_a_strong, .ref q_a_boatWide, .ref q_a_boatDeep], xI G q_a_boatWide 5 a_boatWide, xI G q_a_boatDeep 5 a_boatDeep] H locs → lv_has ls 5 [(0, .ref q_t), (1, .ref q_a), (2, .int x2), (3, .int x3), (4, .int x4)] → W p l e rm_X9_passed s m args below meth c H locs 0 0 (MQ below (mx_Q G (some (.int out)) [xO q_t 9 [.ref q_t_water], xO q_t_water 8 [.ref q_t_water_width, v_t_water_comes, .ref q_t_water_depth, v_t_water_spill, v_t_water_harmAt, v_t_water_below, v_t_water_allHarm, v_t_water_spilling], xI G q_t_water_width 6 t_water_width, xI G q_t_water_depth 6 t_water_depth, xO q_a 6 [v_a_flow, v_a_tape, .int a_reaches, v_a_ropes, v_a_hands, v_a_boats, v_a_muds, v_a_loose, v_a_kind, v_a_wide, v_a_bank, v_a_mud, v_a_ropeAt, v_a_pulls, v_a_bears, v_a_strong, .ref q_a_boatWide, .ref q_a_boatDeep], xI G q_a_boatWide 5 a_boatWide, xI G q_a_boatDeep 5 a_boatDeep] A) args s 0 0 A) (F0 m 5 ls []) := by
  obtain ⟨hx, hb, hml, hown, hts, hKN, -⟩ := id X
  intro n
  induction n with
  | zero => intro x3 x4 H locs ls hm hW hl; exact absurd (show none = some out from hm) (fun h => by cases h)
  | succ n ih =>
    intro x3 x4 H locs ls hm hW hl
    rw [f_X9_passed_L5] at hm
    refine lv_iload hx hb dX9_passed_5 (lv_at hl 4 rfl) ?_
    refine lv_aload_n hx hb dX9_passed_7 rfl (lv_at hl 1 rfl) ?_
    refine mx_get (C := RX6) (T := TX6) (N := 18) (ci := 6) X hW 4 rfl rfl tbc_X6 2 (by decide) kw_1005 rfl dX9_passed_8 ?_
    refine lv_icmp_ge (tgt := 65) hx hb dX9_passed_11 (by decide) (fun c1 => ?_) (fun c1 => ?_)
    · have hm := (if_pos c1).symm.trans hm
      exact hk_65 x3 _ _ _ hm hW (lv_sub hl [3] rfl)
    · have hm := (if_neg c1).symm.trans hm
      refine lv_aload_n hx hb dX9_passed_14 rfl (lv_at hl 0 rfl) ?_
      refine mx_get (C := RX9) (T := TX9) (N := 1) (ci := 9) X hW 0 rfl rfl tbc_X9 0 (by decide) kw_106 rfl dX9_passed_15 ?_
      refine mx_get (C := RX8) (T := TX8) (N := 8) (ci := 8) X hW 1 rfl rfl tbc_X8 0 (by decide) kw_1006 rfl dX9_passed_18 ?_
      refine lv_iload hx hb dX9_passed_21 (lv_at hl 4 rfl) ?_
      obtain ⟨hg2, hm⟩ := gd_s hm
      refine mx_iald X hW 2 rfl (inb_s hg2) dX9_passed_23 ?_
      refine lv_aload_n hx hb dX9_passed_24 rfl (lv_at hl 1 rfl) ?_
      refine mx_get (C := RX6) (T := TX6) (N := 18) (ci := 6) X hW 4 rfl rfl tbc_X6 16 (by decide) kw_1007 rfl dX9_passed_25 ?_
      refine lv_iload_n hx hb dX9_passed_28 rfl (lv_at hl 2 rfl) ?_
      obtain ⟨hg3, hm⟩ := gd_s hm
      refine mx_iald X hW 5 rfl (inb_s hg3) dX9_passed_29 ?_
      refine lv_icmp_lt (tgt := 59) hx hb dX9_passed_30 (by decide) (fun c4 => ?_) (fun c4 => ?_)
      · have hm := (if_pos c4).symm.trans hm
        refine lv_iinc (v := x4 + 1) (lv' := [(4, .int (x4 + 1)), (0, .ref q_t), (1, .ref q_a), (2, .int x2), (3, .int x3)]) hx hb dX9_passed_59 hl (k := 4) rfl rfl (by decide) rfl (fun ls hl => ?_)
        refine lv_goto (tgt := 5) hx hb dX9_passed_62 (by decide) ?_
        exact ih x3 (x4 + 1) _ _ _ hm hW (lv_sub hl [1, 2, 3, 4, 0] rfl)
      · have hm := (if_neg c4).symm.trans hm
        refine lv_aload_n hx hb dX9_passed_33 rfl (lv_at hl 0 rfl) ?_
        refine mx_get (C := RX9) (T := TX9) (N := 1) (ci := 9) X hW 0 rfl rfl tbc_X9 0 (by decide) kw_106 rfl dX9_passed_34 ?_
        refine mx_get (C := RX8) (T := TX8) (N := 8) (ci := 8) X hW 1 rfl rfl tbc_X8 2 (by decide) kw_1008 rfl dX9_passed_37 ?_
        refine lv_iload hx hb dX9_passed_40 (lv_at hl 4 rfl) ?_
        obtain ⟨hg5, hm⟩ := gd_s hm
        refine mx_iald X hW 3 rfl (inb_s hg5) dX9_passed_42 ?_
        refine lv_aload_n hx hb dX9_passed_43 rfl (lv_at hl 1 rfl) ?_
        refine mx_get (C := RX6) (T := TX6) (N := 18) (ci := 6) X hW 4 rfl rfl tbc_X6 17 (by decide) kw_1009 rfl dX9_passed_44 ?_
        refine lv_iload_n hx hb dX9_passed_47 rfl (lv_at hl 2 rfl) ?_
        obtain ⟨hg6, hm⟩ := gd_s hm
        refine mx_iald X hW 6 rfl (inb_s hg6) dX9_passed_48 ?_
        refine lv_icmp_lt (tgt := 59) hx hb dX9_passed_49 (by decide) (fun c7 => ?_) (fun c7 => ?_)
        · have hm := (if_pos c7).symm.trans hm
          refine lv_iinc (v := x4 + 1) (lv' := [(4, .int (x4 + 1)), (0, .ref q_t), (1, .ref q_a), (2, .int x2), (3, .int x3)]) hx hb dX9_passed_59 hl (k := 4) rfl rfl (by decide) rfl (fun ls hl => ?_)
          refine lv_goto (tgt := 5) hx hb dX9_passed_62 (by decide) ?_
          exact ih x3 (x4 + 1) _ _ _ hm hW (lv_sub hl [1, 2, 3, 4, 0] rfl)
        · have hm := (if_neg c7).symm.trans hm
          refine lv_iload_n hx hb dX9_passed_52 rfl (lv_at hl 3 rfl) ?_
          refine lv_iconst (v := 1) hx hb dX9_passed_53 (by decide) ?_
          refine lv_iload hx hb dX9_passed_54 (lv_at hl 4 rfl) ?_
          refine lv_ishl hx hb dX9_passed_56 ?_
          refine lv_ior hx hb dX9_passed_57 ?_
          refine lv_topi (fun z8 ez8 => ?_)
          have hm := nm_s ez8 hm
          refine lv_istore_n (lv' := [(3, .int z8), (0, .ref q_t), (1, .ref q_a), (2, .int x2), (4, .int x4)]) hx hb dX9_passed_58 rfl hl (by decide) rfl (fun ls hl => ?_)
          refine lv_iinc (v := x4 + 1) (lv' := [(4, .int (x4 + 1)), (3, .int z8), (0, .ref q_t), (1, .ref q_a), (2, .int x2)]) hx hb dX9_passed_59 hl (k := 4) rfl rfl (by decide) rfl (fun ls hl => ?_)
          refine lv_goto (tgt := 5) hx hb dX9_passed_62 (by decide) ?_
          exact ih z8 (x4 + 1) _ _ _ hm hW (lv_sub hl [2, 3, 4, 1, 0] rfl)
set_option maxHeartbeats 4000000 in
set_option maxRecDepth 100000 in
theorem c_X9_passed (l : Launch) (G : mx_G) (q_t : Nat) (q_t_water : Nat) (q_t_water_width : Nat) (q_t_water_depth : Nat) (q_a : Nat) (q_a_boatWide : Nat) (q_a_boatDeep : Nat) (v_t_water_comes : Value) (v_t_water_spill : Value) (v_t_water_harmAt : Value) (v_t_water_below : Value) (v_t_water_allHarm : Value) (v_t_water_spilling : Value) (v_a_flow : Value) (v_a_tape : Value) (v_a_ropes : Value) (v_a_hands : Value) (v_a_boats : Value) (v_a_muds : Value) (v_a_loose : Value) (v_a_kind : Value) (v_a_wide : Value) (v_a_bank : Value) (v_a_mud : Value) (v_a_ropeAt : Value) (v_a_pulls : Value) (v_a_bears : Value) (v_a_strong : Value) (t_water_width : Nat → Int32) (t_water_depth : Nat → Int32) (a_reaches : Int32) (a_boatWide : Nat → Int32) (a_boatDeep : Nat → Int32) (p2 : Int32) (out : Int32) (hm : f_X9_passed p2 t_water_width t_water_depth a_reaches a_boatWide a_boatDeep = some out) : mx_C l yX9_passed cX9_passed 5 (some .int) rm_X9_passed G [.ref q_t, .ref q_a, .int p2] [xO q_t 9 [.ref q_t_water], xO q_t_water 8 [.ref q_t_water_width, v_t_water_comes, .ref q_t_water_depth, v_t_water_spill, v_t_water_harmAt, v_t_water_below, v_t_water_allHarm, v_t_water_spilling], xI G q_t_water_width 6 t_water_width, xI G q_t_water_depth 6 t_water_depth, xO q_a 6 [v_a_flow, v_a_tape, .int a_reaches, v_a_ropes, v_a_hands, v_a_boats, v_a_muds, v_a_loose, v_a_kind, v_a_wide, v_a_bank, v_a_mud, v_a_ropeAt, v_a_pulls, v_a_bears, v_a_strong, .ref q_a_boatWide, .ref q_a_boatDeep], xI G q_a_boatWide 5 a_boatWide, xI G q_a_boatDeep 5 a_boatDeep] (some (.int out)) [xO q_t 9 [.ref q_t_water], xO q_t_water 8 [.ref q_t_water_width, v_t_water_comes, .ref q_t_water_depth, v_t_water_spill, v_t_water_harmAt, v_t_water_below, v_t_water_allHarm, v_t_water_spilling], xI G q_t_water_width 6 t_water_width, xI G q_t_water_depth 6 t_water_depth, xO q_a 6 [v_a_flow, v_a_tape, .int a_reaches, v_a_ropes, v_a_hands, v_a_boats, v_a_muds, v_a_loose, v_a_kind, v_a_wide, v_a_bank, v_a_mud, v_a_ropeAt, v_a_pulls, v_a_bears, v_a_strong, .ref q_a_boatWide, .ref q_a_boatDeep], xI G q_a_boatWide 5 a_boatWide, xI G q_a_boatDeep 5 a_boatDeep] := by
  refine mx_enter (own := RX9) (name := "passed") (lv := [(0, .ref q_t), (1, .ref q_a), (2, .int p2)]) (by decide) rfl rfl (Nat.le_of_ble_eq_true rfl) rfl ?_
  intro p e s m args below meth c A ls X hW hl
  obtain ⟨hx, hb, hml, hown, hts, hKN, -⟩ := id X
  unfold f_X9_passed at hm
  refine lv_iconst (v := 0) hx hb dX9_passed_0 (by decide) ?_
  refine lv_istore_n (lv' := [(3, .int 0), (0, .ref q_t), (1, .ref q_a), (2, .int p2)]) hx hb dX9_passed_1 rfl hl (by decide) rfl (fun ls hl => ?_)
  refine lv_iconst (v := 0) hx hb dX9_passed_2 (by decide) ?_
  refine lv_istore (lv' := [(4, .int 0), (3, .int 0), (0, .ref q_t), (1, .ref q_a), (2, .int p2)]) hx hb dX9_passed_3 hl (by decide) rfl (fun ls hl => ?_)
  refine w_X9_passed_L5 X q_t q_t_water q_t_water_width q_t_water_depth q_a q_a_boatWide q_a_boatDeep (v_t_water_comes) (v_t_water_spill) (v_t_water_harmAt) (v_t_water_below) (v_t_water_allHarm) (v_t_water_spilling) (v_a_flow) (v_a_tape) (v_a_ropes) (v_a_hands) (v_a_boats) (v_a_muds) (v_a_loose) (v_a_kind) (v_a_wide) (v_a_bank) (v_a_mud) (v_a_ropeAt) (v_a_pulls) (v_a_bears) (v_a_strong) t_water_width t_water_depth a_reaches a_boatWide a_boatDeep p2 out _ (fun x3_5 H locs ls hm hW hl => ?_) _ 0 0 _ _ _ hm hW (lv_sub hl [2, 3, 4, 1, 0] rfl)
  refine lv_iload_n hx hb dX9_passed_65 rfl (lv_at hl 0 rfl) ?_
  obtain rfl := Option.some.inj hm
  exact mx_iret X hW dX9_passed_66

abbrev rm_X9_passedNow : Room := { frames := 4, cells := 0, slots := 0, locals := 90 }
noncomputable def f_X9_passedNow (p3 : Int32) (t_water_width : Nat → Int32) (t_water_comes : Nat → Int32) (t_water_depth : Nat → Int32) (t_water_spill : Nat → Int32) (t_water_harmAt : Nat → Int32) (t_water_below : Int32) (t_water_allHarm : Int32) (t_water_spilling : Int32) (a_reaches : Int32) (a_ropes : Int32) (a_kind : Nat → Int32) (a_wide : Nat → Int32) (a_bank : Nat → Int32) (a_ropeAt : Nat → Int32) (a_pulls : Nat → Int32) (a_boatWide : Nat → Int32) (a_boatDeep : Nat → Int32) (b_laced : Int32) (b_flow : Int32) : Option (Int32 × (Nat → Int32) × (Nat → Int32) × (Nat → Int32) × (Nat → Int32) × (Nat → Int32) × Int32 × Int32 × Int32) :=
  (f_X8_run b_laced b_flow t_water_width t_water_comes t_water_depth t_water_spill t_water_harmAt t_water_below t_water_allHarm t_water_spilling a_reaches a_ropes a_kind a_wide a_bank a_ropeAt a_pulls).bind fun o1 => (f_X9_passed p3 o1.1 o1.2.2.1 a_reaches a_boatWide a_boatDeep).bind fun o2 => some (o2, o1.1, o1.2.1, o1.2.2.1, o1.2.2.2.1, o1.2.2.2.2.1, o1.2.2.2.2.2.1, o1.2.2.2.2.2.2.1, o1.2.2.2.2.2.2.2)
set_option maxHeartbeats 4000000 in
set_option maxRecDepth 100000 in
theorem c_X9_passedNow (l : Launch) (G : mx_G) (q_t : Nat) (q_t_water : Nat) (q_t_water_width : Nat) (q_t_water_comes : Nat) (q_t_water_depth : Nat) (q_t_water_spill : Nat) (q_t_water_harmAt : Nat) (q_a : Nat) (q_a_kind : Nat) (q_a_wide : Nat) (q_a_bank : Nat) (q_a_ropeAt : Nat) (q_a_pulls : Nat) (q_a_boatWide : Nat) (q_a_boatDeep : Nat) (q_b : Nat) (v_a_flow : Value) (v_a_tape : Value) (v_a_hands : Value) (v_a_boats : Value) (v_a_muds : Value) (v_a_loose : Value) (v_a_mud : Value) (v_a_bears : Value) (v_a_strong : Value) (v_b_burst : Value) (v_b_seed : Value) (v_b_wear : Value) (t_water_width : Nat → Int32) (t_water_comes : Nat → Int32) (t_water_depth : Nat → Int32) (t_water_spill : Nat → Int32) (t_water_harmAt : Nat → Int32) (t_water_below : Int32) (t_water_allHarm : Int32) (t_water_spilling : Int32) (a_reaches : Int32) (a_ropes : Int32) (a_kind : Nat → Int32) (a_wide : Nat → Int32) (a_bank : Nat → Int32) (a_ropeAt : Nat → Int32) (a_pulls : Nat → Int32) (a_boatWide : Nat → Int32) (a_boatDeep : Nat → Int32) (b_laced : Int32) (b_flow : Int32) (p3 : Int32) (out : Int32 × (Nat → Int32) × (Nat → Int32) × (Nat → Int32) × (Nat → Int32) × (Nat → Int32) × Int32 × Int32 × Int32) (hm : f_X9_passedNow p3 t_water_width t_water_comes t_water_depth t_water_spill t_water_harmAt t_water_below t_water_allHarm t_water_spilling a_reaches a_ropes a_kind a_wide a_bank a_ropeAt a_pulls a_boatWide a_boatDeep b_laced b_flow = some out) : mx_C l yX9_passedNow cX9_passedNow 4 (some .int) rm_X9_passedNow G [.ref q_t, .ref q_a, .ref q_b, .int p3] [xO q_t 9 [.ref q_t_water], xO q_t_water 8 [.ref q_t_water_width, .ref q_t_water_comes, .ref q_t_water_depth, .ref q_t_water_spill, .ref q_t_water_harmAt, .int t_water_below, .int t_water_allHarm, .int t_water_spilling], xI G q_t_water_width 6 t_water_width, xI G q_t_water_comes 6 t_water_comes, xI G q_t_water_depth 6 t_water_depth, xI G q_t_water_spill 6 t_water_spill, xI G q_t_water_harmAt 6 t_water_harmAt, xO q_a 6 [v_a_flow, v_a_tape, .int a_reaches, .int a_ropes, v_a_hands, v_a_boats, v_a_muds, v_a_loose, .ref q_a_kind, .ref q_a_wide, .ref q_a_bank, v_a_mud, .ref q_a_ropeAt, .ref q_a_pulls, v_a_bears, v_a_strong, .ref q_a_boatWide, .ref q_a_boatDeep], xI G q_a_kind 6 a_kind, xI G q_a_wide 6 a_wide, xI G q_a_bank 6 a_bank, xI G q_a_ropeAt 7 a_ropeAt, xI G q_a_pulls 7 a_pulls, xI G q_a_boatWide 5 a_boatWide, xI G q_a_boatDeep 5 a_boatDeep, xO q_b 7 [.int b_laced, v_b_burst, .int b_flow, v_b_seed, v_b_wear]] (some (.int out.1)) [xO q_t 9 [.ref q_t_water], xO q_t_water 8 [.ref q_t_water_width, .ref q_t_water_comes, .ref q_t_water_depth, .ref q_t_water_spill, .ref q_t_water_harmAt, .int out.2.2.2.2.2.2.1, .int out.2.2.2.2.2.2.2.1, .int out.2.2.2.2.2.2.2.2], xI G q_t_water_width 6 out.2.1, xI G q_t_water_comes 6 out.2.2.1, xI G q_t_water_depth 6 out.2.2.2.1, xI G q_t_water_spill 6 out.2.2.2.2.1, xI G q_t_water_harmAt 6 out.2.2.2.2.2.1, xO q_a 6 [v_a_flow, v_a_tape, .int a_reaches, .int a_ropes, v_a_hands, v_a_boats, v_a_muds, v_a_loose, .ref q_a_kind, .ref q_a_wide, .ref q_a_bank, v_a_mud, .ref q_a_ropeAt, .ref q_a_pulls, v_a_bears, v_a_strong, .ref q_a_boatWide, .ref q_a_boatDeep], xI G q_a_kind 6 a_kind, xI G q_a_wide 6 a_wide, xI G q_a_bank 6 a_bank, xI G q_a_ropeAt 7 a_ropeAt, xI G q_a_pulls 7 a_pulls, xI G q_a_boatWide 5 a_boatWide, xI G q_a_boatDeep 5 a_boatDeep, xO q_b 7 [.int b_laced, v_b_burst, .int b_flow, v_b_seed, v_b_wear]] := by
  refine mx_enter (own := RX9) (name := "passedNow") (lv := [(0, .ref q_t), (1, .ref q_a), (2, .ref q_b), (3, .int p3)]) (by decide) rfl rfl (Nat.le_of_ble_eq_true rfl) rfl ?_
  intro p e s m args below meth c A ls X hW hl
  obtain ⟨hx, hb, hml, hown, hts, hKN, -⟩ := id X
  unfold f_X9_passedNow at hm
  refine lv_aload_n hx hb dX9_passedNow_0 rfl (lv_at hl 0 rfl) ?_
  refine mx_get (C := RX9) (T := TX9) (N := 1) (ci := 9) X hW 0 rfl rfl tbc_X9 0 (by decide) kw_106 rfl dX9_passedNow_1 ?_
  refine lv_aload_n hx hb dX9_passedNow_4 rfl (lv_at hl 1 rfl) ?_
  refine lv_aload_n hx hb dX9_passedNow_5 rfl (lv_at hl 2 rfl) ?_
  refine mx_get (C := RX7) (T := TX7) (N := 5) (ci := 7) X hW 15 rfl rfl tbc_X7 0 (by decide) kw_998 rfl dX9_passedNow_6 ?_
  refine lv_aload_n hx hb dX9_passedNow_9 rfl (lv_at hl 2 rfl) ?_
  refine mx_get (C := RX7) (T := TX7) (N := 5) (ci := 7) X hW 15 rfl rfl tbc_X7 2 (by decide) kw_999 rfl dX9_passedNow_10 ?_
  obtain ⟨o1, ho1, hm⟩ := bd_s hm
  refine mx_callV (C := RX8) (T := TX8) (N := 8) (ci := 8) (n := 3) (As := [.ref q_a, .int b_laced, .int b_flow]) (rest := []) (st1 := []) (w2 := [xO q_t 9 [.ref q_t_water], xO q_t_water 8 [.ref q_t_water_width, .ref q_t_water_comes, .ref q_t_water_depth, .ref q_t_water_spill, .ref q_t_water_harmAt, .int o1.2.2.2.2.2.1, .int o1.2.2.2.2.2.2.1, .int o1.2.2.2.2.2.2.2], xI G q_t_water_width 6 o1.1, xI G q_t_water_comes 6 o1.2.1, xI G q_t_water_depth 6 o1.2.2.1, xI G q_t_water_spill 6 o1.2.2.2.1, xI G q_t_water_harmAt 6 o1.2.2.2.2.1, xO q_a 6 [v_a_flow, v_a_tape, .int a_reaches, .int a_ropes, v_a_hands, v_a_boats, v_a_muds, v_a_loose, .ref q_a_kind, .ref q_a_wide, .ref q_a_bank, v_a_mud, .ref q_a_ropeAt, .ref q_a_pulls, v_a_bears, v_a_strong, .ref q_a_boatWide, .ref q_a_boatDeep], xI G q_a_kind 6 a_kind, xI G q_a_wide 6 a_wide, xI G q_a_bank 6 a_bank, xI G q_a_ropeAt 7 a_ropeAt, xI G q_a_pulls 7 a_pulls, xI G q_a_boatWide 5 a_boatWide, xI G q_a_boatDeep 5 a_boatDeep, xO q_b 7 [.int b_laced, v_b_burst, .int b_flow, v_b_seed, v_b_wear]]) X hW hl.1 (c_X8_run l G q_t_water q_t_water_width q_t_water_comes q_t_water_depth q_t_water_spill q_t_water_harmAt q_a q_a_kind q_a_wide q_a_bank q_a_ropeAt q_a_pulls (v_a_flow) (v_a_tape) (v_a_hands) (v_a_boats) (v_a_muds) (v_a_loose) (v_a_mud) (v_a_bears) (v_a_strong) (.ref q_a_boatWide) (.ref q_a_boatDeep) t_water_width t_water_comes t_water_depth t_water_spill t_water_harmAt t_water_below t_water_allHarm t_water_spilling a_reaches a_ropes a_kind a_wide a_bank a_ropeAt a_pulls b_laced b_flow o1 ho1) 0 rfl rfl kw_1000 kw_592 kw_593 kw_27 kw_594 (by decide +kernel) ⟨rfl, rfl⟩ ⟨by decide, by decide⟩ ⟨Nat.zero_le _, Nat.zero_le _⟩ [1, 2, 3, 4, 5, 6, 7, 8, 9, 10, 11, 12] (by decide) rfl rfl rfl rfl rfl rfl (Nat.le_of_ble_eq_true rfl) rfl dX9_passedNow_13 (fun H locs hW => ?_)
  refine lv_aload_n hx hb dX9_passedNow_16 rfl (lv_at hl 0 rfl) ?_
  refine lv_aload_n hx hb dX9_passedNow_17 rfl (lv_at hl 1 rfl) ?_
  refine lv_iload_n hx hb dX9_passedNow_18 rfl (lv_at hl 3 rfl) ?_
  obtain ⟨o2, ho2, hm⟩ := bd_s hm
  refine mx_callV (C := RX9) (T := TX9) (N := 1) (ci := 9) (n := 2) (As := [.ref q_a, .int p3]) (rest := []) (st1 := [.int o2]) (w2 := [xO q_t 9 [.ref q_t_water], xO q_t_water 8 [.ref q_t_water_width, .ref q_t_water_comes, .ref q_t_water_depth, .ref q_t_water_spill, .ref q_t_water_harmAt, .int o1.2.2.2.2.2.1, .int o1.2.2.2.2.2.2.1, .int o1.2.2.2.2.2.2.2], xI G q_t_water_width 6 o1.1, xI G q_t_water_comes 6 o1.2.1, xI G q_t_water_depth 6 o1.2.2.1, xI G q_t_water_spill 6 o1.2.2.2.1, xI G q_t_water_harmAt 6 o1.2.2.2.2.1, xO q_a 6 [v_a_flow, v_a_tape, .int a_reaches, .int a_ropes, v_a_hands, v_a_boats, v_a_muds, v_a_loose, .ref q_a_kind, .ref q_a_wide, .ref q_a_bank, v_a_mud, .ref q_a_ropeAt, .ref q_a_pulls, v_a_bears, v_a_strong, .ref q_a_boatWide, .ref q_a_boatDeep], xI G q_a_kind 6 a_kind, xI G q_a_wide 6 a_wide, xI G q_a_bank 6 a_bank, xI G q_a_ropeAt 7 a_ropeAt, xI G q_a_pulls 7 a_pulls, xI G q_a_boatWide 5 a_boatWide, xI G q_a_boatDeep 5 a_boatDeep, xO q_b 7 [.int b_laced, v_b_burst, .int b_flow, v_b_seed, v_b_wear]]) X hW hl.1 (c_X9_passed l G q_t q_t_water q_t_water_width q_t_water_depth q_a q_a_boatWide q_a_boatDeep (.ref q_t_water_comes) (.ref q_t_water_spill) (.ref q_t_water_harmAt) (.int o1.2.2.2.2.2.1) (.int o1.2.2.2.2.2.2.1) (.int o1.2.2.2.2.2.2.2) (v_a_flow) (v_a_tape) (.int a_ropes) (v_a_hands) (v_a_boats) (v_a_muds) (v_a_loose) (.ref q_a_kind) (.ref q_a_wide) (.ref q_a_bank) (v_a_mud) (.ref q_a_ropeAt) (.ref q_a_pulls) (v_a_bears) (v_a_strong) o1.1 o1.2.2.1 a_reaches a_boatWide a_boatDeep p3 o2 ho2) 0 rfl rfl kw_1001 kw_1002 kw_1003 kw_35 kw_1004 (by decide +kernel) ⟨rfl, rfl⟩ ⟨by decide, by decide⟩ ⟨Nat.zero_le _, Nat.zero_le _⟩ [0, 1, 2, 4, 7, 13, 14] (by decide) rfl rfl rfl rfl rfl rfl (Nat.le_of_ble_eq_true rfl) rfl dX9_passedNow_19 (fun H locs hW => ?_)
  obtain rfl := Option.some.inj hm
  exact mx_iret X hW dX9_passedNow_22

abbrev rm_X9_farthest : Room := { frames := 4, cells := 0, slots := 0, locals := 90 }
noncomputable def f_X9_farthest_L25 (k_66 : Int32 → Option (Int32 × (Nat → Int32) × (Nat → Int32) × (Nat → Int32) × (Nat → Int32) × (Nat → Int32) × Int32 × Int32 × Int32)) (t_water_width : Nat → Int32) (t_water_depth : Nat → Int32) (a_reaches : Int32) (a_boats : Int32) (a_boatWide : Nat → Int32) (a_boatDeep : Nat → Int32) : Nat → Int32 → Int32 → Int32 → Option (Int32 × (Nat → Int32) × (Nat → Int32) × (Nat → Int32) × (Nat → Int32) × (Nat → Int32) × Int32 × Int32 × Int32)
  | 0, _, _, _ => none
  | n + 1, x3, x4, x5 =>
    (if a_boats ≤ x5 then
      k_66 x3
    else
      (f_X9_passed x5 t_water_width t_water_depth a_reaches a_boatWide a_boatDeep).bind fun o3 => (f_J6_bitCount_0f7a4 o3).bind fun o4 => (if o4 ≤ x4 then
        f_X9_farthest_L25 k_66 t_water_width t_water_depth a_reaches a_boats a_boatWide a_boatDeep n x3 x4 (x5 + 1)
      else
        f_X9_farthest_L25 k_66 t_water_width t_water_depth a_reaches a_boats a_boatWide a_boatDeep n x5 o4 (x5 + 1)))
noncomputable def f_X9_farthest (t_water_width : Nat → Int32) (t_water_comes : Nat → Int32) (t_water_depth : Nat → Int32) (t_water_spill : Nat → Int32) (t_water_harmAt : Nat → Int32) (t_water_below : Int32) (t_water_allHarm : Int32) (t_water_spilling : Int32) (a_reaches : Int32) (a_ropes : Int32) (a_boats : Int32) (a_kind : Nat → Int32) (a_wide : Nat → Int32) (a_bank : Nat → Int32) (a_ropeAt : Nat → Int32) (a_pulls : Nat → Int32) (a_boatWide : Nat → Int32) (a_boatDeep : Nat → Int32) (b_laced : Int32) (b_flow : Int32) : Option (Int32 × (Nat → Int32) × (Nat → Int32) × (Nat → Int32) × (Nat → Int32) × (Nat → Int32) × Int32 × Int32 × Int32) :=
  (f_X8_run b_laced b_flow t_water_width t_water_comes t_water_depth t_water_spill t_water_harmAt t_water_below t_water_allHarm t_water_spilling a_reaches a_ropes a_kind a_wide a_bank a_ropeAt a_pulls).bind fun o1 => f_X9_farthest_L25 (fun x3_25 =>
    some (x3_25, o1.1, o1.2.1, o1.2.2.1, o1.2.2.2.1, o1.2.2.2.2.1, o1.2.2.2.2.2.1, o1.2.2.2.2.2.2.1, o1.2.2.2.2.2.2.2)) o1.1 o1.2.2.1 a_reaches a_boats a_boatWide a_boatDeep 2000 ((-2)) ((-1)) 0
set_option maxHeartbeats 4000000 in
set_option maxRecDepth 100000 in
theorem w_X9_farthest_L25 {p : Program} {l : Launch} {e : Env} {s : State} {m : MethodId} {args : Array Value} {below : List Frame} {meth : Method} {c : Code} {A : Nat → Prop} {G : mx_G} (X : mx_X p s m args meth c RX9 "farthest" cX9_farthest 7 (some .int) G) (q_t : Nat) (q_t_water : Nat) (q_t_water_width : Nat) (q_t_water_comes : Nat) (q_t_water_depth : Nat) (q_t_water_spill : Nat) (q_t_water_harmAt : Nat) (q_a : Nat) (q_a_kind : Nat) (q_a_wide : Nat) (q_a_bank : Nat) (q_a_ropeAt : Nat) (q_a_pulls : Nat) (q_a_boatWide : Nat) (q_a_boatDeep : Nat) (q_b : Nat) (v_a_flow : Value) (v_a_tape : Value) (v_a_hands : Value) (v_a_muds : Value) (v_a_loose : Value) (v_a_mud : Value) (v_a_bears : Value) (v_a_strong : Value) (v_b_burst : Value) (v_b_seed : Value) (v_b_wear : Value) (t_water_width : Nat → Int32) (t_water_comes : Nat → Int32) (t_water_depth : Nat → Int32) (t_water_spill : Nat → Int32) (t_water_harmAt : Nat → Int32) (t_water_below : Int32) (t_water_allHarm : Int32) (t_water_spilling : Int32) (a_reaches : Int32) (a_ropes : Int32) (a_boats : Int32) (a_kind : Nat → Int32) (a_wide : Nat → Int32) (a_bank : Nat → Int32) (a_ropeAt : Nat → Int32) (a_pulls : Nat → Int32) (a_boatWide : Nat → Int32) (a_boatDeep : Nat → Int32) (b_laced : Int32) (b_flow : Int32)  (out : Int32 × (Nat → Int32) × (Nat → Int32) × (Nat → Int32) × (Nat → Int32) × (Nat → Int32) × Int32 × Int32 × Int32) (k_66 : Int32 → Option (Int32 × (Nat → Int32) × (Nat → Int32) × (Nat → Int32) × (Nat → Int32) × (Nat → Int32) × Int32 × Int32 × Int32)) (hk_66 : ∀ (x3 : Int32) (H : Heap) (locs : List Loc) (ls : Array Slot), k_66 x3 = some out → mx_W G s A [xO q_t 9 [.ref q_t_water], xO q_t_water 8 [.ref q_t_water_width, .ref q_t_water_comes, .ref q_t_water_depth, .ref q_t_water_spill, .ref q_t_water_harmAt, .int t_water_below, .int t_water_allHarm, .int t_water_spilling], xI G q_t_water_width 6 t_water_width, xI G q_t_water_comes 6 t_water_comes, xI G q_t_water_depth 6 t_water_depth, xI G q_t_water_spill 6 t_water_spill, xI G q_t_water_harmAt 6 t_water_harmAt, xO q_a 6 [v_a_flow, v_a_tape, .int a_reaches, .int a_ropes, v_a_hands, .int a_boats, v_a_muds, v_a_loose, .ref q_a_kind, .ref q_a_wide, .ref q_a_bank, v_a_mud, .ref q_a_ropeAt, .ref q_a_pulls, v_a_bears, v_a_strong, .ref q_a_boatWide, .ref q_a_boatDeep], xI G q_a_kind 6 a_kind, xI G q_a_wide 6 a_wide, xI G q_a_bank 6 a_bank, xI G q_a_ropeAt 7 a_ropeAt, xI G q_a_pulls 7 a_pulls, xI G q_a_boatWide 5 a_boatWide, xI G q_a_boatDeep 5 a_boatDeep, xO q_b 7 [.int b_laced, v_b_burst, .int b_flow, v_b_seed, v_b_wear]] H locs → lv_has ls 7 [(3, .int x3)] → W p l e rm_X9_farthest s m args below meth c H locs 0 0 (MQ below (mx_Q G (some (.int out.1)) [xO q_t 9 [.ref q_t_water], xO q_t_water 8 [.ref q_t_water_width, .ref q_t_water_comes, .ref q_t_water_depth, .ref q_t_water_spill, .ref q_t_water_harmAt, .int out.2.2.2.2.2.2.1, .int out.2.2.2.2.2.2.2.1, .int out.2.2.2.2.2.2.2.2], xI G q_t_water_width 6 out.2.1, xI G q_t_water_comes 6 out.2.2.1, xI G q_t_water_depth 6 out.2.2.2.1, xI G q_t_water_spill 6 out.2.2.2.2.1, xI G q_t_water_harmAt 6 out.2.2.2.2.2.1, xO q_a 6 [v_a_flow, v_a_tape, .int a_reaches, .int a_ropes, v_a_hands, .int a_boats, v_a_muds, v_a_loose, .ref q_a_kind, .ref q_a_wide, .ref q_a_bank, v_a_mud, .ref q_a_ropeAt, .ref q_a_pulls, v_a_bears, v_a_strong, .ref q_a_boatWide, .ref q_a_boatDeep], xI G q_a_kind 6 a_kind, xI G q_a_wide 6 a_wide, xI G q_a_bank 6 a_bank, xI G q_a_ropeAt 7 a_ropeAt, xI G q_a_pulls 7 a_pulls, xI G q_a_boatWide 5 a_boatWide, xI G q_a_boatDeep 5 a_boatDeep, xO q_b 7 [.int b_laced, v_b_burst, .int b_flow, v_b_seed, v_b_wear]] A) args s 0 0 A) (F0 m 66 ls [])) : ∀ (n : Nat) (x3 : Int32) (x4 : Int32) (x5 : Int32) (H : Heap) (locs : List Loc) (ls : Array Slot), f_X9_farthest_L25 k_66 t_water_width t_water_depth a_reaches a_boats a_boatWide a_boatDeep n x3 x4 x5 = some out → mx_W G s A [xO q_t 9 [.ref q_t_water], xO q_t_water 8 [.ref q_t_water_width, .ref q_t_water_comes, .ref q_t_water_depth, .ref q_t_water_spill, .ref q_t_water_harmAt, .int t_water_below, .int t_water_allHarm, .int t_water_spilling], xI G q_t_water_width 6 t_water_width, xI G q_t_water_comes 6 t_water_comes, xI G q_t_water_depth 6 t_water_depth, xI G q_t_water_spill 6 t_water_spill, xI G q_t_water_harmAt 6 t_water_harmAt, xO q_a 6 [v_a_flow, v_a_tape, .int a_reaches, .int a_ropes, v_a_hands, .int a_boats, v_a_muds, v_a_loose, .ref q_a_kind, .ref q_a_wide, .ref q_a_bank, v_a_mud, .ref q_a_ropeAt, .ref q_a_pulls, v_a_bears, v_a_strong, .ref q_a_boatWide, .ref q_a_boatDeep], xI G q_a_kind 6 a_kind, xI G q_a_wide 6 a_wide, xI G q_a_bank 6 a_bank, xI G q_a_ropeAt 7 a_ropeAt, xI G q_a_pulls 7 a_pulls, xI G q_a_boatWide 5 a_boatWide, xI G q_a_boatDeep 5 a_boatDeep, xO q_b 7 [.int b_laced, v_b_burst, .int b_flow, v_b_seed, v_b_wear]] H locs → lv_has ls 7 [(0, .ref q_t), (1, .ref q_a), (3, .int x3), (4, .int x4), (5, .int x5)] → W p l e rm_X9_farthest s m args below meth c H locs 0 0 (MQ below (mx_Q G (some (.int out.1)) [xO q_t 9 [.ref q_t_water], xO q_t_water 8 [.ref q_t_water_width, .ref q_t_water_comes, .ref q_t_water_depth, .ref q_t_water_spill, .ref q_t_water_harmAt, .int out.2.2.2.2.2.2.1, .int out.2.2.2.2.2.2.2.1, .int out.2.2.2.2.2.2.2.2], xI G q_t_water_width 6 out.2.1, xI G q_t_water_comes 6 out.2.2.1, xI G q_t_water_depth 6 out.2.2.2.1, xI G q_t_water_spill 6 out.2.2.2.2.1, xI G q_t_water_harmAt 6 out.2.2.2.2.2.1, xO q_a 6 [v_a_flow, v_a_tape, .int a_reaches, .int a_ropes, v_a_hands, .int a_boats, v_a_muds, v_a_loose, .ref q_a_kind, .ref q_a_wide, .ref q_a_bank, v_a_mud, .ref q_a_ropeAt, .ref q_a_pulls, v_a_bears, v_a_strong, .ref q_a_boatWide, .ref q_a_boatDeep], xI G q_a_kind 6 a_kind, xI G q_a_wide 6 a_wide, xI G q_a_bank 6 a_bank, xI G q_a_ropeAt 7 a_ropeAt, xI G q_a_pulls 7 a_pulls, xI G q_a_boatWide 5 a_boatWide, xI G q_a_boatDeep 5 a_boatDeep, xO q_b 7 [.int b_laced, v_b_burst, .int b_flow, v_b_seed, v_b_wear]] A) args s 0 0 A) (F0 m 25 ls []) := by
  obtain ⟨hx, hb, hml, hown, hts, hKN, -⟩ := id X
  intro n
  induction n with
  | zero => intro x3 x4 x5 H locs ls hm hW hl; exact absurd (show none = some out from hm) (fun h => by cases h)
  | succ n ih =>
    intro x3 x4 x5 H locs ls hm hW hl
    rw [f_X9_farthest_L25] at hm
    refine lv_iload hx hb dX9_farthest_25 (lv_at hl 4 rfl) ?_
    refine lv_aload_n hx hb dX9_farthest_27 rfl (lv_at hl 1 rfl) ?_
    refine mx_get (C := RX6) (T := TX6) (N := 18) (ci := 6) X hW 7 rfl rfl tbc_X6 5 (by decide) kw_1059 rfl dX9_farthest_28 ?_
    refine lv_icmp_ge (tgt := 66) hx hb dX9_farthest_31 (by decide) (fun c2 => ?_) (fun c2 => ?_)
    · have hm := (if_pos c2).symm.trans hm
      exact hk_66 x3 _ _ _ hm hW (lv_sub hl [2] rfl)
    · have hm := (if_neg c2).symm.trans hm
      refine lv_aload_n hx hb dX9_farthest_34 rfl (lv_at hl 0 rfl) ?_
      refine lv_aload_n hx hb dX9_farthest_35 rfl (lv_at hl 1 rfl) ?_
      refine lv_iload hx hb dX9_farthest_36 (lv_at hl 4 rfl) ?_
      obtain ⟨o3, ho3, hm⟩ := bd_s hm
      refine mx_callV (C := RX9) (T := TX9) (N := 1) (ci := 9) (n := 2) (As := [.ref q_a, .int x5]) (rest := []) (st1 := [.int o3]) (w2 := [xO q_t 9 [.ref q_t_water], xO q_t_water 8 [.ref q_t_water_width, .ref q_t_water_comes, .ref q_t_water_depth, .ref q_t_water_spill, .ref q_t_water_harmAt, .int t_water_below, .int t_water_allHarm, .int t_water_spilling], xI G q_t_water_width 6 t_water_width, xI G q_t_water_comes 6 t_water_comes, xI G q_t_water_depth 6 t_water_depth, xI G q_t_water_spill 6 t_water_spill, xI G q_t_water_harmAt 6 t_water_harmAt, xO q_a 6 [v_a_flow, v_a_tape, .int a_reaches, .int a_ropes, v_a_hands, .int a_boats, v_a_muds, v_a_loose, .ref q_a_kind, .ref q_a_wide, .ref q_a_bank, v_a_mud, .ref q_a_ropeAt, .ref q_a_pulls, v_a_bears, v_a_strong, .ref q_a_boatWide, .ref q_a_boatDeep], xI G q_a_kind 6 a_kind, xI G q_a_wide 6 a_wide, xI G q_a_bank 6 a_bank, xI G q_a_ropeAt 7 a_ropeAt, xI G q_a_pulls 7 a_pulls, xI G q_a_boatWide 5 a_boatWide, xI G q_a_boatDeep 5 a_boatDeep, xO q_b 7 [.int b_laced, v_b_burst, .int b_flow, v_b_seed, v_b_wear]]) X hW hl.1 (c_X9_passed l G q_t q_t_water q_t_water_width q_t_water_depth q_a q_a_boatWide q_a_boatDeep (.ref q_t_water_comes) (.ref q_t_water_spill) (.ref q_t_water_harmAt) (.int t_water_below) (.int t_water_allHarm) (.int t_water_spilling) (v_a_flow) (v_a_tape) (.int a_ropes) (v_a_hands) (.int a_boats) (v_a_muds) (v_a_loose) (.ref q_a_kind) (.ref q_a_wide) (.ref q_a_bank) (v_a_mud) (.ref q_a_ropeAt) (.ref q_a_pulls) (v_a_bears) (v_a_strong) t_water_width t_water_depth a_reaches a_boatWide a_boatDeep x5 o3 ho3) 0 rfl rfl kw_1001 kw_1002 kw_1003 kw_35 kw_1004 (by decide +kernel) ⟨rfl, rfl⟩ ⟨by decide, by decide⟩ ⟨Nat.zero_le _, Nat.zero_le _⟩ [0, 1, 2, 4, 7, 13, 14] (by decide) rfl rfl rfl rfl rfl rfl (Nat.le_of_ble_eq_true rfl) rfl dX9_farthest_38 (fun H locs hW => ?_)
      obtain ⟨o4, ho4, hm⟩ := bd_s hm
      refine mx_callS (n := 1) (As := [.int o3]) (rest := []) (st1 := [.int o4]) (w2 := [xO q_t 9 [.ref q_t_water], xO q_t_water 8 [.ref q_t_water_width, .ref q_t_water_comes, .ref q_t_water_depth, .ref q_t_water_spill, .ref q_t_water_harmAt, .int t_water_below, .int t_water_allHarm, .int t_water_spilling], xI G q_t_water_width 6 t_water_width, xI G q_t_water_comes 6 t_water_comes, xI G q_t_water_depth 6 t_water_depth, xI G q_t_water_spill 6 t_water_spill, xI G q_t_water_harmAt 6 t_water_harmAt, xO q_a 6 [v_a_flow, v_a_tape, .int a_reaches, .int a_ropes, v_a_hands, .int a_boats, v_a_muds, v_a_loose, .ref q_a_kind, .ref q_a_wide, .ref q_a_bank, v_a_mud, .ref q_a_ropeAt, .ref q_a_pulls, v_a_bears, v_a_strong, .ref q_a_boatWide, .ref q_a_boatDeep], xI G q_a_kind 6 a_kind, xI G q_a_wide 6 a_wide, xI G q_a_bank 6 a_bank, xI G q_a_ropeAt 7 a_ropeAt, xI G q_a_pulls 7 a_pulls, xI G q_a_boatWide 5 a_boatWide, xI G q_a_boatDeep 5 a_boatDeep, xO q_b 7 [.int b_laced, v_b_burst, .int b_flow, v_b_seed, v_b_wear]]) X hW hl.1 (c_J6_bitCount_0f7a4 l G o3 o4 ho4) kw_1042 kw_888 kw_889 kw_890 (by decide +kernel) ⟨rfl, rfl⟩ ⟨by decide, by decide⟩ ⟨Nat.zero_le _, Nat.zero_le _⟩ [] (by decide) rfl rfl rfl rfl rfl rfl (Nat.le_of_ble_eq_true rfl) rfl dX9_farthest_41 (fun H locs hW => ?_)
      refine lv_istore (lv' := [(6, .int o4), (0, .ref q_t), (1, .ref q_a), (3, .int x3), (4, .int x4), (5, .int x5)]) hx hb dX9_farthest_44 hl (by decide) rfl (fun ls hl => ?_)
      refine lv_iload hx hb dX9_farthest_46 (lv_at hl 0 rfl) ?_
      refine lv_iload hx hb dX9_farthest_48 (lv_at hl 4 rfl) ?_
      refine lv_icmp_le (tgt := 60) hx hb dX9_farthest_50 (by decide) (fun c5 => ?_) (fun c5 => ?_)
      · have hm := (if_pos c5).symm.trans hm
        refine lv_iinc (v := x5 + 1) (lv' := [(5, .int (x5 + 1)), (6, .int o4), (0, .ref q_t), (1, .ref q_a), (3, .int x3), (4, .int x4)]) hx hb dX9_farthest_60 hl (k := 5) rfl rfl (by decide) rfl (fun ls hl => ?_)
        refine lv_goto (tgt := 25) hx hb dX9_farthest_63 (by decide) ?_
        exact ih x3 x4 (x5 + 1) _ _ _ hm hW (lv_sub hl [2, 3, 4, 5, 0] rfl)
      · have hm := (if_neg c5).symm.trans hm
        refine lv_iload hx hb dX9_farthest_53 (lv_at hl 0 rfl) ?_
        refine lv_istore (lv' := [(4, .int o4), (6, .int o4), (0, .ref q_t), (1, .ref q_a), (3, .int x3), (5, .int x5)]) hx hb dX9_farthest_55 hl (by decide) rfl (fun ls hl => ?_)
        refine lv_iload hx hb dX9_farthest_57 (lv_at hl 5 rfl) ?_
        refine lv_istore_n (lv' := [(3, .int x5), (4, .int o4), (6, .int o4), (0, .ref q_t), (1, .ref q_a), (5, .int x5)]) hx hb dX9_farthest_59 rfl hl (by decide) rfl (fun ls hl => ?_)
        refine lv_iinc (v := x5 + 1) (lv' := [(5, .int (x5 + 1)), (3, .int x5), (4, .int o4), (6, .int o4), (0, .ref q_t), (1, .ref q_a)]) hx hb dX9_farthest_60 hl (k := 5) rfl rfl (by decide) rfl (fun ls hl => ?_)
        refine lv_goto (tgt := 25) hx hb dX9_farthest_63 (by decide) ?_
        exact ih x5 o4 (x5 + 1) _ _ _ hm hW (lv_sub hl [4, 5, 1, 2, 0] rfl)
set_option maxHeartbeats 4000000 in
set_option maxRecDepth 100000 in
theorem c_X9_farthest (l : Launch) (G : mx_G) (q_t : Nat) (q_t_water : Nat) (q_t_water_width : Nat) (q_t_water_comes : Nat) (q_t_water_depth : Nat) (q_t_water_spill : Nat) (q_t_water_harmAt : Nat) (q_a : Nat) (q_a_kind : Nat) (q_a_wide : Nat) (q_a_bank : Nat) (q_a_ropeAt : Nat) (q_a_pulls : Nat) (q_a_boatWide : Nat) (q_a_boatDeep : Nat) (q_b : Nat) (v_a_flow : Value) (v_a_tape : Value) (v_a_hands : Value) (v_a_muds : Value) (v_a_loose : Value) (v_a_mud : Value) (v_a_bears : Value) (v_a_strong : Value) (v_b_burst : Value) (v_b_seed : Value) (v_b_wear : Value) (t_water_width : Nat → Int32) (t_water_comes : Nat → Int32) (t_water_depth : Nat → Int32) (t_water_spill : Nat → Int32) (t_water_harmAt : Nat → Int32) (t_water_below : Int32) (t_water_allHarm : Int32) (t_water_spilling : Int32) (a_reaches : Int32) (a_ropes : Int32) (a_boats : Int32) (a_kind : Nat → Int32) (a_wide : Nat → Int32) (a_bank : Nat → Int32) (a_ropeAt : Nat → Int32) (a_pulls : Nat → Int32) (a_boatWide : Nat → Int32) (a_boatDeep : Nat → Int32) (b_laced : Int32) (b_flow : Int32) (out : Int32 × (Nat → Int32) × (Nat → Int32) × (Nat → Int32) × (Nat → Int32) × (Nat → Int32) × Int32 × Int32 × Int32) (hm : f_X9_farthest t_water_width t_water_comes t_water_depth t_water_spill t_water_harmAt t_water_below t_water_allHarm t_water_spilling a_reaches a_ropes a_boats a_kind a_wide a_bank a_ropeAt a_pulls a_boatWide a_boatDeep b_laced b_flow = some out) : mx_C l yX9_farthest cX9_farthest 7 (some .int) rm_X9_farthest G [.ref q_t, .ref q_a, .ref q_b] [xO q_t 9 [.ref q_t_water], xO q_t_water 8 [.ref q_t_water_width, .ref q_t_water_comes, .ref q_t_water_depth, .ref q_t_water_spill, .ref q_t_water_harmAt, .int t_water_below, .int t_water_allHarm, .int t_water_spilling], xI G q_t_water_width 6 t_water_width, xI G q_t_water_comes 6 t_water_comes, xI G q_t_water_depth 6 t_water_depth, xI G q_t_water_spill 6 t_water_spill, xI G q_t_water_harmAt 6 t_water_harmAt, xO q_a 6 [v_a_flow, v_a_tape, .int a_reaches, .int a_ropes, v_a_hands, .int a_boats, v_a_muds, v_a_loose, .ref q_a_kind, .ref q_a_wide, .ref q_a_bank, v_a_mud, .ref q_a_ropeAt, .ref q_a_pulls, v_a_bears, v_a_strong, .ref q_a_boatWide, .ref q_a_boatDeep], xI G q_a_kind 6 a_kind, xI G q_a_wide 6 a_wide, xI G q_a_bank 6 a_bank, xI G q_a_ropeAt 7 a_ropeAt, xI G q_a_pulls 7 a_pulls, xI G q_a_boatWide 5 a_boatWide, xI G q_a_boatDeep 5 a_boatDeep, xO q_b 7 [.int b_laced, v_b_burst, .int b_flow, v_b_seed, v_b_wear]] (some (.int out.1)) [xO q_t 9 [.ref q_t_water], xO q_t_water 8 [.ref q_t_water_width, .ref q_t_water_comes, .ref q_t_water_depth, .ref q_t_water_spill, .ref q_t_water_harmAt, .int out.2.2.2.2.2.2.1, .int out.2.2.2.2.2.2.2.1, .int out.2.2.2.2.2.2.2.2], xI G q_t_water_width 6 out.2.1, xI G q_t_water_comes 6 out.2.2.1, xI G q_t_water_depth 6 out.2.2.2.1, xI G q_t_water_spill 6 out.2.2.2.2.1, xI G q_t_water_harmAt 6 out.2.2.2.2.2.1, xO q_a 6 [v_a_flow, v_a_tape, .int a_reaches, .int a_ropes, v_a_hands, .int a_boats, v_a_muds, v_a_loose, .ref q_a_kind, .ref q_a_wide, .ref q_a_bank, v_a_mud, .ref q_a_ropeAt, .ref q_a_pulls, v_a_bears, v_a_strong, .ref q_a_boatWide, .ref q_a_boatDeep], xI G q_a_kind 6 a_kind, xI G q_a_wide 6 a_wide, xI G q_a_bank 6 a_bank, xI G q_a_ropeAt 7 a_ropeAt, xI G q_a_pulls 7 a_pulls, xI G q_a_boatWide 5 a_boatWide, xI G q_a_boatDeep 5 a_boatDeep, xO q_b 7 [.int b_laced, v_b_burst, .int b_flow, v_b_seed, v_b_wear]] := by
  refine mx_enter (own := RX9) (name := "farthest") (lv := [(0, .ref q_t), (1, .ref q_a), (2, .ref q_b)]) (by decide) rfl rfl (Nat.le_of_ble_eq_true rfl) rfl ?_
  intro p e s m args below meth c A ls X hW hl
  obtain ⟨hx, hb, hml, hown, hts, hKN, -⟩ := id X
  unfold f_X9_farthest at hm
  refine lv_aload_n hx hb dX9_farthest_0 rfl (lv_at hl 0 rfl) ?_
  refine mx_get (C := RX9) (T := TX9) (N := 1) (ci := 9) X hW 0 rfl rfl tbc_X9 0 (by decide) kw_106 rfl dX9_farthest_1 ?_
  refine lv_aload_n hx hb dX9_farthest_4 rfl (lv_at hl 1 rfl) ?_
  refine lv_aload_n hx hb dX9_farthest_5 rfl (lv_at hl 2 rfl) ?_
  refine mx_get (C := RX7) (T := TX7) (N := 5) (ci := 7) X hW 15 rfl rfl tbc_X7 0 (by decide) kw_998 rfl dX9_farthest_6 ?_
  refine lv_aload_n hx hb dX9_farthest_9 rfl (lv_at hl 2 rfl) ?_
  refine mx_get (C := RX7) (T := TX7) (N := 5) (ci := 7) X hW 15 rfl rfl tbc_X7 2 (by decide) kw_999 rfl dX9_farthest_10 ?_
  obtain ⟨o1, ho1, hm⟩ := bd_s hm
  refine mx_callV (C := RX8) (T := TX8) (N := 8) (ci := 8) (n := 3) (As := [.ref q_a, .int b_laced, .int b_flow]) (rest := []) (st1 := []) (w2 := [xO q_t 9 [.ref q_t_water], xO q_t_water 8 [.ref q_t_water_width, .ref q_t_water_comes, .ref q_t_water_depth, .ref q_t_water_spill, .ref q_t_water_harmAt, .int o1.2.2.2.2.2.1, .int o1.2.2.2.2.2.2.1, .int o1.2.2.2.2.2.2.2], xI G q_t_water_width 6 o1.1, xI G q_t_water_comes 6 o1.2.1, xI G q_t_water_depth 6 o1.2.2.1, xI G q_t_water_spill 6 o1.2.2.2.1, xI G q_t_water_harmAt 6 o1.2.2.2.2.1, xO q_a 6 [v_a_flow, v_a_tape, .int a_reaches, .int a_ropes, v_a_hands, .int a_boats, v_a_muds, v_a_loose, .ref q_a_kind, .ref q_a_wide, .ref q_a_bank, v_a_mud, .ref q_a_ropeAt, .ref q_a_pulls, v_a_bears, v_a_strong, .ref q_a_boatWide, .ref q_a_boatDeep], xI G q_a_kind 6 a_kind, xI G q_a_wide 6 a_wide, xI G q_a_bank 6 a_bank, xI G q_a_ropeAt 7 a_ropeAt, xI G q_a_pulls 7 a_pulls, xI G q_a_boatWide 5 a_boatWide, xI G q_a_boatDeep 5 a_boatDeep, xO q_b 7 [.int b_laced, v_b_burst, .int b_flow, v_b_seed, v_b_wear]]) X hW hl.1 (c_X8_run l G q_t_water q_t_water_width q_t_water_comes q_t_water_depth q_t_water_spill q_t_water_harmAt q_a q_a_kind q_a_wide q_a_bank q_a_ropeAt q_a_pulls (v_a_flow) (v_a_tape) (v_a_hands) (.int a_boats) (v_a_muds) (v_a_loose) (v_a_mud) (v_a_bears) (v_a_strong) (.ref q_a_boatWide) (.ref q_a_boatDeep) t_water_width t_water_comes t_water_depth t_water_spill t_water_harmAt t_water_below t_water_allHarm t_water_spilling a_reaches a_ropes a_kind a_wide a_bank a_ropeAt a_pulls b_laced b_flow o1 ho1) 0 rfl rfl kw_1000 kw_592 kw_593 kw_27 kw_594 (by decide +kernel) ⟨rfl, rfl⟩ ⟨by decide, by decide⟩ ⟨Nat.zero_le _, Nat.zero_le _⟩ [1, 2, 3, 4, 5, 6, 7, 8, 9, 10, 11, 12] (by decide) rfl rfl rfl rfl rfl rfl (Nat.le_of_ble_eq_true rfl) rfl dX9_farthest_13 (fun H locs hW => ?_)
  refine lv_bipush (v := (-2)) hx hb dX9_farthest_16 (by decide) ?_
  refine lv_istore_n (lv' := [(3, .int ((-2))), (0, .ref q_t), (1, .ref q_a), (2, .ref q_b)]) hx hb dX9_farthest_18 rfl hl (by decide) rfl (fun ls hl => ?_)
  refine lv_iconst (v := (-1)) hx hb dX9_farthest_19 (by decide) ?_
  refine lv_istore (lv' := [(4, .int ((-1))), (3, .int ((-2))), (0, .ref q_t), (1, .ref q_a), (2, .ref q_b)]) hx hb dX9_farthest_20 hl (by decide) rfl (fun ls hl => ?_)
  refine lv_iconst (v := 0) hx hb dX9_farthest_22 (by decide) ?_
  refine lv_istore (lv' := [(5, .int 0), (4, .int ((-1))), (3, .int ((-2))), (0, .ref q_t), (1, .ref q_a), (2, .ref q_b)]) hx hb dX9_farthest_23 hl (by decide) rfl (fun ls hl => ?_)
  refine w_X9_farthest_L25 X q_t q_t_water q_t_water_width q_t_water_comes q_t_water_depth q_t_water_spill q_t_water_harmAt q_a q_a_kind q_a_wide q_a_bank q_a_ropeAt q_a_pulls q_a_boatWide q_a_boatDeep q_b (v_a_flow) (v_a_tape) (v_a_hands) (v_a_muds) (v_a_loose) (v_a_mud) (v_a_bears) (v_a_strong) (v_b_burst) (v_b_seed) (v_b_wear) o1.1 o1.2.1 o1.2.2.1 o1.2.2.2.1 o1.2.2.2.2.1 o1.2.2.2.2.2.1 o1.2.2.2.2.2.2.1 o1.2.2.2.2.2.2.2 a_reaches a_ropes a_boats a_kind a_wide a_bank a_ropeAt a_pulls a_boatWide a_boatDeep b_laced b_flow out _ (fun x3_25 H locs ls hm hW hl => ?_) _ ((-2)) ((-1)) 0 _ _ _ hm hW (lv_sub hl [3, 4, 2, 1, 0] rfl)
  refine lv_iload_n hx hb dX9_farthest_66 rfl (lv_at hl 0 rfl) ?_
  obtain rfl := Option.some.inj hm
  exact mx_iret X hW dX9_farthest_67

abbrev rm_X9_isFewer : Room := { frames := 1, cells := 0, slots := 0, locals := 20 }
noncomputable def f_X9_isFewer (p1 : Int32) (p2 : Int32) : Option (Int32) :=
  (if p2 = ((-2)) then
    some 1
  else
    (f_J6_bitCount_0f7a4 p1).bind fun o2 => (f_J6_bitCount_0f7a4 p2).bind fun o3 => (if o3 ≤ o2 then
      some 0
    else
      some 1))
set_option maxHeartbeats 4000000 in
set_option maxRecDepth 100000 in
theorem c_X9_isFewer (l : Launch) (G : mx_G) (p1 : Int32) (p2 : Int32) (out : Int32) (hm : f_X9_isFewer p1 p2 = some out) : mx_C l yX9_isFewer cX9_isFewer 2 (some .boolean) rm_X9_isFewer G [.int p1, .int p2] [] (some (.int out)) [] := by
  refine mx_enter (own := RX9) (name := "isFewer") (lv := [(0, .int p1), (1, .int p2)]) (by decide) rfl rfl (Nat.le_of_ble_eq_true rfl) rfl ?_
  intro p e s m args below meth c A ls X hW hl
  obtain ⟨hx, hb, hml, hown, hts, hKN, -⟩ := id X
  unfold f_X9_isFewer at hm
  refine lv_iload_n hx hb dX9_isFewer_0 rfl (lv_at hl 1 rfl) ?_
  refine lv_bipush (v := (-2)) hx hb dX9_isFewer_1 (by decide) ?_
  refine lv_icmp_eq (tgt := 17) hx hb dX9_isFewer_3 (by decide) (fun c1 => ?_) (fun c1 => ?_)
  · have hm := (if_pos c1).symm.trans hm
    refine lv_iconst (v := 1) hx hb dX9_isFewer_17 (by decide) ?_
    refine lv_goto (tgt := 22) hx hb dX9_isFewer_18 (by decide) ?_
    obtain rfl := Option.some.inj hm
    exact mx_zret X nb1 hW dX9_isFewer_22
  · have hm := (if_neg c1).symm.trans hm
    refine lv_iload_n hx hb dX9_isFewer_6 rfl (lv_at hl 0 rfl) ?_
    obtain ⟨o2, ho2, hm⟩ := bd_s hm
    refine mx_callS (n := 1) (As := [.int p1]) (rest := []) (st1 := [.int o2]) (w2 := []) X hW hl.1 (c_J6_bitCount_0f7a4 l G p1 o2 ho2) kw_1042 kw_888 kw_889 kw_890 (by decide +kernel) ⟨rfl, rfl⟩ ⟨by decide, by decide⟩ ⟨Nat.zero_le _, Nat.zero_le _⟩ [] (by decide) rfl rfl rfl rfl rfl rfl (Nat.le_of_ble_eq_true rfl) rfl dX9_isFewer_7 (fun H locs hW => ?_)
    refine lv_iload_n hx hb dX9_isFewer_10 rfl (lv_at hl 1 rfl) ?_
    obtain ⟨o3, ho3, hm⟩ := bd_s hm
    refine mx_callS (n := 1) (As := [.int p2]) (rest := [.int o2]) (st1 := [.int o3, .int o2]) (w2 := []) X hW hl.1 (c_J6_bitCount_0f7a4 l G p2 o3 ho3) kw_1042 kw_888 kw_889 kw_890 (by decide +kernel) ⟨rfl, rfl⟩ ⟨by decide, by decide⟩ ⟨Nat.zero_le _, Nat.zero_le _⟩ [] (by decide) rfl rfl rfl rfl rfl rfl (Nat.le_of_ble_eq_true rfl) rfl dX9_isFewer_11 (fun H locs hW => ?_)
    refine lv_icmp_ge (tgt := 21) hx hb dX9_isFewer_14 (by decide) (fun c4 => ?_) (fun c4 => ?_)
    · have hm := (if_pos c4).symm.trans hm
      refine lv_iconst (v := 0) hx hb dX9_isFewer_21 (by decide) ?_
      obtain rfl := Option.some.inj hm
      exact mx_zret X nb0 hW dX9_isFewer_22
    · have hm := (if_neg c4).symm.trans hm
      refine lv_iconst (v := 1) hx hb dX9_isFewer_17 (by decide) ?_
      refine lv_goto (tgt := 22) hx hb dX9_isFewer_18 (by decide) ?_
      obtain rfl := Option.some.inj hm
      exact mx_zret X nb1 hW dX9_isFewer_22

abbrev rm_X9_easedFor : Room := { frames := 4, cells := 0, slots := 0, locals := 90 }
noncomputable def f_X9_easedFor_L17 (k_92 : Int32 → (Nat → Int32) → (Nat → Int32) → (Nat → Int32) → (Nat → Int32) → (Nat → Int32) → Int32 → Int32 → Int32 → Option (Int32 × (Nat → Int32) × (Nat → Int32) × (Nat → Int32) × (Nat → Int32) × (Nat → Int32) × Int32 × Int32 × Int32)) (x3 : Int32) (x4 : Int32) (a_reaches : Int32) (a_ropes : Int32) (a_kind : Nat → Int32) (a_wide : Nat → Int32) (a_bank : Nat → Int32) (a_ropeAt : Nat → Int32) (a_pulls : Nat → Int32) (a_boatWide : Nat → Int32) (a_boatDeep : Nat → Int32) (b_laced : Int32) (b_flow : Int32) : Nat → Int32 → Int32 → (Nat → Int32) → (Nat → Int32) → (Nat → Int32) → (Nat → Int32) → (Nat → Int32) → Int32 → Int32 → Int32 → Option (Int32 × (Nat → Int32) × (Nat → Int32) × (Nat → Int32) × (Nat → Int32) × (Nat → Int32) × Int32 × Int32 × Int32)
  | 0, _, _, _, _, _, _, _, _, _, _ => none
  | n + 1, x5, x6, t_water_width, t_water_comes, t_water_depth, t_water_spill, t_water_harmAt, t_water_below, t_water_allHarm, t_water_spilling =>
    (if (1 <<< (a_ropes &&& 31)) ≤ x6 then
      k_92 x5 t_water_width t_water_comes t_water_depth t_water_spill t_water_harmAt t_water_below t_water_allHarm t_water_spilling
    else
      (if (x6 &&& (b_laced ^^^ ((-1)))) = 0 then
        (f_X9_isFewer x6 x5).bind fun o4 => (if o4 = 0 then
          f_X9_easedFor_L17 k_92 x3 x4 a_reaches a_ropes a_kind a_wide a_bank a_ropeAt a_pulls a_boatWide a_boatDeep b_laced b_flow n x5 (x6 + 1) t_water_width t_water_comes t_water_depth t_water_spill t_water_harmAt t_water_below t_water_allHarm t_water_spilling
        else
          (f_X8_run (b_laced &&& (x6 ^^^ ((-1)))) b_flow t_water_width t_water_comes t_water_depth t_water_spill t_water_harmAt t_water_below t_water_allHarm t_water_spilling a_reaches a_ropes a_kind a_wide a_bank a_ropeAt a_pulls).bind fun o6 => (f_X9_passed x3 o6.1 o6.2.2.1 a_reaches a_boatWide a_boatDeep).bind fun o7 => (if o7 = x4 then
            f_X9_easedFor_L17 k_92 x3 x4 a_reaches a_ropes a_kind a_wide a_bank a_ropeAt a_pulls a_boatWide a_boatDeep b_laced b_flow n x6 (x6 + 1) o6.1 o6.2.1 o6.2.2.1 o6.2.2.2.1 o6.2.2.2.2.1 o6.2.2.2.2.2.1 o6.2.2.2.2.2.2.1 o6.2.2.2.2.2.2.2
          else
            f_X9_easedFor_L17 k_92 x3 x4 a_reaches a_ropes a_kind a_wide a_bank a_ropeAt a_pulls a_boatWide a_boatDeep b_laced b_flow n x5 (x6 + 1) o6.1 o6.2.1 o6.2.2.1 o6.2.2.2.1 o6.2.2.2.2.1 o6.2.2.2.2.2.1 o6.2.2.2.2.2.2.1 o6.2.2.2.2.2.2.2))
      else
        f_X9_easedFor_L17 k_92 x3 x4 a_reaches a_ropes a_kind a_wide a_bank a_ropeAt a_pulls a_boatWide a_boatDeep b_laced b_flow n x5 (x6 + 1) t_water_width t_water_comes t_water_depth t_water_spill t_water_harmAt t_water_below t_water_allHarm t_water_spilling))
noncomputable def f_X9_easedFor (p3 : Int32) (t_water_width : Nat → Int32) (t_water_comes : Nat → Int32) (t_water_depth : Nat → Int32) (t_water_spill : Nat → Int32) (t_water_harmAt : Nat → Int32) (t_water_below : Int32) (t_water_allHarm : Int32) (t_water_spilling : Int32) (a_reaches : Int32) (a_ropes : Int32) (a_kind : Nat → Int32) (a_wide : Nat → Int32) (a_bank : Nat → Int32) (a_ropeAt : Nat → Int32) (a_pulls : Nat → Int32) (a_boatWide : Nat → Int32) (a_boatDeep : Nat → Int32) (b_laced : Int32) (b_flow : Int32) : Option (Int32 × (Nat → Int32) × (Nat → Int32) × (Nat → Int32) × (Nat → Int32) × (Nat → Int32) × Int32 × Int32 × Int32) :=
  nm ((1 <<< (a_reaches &&& 31)) - 1) fun z1 => f_X9_easedFor_L17 (fun x5_17 t_water_width_17 t_water_comes_17 t_water_depth_17 t_water_spill_17 t_water_harmAt_17 t_water_below_17 t_water_allHarm_17 t_water_spilling_17 =>
    some (x5_17, t_water_width_17, t_water_comes_17, t_water_depth_17, t_water_spill_17, t_water_harmAt_17, t_water_below_17, t_water_allHarm_17, t_water_spilling_17)) p3 z1 a_reaches a_ropes a_kind a_wide a_bank a_ropeAt a_pulls a_boatWide a_boatDeep b_laced b_flow 2000 ((-2)) 0 t_water_width t_water_comes t_water_depth t_water_spill t_water_harmAt t_water_below t_water_allHarm t_water_spilling
set_option maxHeartbeats 4000000 in
set_option maxRecDepth 100000 in
theorem w_X9_easedFor_L17 {p : Program} {l : Launch} {e : Env} {s : State} {m : MethodId} {args : Array Value} {below : List Frame} {meth : Method} {c : Code} {A : Nat → Prop} {G : mx_G} (X : mx_X p s m args meth c RX9 "easedFor" cX9_easedFor 7 (some .int) G) (q_t : Nat) (q_t_water : Nat) (q_t_water_width : Nat) (q_t_water_comes : Nat) (q_t_water_depth : Nat) (q_t_water_spill : Nat) (q_t_water_harmAt : Nat) (q_a : Nat) (q_a_kind : Nat) (q_a_wide : Nat) (q_a_bank : Nat) (q_a_ropeAt : Nat) (q_a_pulls : Nat) (q_a_boatWide : Nat) (q_a_boatDeep : Nat) (q_b : Nat) (v_a_flow : Value) (v_a_tape : Value) (v_a_hands : Value) (v_a_boats : Value) (v_a_muds : Value) (v_a_loose : Value) (v_a_mud : Value) (v_a_bears : Value) (v_a_strong : Value) (v_b_burst : Value) (v_b_seed : Value) (v_b_wear : Value) (a_reaches : Int32) (a_ropes : Int32) (a_kind : Nat → Int32) (a_wide : Nat → Int32) (a_bank : Nat → Int32) (a_ropeAt : Nat → Int32) (a_pulls : Nat → Int32) (a_boatWide : Nat → Int32) (a_boatDeep : Nat → Int32) (b_laced : Int32) (b_flow : Int32) (x3 : Int32) (x4 : Int32) (out : Int32 × (Nat → Int32) × (Nat → Int32) × (Nat → Int32) × (Nat → Int32) × (Nat → Int32) × Int32 × Int32 × Int32) (k_92 : Int32 → (Nat → Int32) → (Nat → Int32) → (Nat → Int32) → (Nat → Int32) → (Nat → Int32) → Int32 → Int32 → Int32 → Option (Int32 × (Nat → Int32) × (Nat → Int32) × (Nat → Int32) × (Nat → Int32) × (Nat → Int32) × Int32 × Int32 × Int32)) (hk_92 : ∀ (x5 : Int32) (t_water_width : Nat → Int32) (t_water_comes : Nat → Int32) (t_water_depth : Nat → Int32) (t_water_spill : Nat → Int32) (t_water_harmAt : Nat → Int32) (t_water_below : Int32) (t_water_allHarm : Int32) (t_water_spilling : Int32) (H : Heap) (locs : List Loc) (ls : Array Slot), k_92 x5 t_water_width t_water_comes t_water_depth t_water_spill t_water_harmAt t_water_below t_water_allHarm t_water_spilling = some out → mx_W G s A [xO q_t 9 [.ref q_t_water], xO q_t_water 8 [.ref q_t_water_width, .ref q_t_water_comes, .ref q_t_water_depth, .ref q_t_water_spill, .ref q_t_water_harmAt, .int t_water_below, .int t_water_allHarm, .int t_water_spilling], xI G q_t_water_width 6 t_water_width, xI G q_t_water_comes 6 t_water_comes, xI G q_t_water_depth 6 t_water_depth, xI G q_t_water_spill 6 t_water_spill, xI G q_t_water_harmAt 6 t_water_harmAt, xO q_a 6 [v_a_flow, v_a_tape, .int a_reaches, .int a_ropes, v_a_hands, v_a_boats, v_a_muds, v_a_loose, .ref q_a_kind, .ref q_a_wide, .ref q_a_bank, v_a_mud, .ref q_a_ropeAt, .ref q_a_pulls, v_a_bears, v_a_strong, .ref q_a_boatWide, .ref q_a_boatDeep], xI G q_a_kind 6 a_kind, xI G q_a_wide 6 a_wide, xI G q_a_bank 6 a_bank, xI G q_a_ropeAt 7 a_ropeAt, xI G q_a_pulls 7 a_pulls, xI G q_a_boatWide 5 a_boatWide, xI G q_a_boatDeep 5 a_boatDeep, xO q_b 7 [.int b_laced, v_b_burst, .int b_flow, v_b_seed, v_b_wear]] H locs → lv_has ls 7 [(5, .int x5)] → W p l e rm_X9_easedFor s m args below meth c H locs 0 0 (MQ below (mx_Q G (some (.int out.1)) [xO q_t 9 [.ref q_t_water], xO q_t_water 8 [.ref q_t_water_width, .ref q_t_water_comes, .ref q_t_water_depth, .ref q_t_water_spill, .ref q_t_water_harmAt, .int out.2.2.2.2.2.2.1, .int out.2.2.2.2.2.2.2.1, .int out.2.2.2.2.2.2.2.2], xI G q_t_water_width 6 out.2.1, xI G q_t_water_comes 6 out.2.2.1, xI G q_t_water_depth 6 out.2.2.2.1, xI G q_t_water_spill 6 out.2.2.2.2.1, xI G q_t_water_harmAt 6 out.2.2.2.2.2.1, xO q_a 6 [v_a_flow, v_a_tape, .int a_reaches, .int a_ropes, v_a_hands, v_a_boats, v_a_muds, v_a_loose, .ref q_a_kind, .ref q_a_wide, .ref q_a_bank, v_a_mud, .ref q_a_ropeAt, .ref q_a_pulls, v_a_bears, v_a_strong, .ref q_a_boatWide, .ref q_a_boatDeep], xI G q_a_kind 6 a_kind, xI G q_a_wide 6 a_wide, xI G q_a_bank 6 a_bank, xI G q_a_ropeAt 7 a_ropeAt, xI G q_a_pulls 7 a_pulls, xI G q_a_boatWide 5 a_boatWide, xI G q_a_boatDeep 5 a_boatDeep, xO q_b 7 [.int b_laced, v_b_burst, .int b_flow, v_b_seed, v_b_wear]] A) args s 0 0 A) (F0 m 92 ls [])) : ∀ (n : Nat) (x5 : Int32) (x6 : Int32) (t_water_width : Nat → Int32) (t_water_comes : Nat → Int32) (t_water_depth : Nat → Int32) (t_water_spill : Nat → Int32) (t_water_harmAt : Nat → Int32) (t_water_below : Int32) (t_water_allHarm : Int32) (t_water_spilling : Int32) (H : Heap) (locs : List Loc) (ls : Array Slot), f_X9_easedFor_L17 k_92 x3 x4 a_reaches a_ropes a_kind a_wide a_bank a_ropeAt a_pulls a_boatWide a_boatDeep b_laced b_flow n x5 x6 t_water_width t_water_comes t_water_depth t_water_spill t_water_harmAt t_water_below t_water_allHarm t_water_spilling = some out → mx_W G s A [xO q_t 9 [.ref q_t_water], xO q_t_water 8 [.ref q_t_water_width, .ref q_t_water_comes, .ref q_t_water_depth, .ref q_t_water_spill, .ref q_t_water_harmAt, .int t_water_below, .int t_water_allHarm, .int t_water_spilling], xI G q_t_water_width 6 t_water_width, xI G q_t_water_comes 6 t_water_comes, xI G q_t_water_depth 6 t_water_depth, xI G q_t_water_spill 6 t_water_spill, xI G q_t_water_harmAt 6 t_water_harmAt, xO q_a 6 [v_a_flow, v_a_tape, .int a_reaches, .int a_ropes, v_a_hands, v_a_boats, v_a_muds, v_a_loose, .ref q_a_kind, .ref q_a_wide, .ref q_a_bank, v_a_mud, .ref q_a_ropeAt, .ref q_a_pulls, v_a_bears, v_a_strong, .ref q_a_boatWide, .ref q_a_boatDeep], xI G q_a_kind 6 a_kind, xI G q_a_wide 6 a_wide, xI G q_a_bank 6 a_bank, xI G q_a_ropeAt 7 a_ropeAt, xI G q_a_pulls 7 a_pulls, xI G q_a_boatWide 5 a_boatWide, xI G q_a_boatDeep 5 a_boatDeep, xO q_b 7 [.int b_laced, v_b_burst, .int b_flow, v_b_seed, v_b_wear]] H locs → lv_has ls 7 [(0, .ref q_t), (1, .ref q_a), (2, .ref q_b), (3, .int x3), (4, .int x4), (5, .int x5), (6, .int x6)] → W p l e rm_X9_easedFor s m args below meth c H locs 0 0 (MQ below (mx_Q G (some (.int out.1)) [xO q_t 9 [.ref q_t_water], xO q_t_water 8 [.ref q_t_water_width, .ref q_t_water_comes, .ref q_t_water_depth, .ref q_t_water_spill, .ref q_t_water_harmAt, .int out.2.2.2.2.2.2.1, .int out.2.2.2.2.2.2.2.1, .int out.2.2.2.2.2.2.2.2], xI G q_t_water_width 6 out.2.1, xI G q_t_water_comes 6 out.2.2.1, xI G q_t_water_depth 6 out.2.2.2.1, xI G q_t_water_spill 6 out.2.2.2.2.1, xI G q_t_water_harmAt 6 out.2.2.2.2.2.1, xO q_a 6 [v_a_flow, v_a_tape, .int a_reaches, .int a_ropes, v_a_hands, v_a_boats, v_a_muds, v_a_loose, .ref q_a_kind, .ref q_a_wide, .ref q_a_bank, v_a_mud, .ref q_a_ropeAt, .ref q_a_pulls, v_a_bears, v_a_strong, .ref q_a_boatWide, .ref q_a_boatDeep], xI G q_a_kind 6 a_kind, xI G q_a_wide 6 a_wide, xI G q_a_bank 6 a_bank, xI G q_a_ropeAt 7 a_ropeAt, xI G q_a_pulls 7 a_pulls, xI G q_a_boatWide 5 a_boatWide, xI G q_a_boatDeep 5 a_boatDeep, xO q_b 7 [.int b_laced, v_b_burst, .int b_flow, v_b_seed, v_b_wear]] A) args s 0 0 A) (F0 m 17 ls []) := by
  obtain ⟨hx, hb, hml, hown, hts, hKN, -⟩ := id X
  intro n
  induction n with
  | zero => intro x5 x6 t_water_width t_water_comes t_water_depth t_water_spill t_water_harmAt t_water_below t_water_allHarm t_water_spilling H locs ls hm hW hl; exact absurd (show none = some out from hm) (fun h => by cases h)
  | succ n ih =>
    intro x5 x6 t_water_width t_water_comes t_water_depth t_water_spill t_water_harmAt t_water_below t_water_allHarm t_water_spilling H locs ls hm hW hl
    rw [f_X9_easedFor_L17] at hm
    refine lv_iload hx hb dX9_easedFor_17 (lv_at hl 6 rfl) ?_
    refine lv_iconst (v := 1) hx hb dX9_easedFor_19 (by decide) ?_
    refine lv_aload_n hx hb dX9_easedFor_20 rfl (lv_at hl 1 rfl) ?_
    refine mx_get (C := RX6) (T := TX6) (N := 18) (ci := 6) X hW 7 rfl rfl tbc_X6 3 (by decide) kw_1038 rfl dX9_easedFor_21 ?_
    refine lv_ishl hx hb dX9_easedFor_24 ?_
    refine lv_icmp_ge (tgt := 92) hx hb dX9_easedFor_25 (by decide) (fun c2 => ?_) (fun c2 => ?_)
    · have hm := (if_pos c2).symm.trans hm
      exact hk_92 x5 t_water_width t_water_comes t_water_depth t_water_spill t_water_harmAt t_water_below t_water_allHarm t_water_spilling _ _ _ hm hW (lv_sub hl [5] rfl)
    · have hm := (if_neg c2).symm.trans hm
      refine lv_iload hx hb dX9_easedFor_28 (lv_at hl 6 rfl) ?_
      refine lv_aload_n hx hb dX9_easedFor_30 rfl (lv_at hl 2 rfl) ?_
      refine mx_get (C := RX7) (T := TX7) (N := 5) (ci := 7) X hW 15 rfl rfl tbc_X7 0 (by decide) kw_998 rfl dX9_easedFor_31 ?_
      refine lv_iconst (v := (-1)) hx hb dX9_easedFor_34 (by decide) ?_
      refine lv_ixor hx hb dX9_easedFor_35 ?_
      refine lv_iand hx hb dX9_easedFor_36 ?_
      refine lv_if_ne (tgt := 86) hx hb dX9_easedFor_37 (by decide) (fun c3 => ?_) (fun c3 => ?_)
      · have hm := (if_neg c3).symm.trans hm
        refine lv_iinc (v := x6 + 1) (lv' := [(6, .int (x6 + 1)), (0, .ref q_t), (1, .ref q_a), (2, .ref q_b), (3, .int x3), (4, .int x4), (5, .int x5)]) hx hb dX9_easedFor_86 hl (k := 6) rfl rfl (by decide) rfl (fun ls hl => ?_)
        refine lv_goto (tgt := 17) hx hb dX9_easedFor_89 (by decide) ?_
        exact ih x5 (x6 + 1) t_water_width t_water_comes t_water_depth t_water_spill t_water_harmAt t_water_below t_water_allHarm t_water_spilling _ _ _ hm hW (lv_sub hl [1, 2, 3, 4, 5, 6, 0] rfl)
      · have hm := (if_pos c3).symm.trans hm
        refine lv_iload hx hb dX9_easedFor_40 (lv_at hl 6 rfl) ?_
        refine lv_iload hx hb dX9_easedFor_42 (lv_at hl 5 rfl) ?_
        obtain ⟨o4, ho4, hm⟩ := bd_s hm
        refine mx_callS (n := 2) (As := [.int x6, .int x5]) (rest := []) (st1 := [.int o4]) (w2 := [xO q_t 9 [.ref q_t_water], xO q_t_water 8 [.ref q_t_water_width, .ref q_t_water_comes, .ref q_t_water_depth, .ref q_t_water_spill, .ref q_t_water_harmAt, .int t_water_below, .int t_water_allHarm, .int t_water_spilling], xI G q_t_water_width 6 t_water_width, xI G q_t_water_comes 6 t_water_comes, xI G q_t_water_depth 6 t_water_depth, xI G q_t_water_spill 6 t_water_spill, xI G q_t_water_harmAt 6 t_water_harmAt, xO q_a 6 [v_a_flow, v_a_tape, .int a_reaches, .int a_ropes, v_a_hands, v_a_boats, v_a_muds, v_a_loose, .ref q_a_kind, .ref q_a_wide, .ref q_a_bank, v_a_mud, .ref q_a_ropeAt, .ref q_a_pulls, v_a_bears, v_a_strong, .ref q_a_boatWide, .ref q_a_boatDeep], xI G q_a_kind 6 a_kind, xI G q_a_wide 6 a_wide, xI G q_a_bank 6 a_bank, xI G q_a_ropeAt 7 a_ropeAt, xI G q_a_pulls 7 a_pulls, xI G q_a_boatWide 5 a_boatWide, xI G q_a_boatDeep 5 a_boatDeep, xO q_b 7 [.int b_laced, v_b_burst, .int b_flow, v_b_seed, v_b_wear]]) X hW hl.1 (c_X9_isFewer l G x6 x5 o4 ho4) kw_1039 kw_1040 kw_35 kw_1041 (by decide +kernel) ⟨rfl, rfl⟩ ⟨by decide, by decide⟩ ⟨Nat.zero_le _, Nat.zero_le _⟩ [] (by decide) rfl rfl rfl rfl rfl rfl (Nat.le_of_ble_eq_true rfl) rfl dX9_easedFor_44 (fun H locs hW => ?_)
        refine lv_if_eq (tgt := 86) hx hb dX9_easedFor_47 (by decide) (fun c5 => ?_) (fun c5 => ?_)
        · have hm := (if_pos c5).symm.trans hm
          refine lv_iinc (v := x6 + 1) (lv' := [(6, .int (x6 + 1)), (0, .ref q_t), (1, .ref q_a), (2, .ref q_b), (3, .int x3), (4, .int x4), (5, .int x5)]) hx hb dX9_easedFor_86 hl (k := 6) rfl rfl (by decide) rfl (fun ls hl => ?_)
          refine lv_goto (tgt := 17) hx hb dX9_easedFor_89 (by decide) ?_
          exact ih x5 (x6 + 1) t_water_width t_water_comes t_water_depth t_water_spill t_water_harmAt t_water_below t_water_allHarm t_water_spilling _ _ _ hm hW (lv_sub hl [1, 2, 3, 4, 5, 6, 0] rfl)
        · have hm := (if_neg c5).symm.trans hm
          refine lv_aload_n hx hb dX9_easedFor_50 rfl (lv_at hl 0 rfl) ?_
          refine mx_get (C := RX9) (T := TX9) (N := 1) (ci := 9) X hW 0 rfl rfl tbc_X9 0 (by decide) kw_106 rfl dX9_easedFor_51 ?_
          refine lv_aload_n hx hb dX9_easedFor_54 rfl (lv_at hl 1 rfl) ?_
          refine lv_aload_n hx hb dX9_easedFor_55 rfl (lv_at hl 2 rfl) ?_
          refine mx_get (C := RX7) (T := TX7) (N := 5) (ci := 7) X hW 15 rfl rfl tbc_X7 0 (by decide) kw_998 rfl dX9_easedFor_56 ?_
          refine lv_iload hx hb dX9_easedFor_59 (lv_at hl 6 rfl) ?_
          refine lv_iconst (v := (-1)) hx hb dX9_easedFor_61 (by decide) ?_
          refine lv_ixor hx hb dX9_easedFor_62 ?_
          refine lv_iand hx hb dX9_easedFor_63 ?_
          refine lv_aload_n hx hb dX9_easedFor_64 rfl (lv_at hl 2 rfl) ?_
          refine mx_get (C := RX7) (T := TX7) (N := 5) (ci := 7) X hW 15 rfl rfl tbc_X7 2 (by decide) kw_999 rfl dX9_easedFor_65 ?_
          obtain ⟨o6, ho6, hm⟩ := bd_s hm
          refine mx_callV (C := RX8) (T := TX8) (N := 8) (ci := 8) (n := 3) (As := [.ref q_a, .int (b_laced &&& (x6 ^^^ ((-1)))), .int b_flow]) (rest := []) (st1 := []) (w2 := [xO q_t 9 [.ref q_t_water], xO q_t_water 8 [.ref q_t_water_width, .ref q_t_water_comes, .ref q_t_water_depth, .ref q_t_water_spill, .ref q_t_water_harmAt, .int o6.2.2.2.2.2.1, .int o6.2.2.2.2.2.2.1, .int o6.2.2.2.2.2.2.2], xI G q_t_water_width 6 o6.1, xI G q_t_water_comes 6 o6.2.1, xI G q_t_water_depth 6 o6.2.2.1, xI G q_t_water_spill 6 o6.2.2.2.1, xI G q_t_water_harmAt 6 o6.2.2.2.2.1, xO q_a 6 [v_a_flow, v_a_tape, .int a_reaches, .int a_ropes, v_a_hands, v_a_boats, v_a_muds, v_a_loose, .ref q_a_kind, .ref q_a_wide, .ref q_a_bank, v_a_mud, .ref q_a_ropeAt, .ref q_a_pulls, v_a_bears, v_a_strong, .ref q_a_boatWide, .ref q_a_boatDeep], xI G q_a_kind 6 a_kind, xI G q_a_wide 6 a_wide, xI G q_a_bank 6 a_bank, xI G q_a_ropeAt 7 a_ropeAt, xI G q_a_pulls 7 a_pulls, xI G q_a_boatWide 5 a_boatWide, xI G q_a_boatDeep 5 a_boatDeep, xO q_b 7 [.int b_laced, v_b_burst, .int b_flow, v_b_seed, v_b_wear]]) X hW hl.1 (c_X8_run l G q_t_water q_t_water_width q_t_water_comes q_t_water_depth q_t_water_spill q_t_water_harmAt q_a q_a_kind q_a_wide q_a_bank q_a_ropeAt q_a_pulls (v_a_flow) (v_a_tape) (v_a_hands) (v_a_boats) (v_a_muds) (v_a_loose) (v_a_mud) (v_a_bears) (v_a_strong) (.ref q_a_boatWide) (.ref q_a_boatDeep) t_water_width t_water_comes t_water_depth t_water_spill t_water_harmAt t_water_below t_water_allHarm t_water_spilling a_reaches a_ropes a_kind a_wide a_bank a_ropeAt a_pulls (b_laced &&& (x6 ^^^ ((-1)))) b_flow o6 ho6) 0 rfl rfl kw_1000 kw_592 kw_593 kw_27 kw_594 (by decide +kernel) ⟨rfl, rfl⟩ ⟨by decide, by decide⟩ ⟨Nat.zero_le _, Nat.zero_le _⟩ [1, 2, 3, 4, 5, 6, 7, 8, 9, 10, 11, 12] (by decide) rfl rfl rfl rfl rfl rfl (Nat.le_of_ble_eq_true rfl) rfl dX9_easedFor_68 (fun H locs hW => ?_)
          refine lv_aload_n hx hb dX9_easedFor_71 rfl (lv_at hl 0 rfl) ?_
          refine lv_aload_n hx hb dX9_easedFor_72 rfl (lv_at hl 1 rfl) ?_
          refine lv_iload_n hx hb dX9_easedFor_73 rfl (lv_at hl 3 rfl) ?_
          obtain ⟨o7, ho7, hm⟩ := bd_s hm
          refine mx_callV (C := RX9) (T := TX9) (N := 1) (ci := 9) (n := 2) (As := [.ref q_a, .int x3]) (rest := []) (st1 := [.int o7]) (w2 := [xO q_t 9 [.ref q_t_water], xO q_t_water 8 [.ref q_t_water_width, .ref q_t_water_comes, .ref q_t_water_depth, .ref q_t_water_spill, .ref q_t_water_harmAt, .int o6.2.2.2.2.2.1, .int o6.2.2.2.2.2.2.1, .int o6.2.2.2.2.2.2.2], xI G q_t_water_width 6 o6.1, xI G q_t_water_comes 6 o6.2.1, xI G q_t_water_depth 6 o6.2.2.1, xI G q_t_water_spill 6 o6.2.2.2.1, xI G q_t_water_harmAt 6 o6.2.2.2.2.1, xO q_a 6 [v_a_flow, v_a_tape, .int a_reaches, .int a_ropes, v_a_hands, v_a_boats, v_a_muds, v_a_loose, .ref q_a_kind, .ref q_a_wide, .ref q_a_bank, v_a_mud, .ref q_a_ropeAt, .ref q_a_pulls, v_a_bears, v_a_strong, .ref q_a_boatWide, .ref q_a_boatDeep], xI G q_a_kind 6 a_kind, xI G q_a_wide 6 a_wide, xI G q_a_bank 6 a_bank, xI G q_a_ropeAt 7 a_ropeAt, xI G q_a_pulls 7 a_pulls, xI G q_a_boatWide 5 a_boatWide, xI G q_a_boatDeep 5 a_boatDeep, xO q_b 7 [.int b_laced, v_b_burst, .int b_flow, v_b_seed, v_b_wear]]) X hW hl.1 (c_X9_passed l G q_t q_t_water q_t_water_width q_t_water_depth q_a q_a_boatWide q_a_boatDeep (.ref q_t_water_comes) (.ref q_t_water_spill) (.ref q_t_water_harmAt) (.int o6.2.2.2.2.2.1) (.int o6.2.2.2.2.2.2.1) (.int o6.2.2.2.2.2.2.2) (v_a_flow) (v_a_tape) (.int a_ropes) (v_a_hands) (v_a_boats) (v_a_muds) (v_a_loose) (.ref q_a_kind) (.ref q_a_wide) (.ref q_a_bank) (v_a_mud) (.ref q_a_ropeAt) (.ref q_a_pulls) (v_a_bears) (v_a_strong) o6.1 o6.2.2.1 a_reaches a_boatWide a_boatDeep x3 o7 ho7) 0 rfl rfl kw_1001 kw_1002 kw_1003 kw_35 kw_1004 (by decide +kernel) ⟨rfl, rfl⟩ ⟨by decide, by decide⟩ ⟨Nat.zero_le _, Nat.zero_le _⟩ [0, 1, 2, 4, 7, 13, 14] (by decide) rfl rfl rfl rfl rfl rfl (Nat.le_of_ble_eq_true rfl) rfl dX9_easedFor_74 (fun H locs hW => ?_)
          refine lv_iload hx hb dX9_easedFor_77 (lv_at hl 4 rfl) ?_
          refine lv_icmp_ne (tgt := 86) hx hb dX9_easedFor_79 (by decide) (fun c8 => ?_) (fun c8 => ?_)
          · have hm := (if_neg c8).symm.trans hm
            refine lv_iinc (v := x6 + 1) (lv' := [(6, .int (x6 + 1)), (0, .ref q_t), (1, .ref q_a), (2, .ref q_b), (3, .int x3), (4, .int x4), (5, .int x5)]) hx hb dX9_easedFor_86 hl (k := 6) rfl rfl (by decide) rfl (fun ls hl => ?_)
            refine lv_goto (tgt := 17) hx hb dX9_easedFor_89 (by decide) ?_
            exact ih x5 (x6 + 1) o6.1 o6.2.1 o6.2.2.1 o6.2.2.2.1 o6.2.2.2.2.1 o6.2.2.2.2.2.1 o6.2.2.2.2.2.2.1 o6.2.2.2.2.2.2.2 _ _ _ hm hW (lv_sub hl [1, 2, 3, 4, 5, 6, 0] rfl)
          · have hm := (if_pos c8).symm.trans hm
            refine lv_iload hx hb dX9_easedFor_82 (lv_at hl 6 rfl) ?_
            refine lv_istore (lv' := [(5, .int x6), (0, .ref q_t), (1, .ref q_a), (2, .ref q_b), (3, .int x3), (4, .int x4), (6, .int x6)]) hx hb dX9_easedFor_84 hl (by decide) rfl (fun ls hl => ?_)
            refine lv_iinc (v := x6 + 1) (lv' := [(6, .int (x6 + 1)), (5, .int x6), (0, .ref q_t), (1, .ref q_a), (2, .ref q_b), (3, .int x3), (4, .int x4)]) hx hb dX9_easedFor_86 hl (k := 6) rfl rfl (by decide) rfl (fun ls hl => ?_)
            refine lv_goto (tgt := 17) hx hb dX9_easedFor_89 (by decide) ?_
            exact ih x6 (x6 + 1) o6.1 o6.2.1 o6.2.2.1 o6.2.2.2.1 o6.2.2.2.2.1 o6.2.2.2.2.2.1 o6.2.2.2.2.2.2.1 o6.2.2.2.2.2.2.2 _ _ _ hm hW (lv_sub hl [2, 3, 4, 5, 6, 1, 0] rfl)
set_option maxHeartbeats 4000000 in
set_option maxRecDepth 100000 in
theorem c_X9_easedFor (l : Launch) (G : mx_G) (q_t : Nat) (q_t_water : Nat) (q_t_water_width : Nat) (q_t_water_comes : Nat) (q_t_water_depth : Nat) (q_t_water_spill : Nat) (q_t_water_harmAt : Nat) (q_a : Nat) (q_a_kind : Nat) (q_a_wide : Nat) (q_a_bank : Nat) (q_a_ropeAt : Nat) (q_a_pulls : Nat) (q_a_boatWide : Nat) (q_a_boatDeep : Nat) (q_b : Nat) (v_a_flow : Value) (v_a_tape : Value) (v_a_hands : Value) (v_a_boats : Value) (v_a_muds : Value) (v_a_loose : Value) (v_a_mud : Value) (v_a_bears : Value) (v_a_strong : Value) (v_b_burst : Value) (v_b_seed : Value) (v_b_wear : Value) (t_water_width : Nat → Int32) (t_water_comes : Nat → Int32) (t_water_depth : Nat → Int32) (t_water_spill : Nat → Int32) (t_water_harmAt : Nat → Int32) (t_water_below : Int32) (t_water_allHarm : Int32) (t_water_spilling : Int32) (a_reaches : Int32) (a_ropes : Int32) (a_kind : Nat → Int32) (a_wide : Nat → Int32) (a_bank : Nat → Int32) (a_ropeAt : Nat → Int32) (a_pulls : Nat → Int32) (a_boatWide : Nat → Int32) (a_boatDeep : Nat → Int32) (b_laced : Int32) (b_flow : Int32) (p3 : Int32) (out : Int32 × (Nat → Int32) × (Nat → Int32) × (Nat → Int32) × (Nat → Int32) × (Nat → Int32) × Int32 × Int32 × Int32) (hm : f_X9_easedFor p3 t_water_width t_water_comes t_water_depth t_water_spill t_water_harmAt t_water_below t_water_allHarm t_water_spilling a_reaches a_ropes a_kind a_wide a_bank a_ropeAt a_pulls a_boatWide a_boatDeep b_laced b_flow = some out) : mx_C l yX9_easedFor cX9_easedFor 7 (some .int) rm_X9_easedFor G [.ref q_t, .ref q_a, .ref q_b, .int p3] [xO q_t 9 [.ref q_t_water], xO q_t_water 8 [.ref q_t_water_width, .ref q_t_water_comes, .ref q_t_water_depth, .ref q_t_water_spill, .ref q_t_water_harmAt, .int t_water_below, .int t_water_allHarm, .int t_water_spilling], xI G q_t_water_width 6 t_water_width, xI G q_t_water_comes 6 t_water_comes, xI G q_t_water_depth 6 t_water_depth, xI G q_t_water_spill 6 t_water_spill, xI G q_t_water_harmAt 6 t_water_harmAt, xO q_a 6 [v_a_flow, v_a_tape, .int a_reaches, .int a_ropes, v_a_hands, v_a_boats, v_a_muds, v_a_loose, .ref q_a_kind, .ref q_a_wide, .ref q_a_bank, v_a_mud, .ref q_a_ropeAt, .ref q_a_pulls, v_a_bears, v_a_strong, .ref q_a_boatWide, .ref q_a_boatDeep], xI G q_a_kind 6 a_kind, xI G q_a_wide 6 a_wide, xI G q_a_bank 6 a_bank, xI G q_a_ropeAt 7 a_ropeAt, xI G q_a_pulls 7 a_pulls, xI G q_a_boatWide 5 a_boatWide, xI G q_a_boatDeep 5 a_boatDeep, xO q_b 7 [.int b_laced, v_b_burst, .int b_flow, v_b_seed, v_b_wear]] (some (.int out.1)) [xO q_t 9 [.ref q_t_water], xO q_t_water 8 [.ref q_t_water_width, .ref q_t_water_comes, .ref q_t_water_depth, .ref q_t_water_spill, .ref q_t_water_harmAt, .int out.2.2.2.2.2.2.1, .int out.2.2.2.2.2.2.2.1, .int out.2.2.2.2.2.2.2.2], xI G q_t_water_width 6 out.2.1, xI G q_t_water_comes 6 out.2.2.1, xI G q_t_water_depth 6 out.2.2.2.1, xI G q_t_water_spill 6 out.2.2.2.2.1, xI G q_t_water_harmAt 6 out.2.2.2.2.2.1, xO q_a 6 [v_a_flow, v_a_tape, .int a_reaches, .int a_ropes, v_a_hands, v_a_boats, v_a_muds, v_a_loose, .ref q_a_kind, .ref q_a_wide, .ref q_a_bank, v_a_mud, .ref q_a_ropeAt, .ref q_a_pulls, v_a_bears, v_a_strong, .ref q_a_boatWide, .ref q_a_boatDeep], xI G q_a_kind 6 a_kind, xI G q_a_wide 6 a_wide, xI G q_a_bank 6 a_bank, xI G q_a_ropeAt 7 a_ropeAt, xI G q_a_pulls 7 a_pulls, xI G q_a_boatWide 5 a_boatWide, xI G q_a_boatDeep 5 a_boatDeep, xO q_b 7 [.int b_laced, v_b_burst, .int b_flow, v_b_seed, v_b_wear]] := by
  refine mx_enter (own := RX9) (name := "easedFor") (lv := [(0, .ref q_t), (1, .ref q_a), (2, .ref q_b), (3, .int p3)]) (by decide) rfl rfl (Nat.le_of_ble_eq_true rfl) rfl ?_
  intro p e s m args below meth c A ls X hW hl
  obtain ⟨hx, hb, hml, hown, hts, hKN, -⟩ := id X
  unfold f_X9_easedFor at hm
  refine lv_iconst (v := 1) hx hb dX9_easedFor_0 (by decide) ?_
  refine lv_aload_n hx hb dX9_easedFor_1 rfl (lv_at hl 1 rfl) ?_
  refine mx_get (C := RX6) (T := TX6) (N := 18) (ci := 6) X hW 7 rfl rfl tbc_X6 2 (by decide) kw_1005 rfl dX9_easedFor_2 ?_
  refine lv_ishl hx hb dX9_easedFor_5 ?_
  refine lv_iconst (v := 1) hx hb dX9_easedFor_6 (by decide) ?_
  refine lv_isub hx hb dX9_easedFor_7 ?_
  refine lv_topi (fun z1 ez1 => ?_)
  have hm := nm_s ez1 hm
  refine lv_istore (lv' := [(4, .int z1), (0, .ref q_t), (1, .ref q_a), (2, .ref q_b), (3, .int p3)]) hx hb dX9_easedFor_8 hl (by decide) rfl (fun ls hl => ?_)
  refine lv_bipush (v := (-2)) hx hb dX9_easedFor_10 (by decide) ?_
  refine lv_istore (lv' := [(5, .int ((-2))), (4, .int z1), (0, .ref q_t), (1, .ref q_a), (2, .ref q_b), (3, .int p3)]) hx hb dX9_easedFor_12 hl (by decide) rfl (fun ls hl => ?_)
  refine lv_iconst (v := 0) hx hb dX9_easedFor_14 (by decide) ?_
  refine lv_istore (lv' := [(6, .int 0), (5, .int ((-2))), (4, .int z1), (0, .ref q_t), (1, .ref q_a), (2, .ref q_b), (3, .int p3)]) hx hb dX9_easedFor_15 hl (by decide) rfl (fun ls hl => ?_)
  refine w_X9_easedFor_L17 X q_t q_t_water q_t_water_width q_t_water_comes q_t_water_depth q_t_water_spill q_t_water_harmAt q_a q_a_kind q_a_wide q_a_bank q_a_ropeAt q_a_pulls q_a_boatWide q_a_boatDeep q_b (v_a_flow) (v_a_tape) (v_a_hands) (v_a_boats) (v_a_muds) (v_a_loose) (v_a_mud) (v_a_bears) (v_a_strong) (v_b_burst) (v_b_seed) (v_b_wear) a_reaches a_ropes a_kind a_wide a_bank a_ropeAt a_pulls a_boatWide a_boatDeep b_laced b_flow p3 z1 out _ (fun x5_17 t_water_width_17 t_water_comes_17 t_water_depth_17 t_water_spill_17 t_water_harmAt_17 t_water_below_17 t_water_allHarm_17 t_water_spilling_17 H locs ls hm hW hl => ?_) _ ((-2)) 0 t_water_width t_water_comes t_water_depth t_water_spill t_water_harmAt t_water_below t_water_allHarm t_water_spilling _ _ _ hm hW (lv_sub hl [3, 4, 5, 6, 2, 1, 0] rfl)
  refine lv_iload hx hb dX9_easedFor_92 (lv_at hl 0 rfl) ?_
  obtain rfl := Option.some.inj hm
  exact mx_iret X hW dX9_easedFor_94

abbrev rm_X9_strength : Room := { frames := 1, cells := 0, slots := 0, locals := 21 }
noncomputable def f_X9_strength_L4 (k_35 : Int32 → Option (Int32)) (x1 : Int32) (a_hands : Int32) (a_strong : Nat → Int32) : Nat → Int32 → Int32 → Option (Int32)
  | 0, _, _ => none
  | n + 1, x2, x3 =>
    (if a_hands ≤ x3 then
      k_35 x2
    else
      (f_X10_isIn x1 x3).bind fun o2 => (if o2 = 0 then
        f_X9_strength_L4 k_35 x1 a_hands a_strong n x2 (x3 + 1)
      else
        gd (inb x3 6) <| nm (x2 + (a_strong x3.toNatClampNeg)) fun z5 =>f_X9_strength_L4 k_35 x1 a_hands a_strong n z5 (x3 + 1)))
noncomputable def f_X9_strength (p2 : Int32) (a_hands : Int32) (a_strong : Nat → Int32) : Option (Int32) :=
  f_X9_strength_L4 (fun x2_4 =>
    some x2_4) p2 a_hands a_strong 2000 0 0
set_option maxHeartbeats 4000000 in
set_option maxRecDepth 100000 in
theorem w_X9_strength_L4 {p : Program} {l : Launch} {e : Env} {s : State} {m : MethodId} {args : Array Value} {below : List Frame} {meth : Method} {c : Code} {A : Nat → Prop} {G : mx_G} (X : mx_X p s m args meth c RX9 "strength" cX9_strength 4 (some .int) G) (q_a : Nat) (q_a_strong : Nat) (v_a_flow : Value) (v_a_tape : Value) (v_a_reaches : Value) (v_a_ropes : Value) (v_a_boats : Value) (v_a_muds : Value) (v_a_loose : Value) (v_a_kind : Value) (v_a_wide : Value) (v_a_bank : Value) (v_a_mud : Value) (v_a_ropeAt : Value) (v_a_pulls : Value) (v_a_bears : Value) (v_a_boatWide : Value) (v_a_boatDeep : Value) (a_hands : Int32) (a_strong : Nat → Int32) (x1 : Int32) (out : Int32) (k_35 : Int32 → Option (Int32)) (hk_35 : ∀ (x2 : Int32) (H : Heap) (locs : List Loc) (ls : Array Slot), k_35 x2 = some out → mx_W G s A [xO q_a 6 [v_a_flow, v_a_tape, v_a_reaches, v_a_ropes, .int a_hands, v_a_boats, v_a_muds, v_a_loose, v_a_kind, v_a_wide, v_a_bank, v_a_mud, v_a_ropeAt, v_a_pulls, v_a_bears, .ref q_a_strong, v_a_boatWide, v_a_boatDeep], xI G q_a_strong 6 a_strong] H locs → lv_has ls 4 [(2, .int x2)] → W p l e rm_X9_strength s m args below meth c H locs 0 0 (MQ below (mx_Q G (some (.int out)) [xO q_a 6 [v_a_flow, v_a_tape, v_a_reaches, v_a_ropes, .int a_hands, v_a_boats, v_a_muds, v_a_loose, v_a_kind, v_a_wide, v_a_bank, v_a_mud, v_a_ropeAt, v_a_pulls, v_a_bears, .ref q_a_strong, v_a_boatWide, v_a_boatDeep], xI G q_a_strong 6 a_strong] A) args s 0 0 A) (F0 m 35 ls [])) : ∀ (n : Nat) (x2 : Int32) (x3 : Int32) (H : Heap) (locs : List Loc) (ls : Array Slot), f_X9_strength_L4 k_35 x1 a_hands a_strong n x2 x3 = some out → mx_W G s A [xO q_a 6 [v_a_flow, v_a_tape, v_a_reaches, v_a_ropes, .int a_hands, v_a_boats, v_a_muds, v_a_loose, v_a_kind, v_a_wide, v_a_bank, v_a_mud, v_a_ropeAt, v_a_pulls, v_a_bears, .ref q_a_strong, v_a_boatWide, v_a_boatDeep], xI G q_a_strong 6 a_strong] H locs → lv_has ls 4 [(0, .ref q_a), (1, .int x1), (2, .int x2), (3, .int x3)] → W p l e rm_X9_strength s m args below meth c H locs 0 0 (MQ below (mx_Q G (some (.int out)) [xO q_a 6 [v_a_flow, v_a_tape, v_a_reaches, v_a_ropes, .int a_hands, v_a_boats, v_a_muds, v_a_loose, v_a_kind, v_a_wide, v_a_bank, v_a_mud, v_a_ropeAt, v_a_pulls, v_a_bears, .ref q_a_strong, v_a_boatWide, v_a_boatDeep], xI G q_a_strong 6 a_strong] A) args s 0 0 A) (F0 m 4 ls []) := by
  obtain ⟨hx, hb, hml, hown, hts, hKN, -⟩ := id X
  intro n
  induction n with
  | zero => intro x2 x3 H locs ls hm hW hl; exact absurd (show none = some out from hm) (fun h => by cases h)
  | succ n ih =>
    intro x2 x3 H locs ls hm hW hl
    rw [f_X9_strength_L4] at hm
    refine lv_iload_n hx hb dX9_strength_4 rfl (lv_at hl 3 rfl) ?_
    refine lv_aload_n hx hb dX9_strength_5 rfl (lv_at hl 0 rfl) ?_
    refine mx_get (C := RX6) (T := TX6) (N := 18) (ci := 6) X hW 0 rfl rfl tbc_X6 4 (by decide) kw_1088 rfl dX9_strength_6 ?_
    refine lv_icmp_ge (tgt := 35) hx hb dX9_strength_9 (by decide) (fun c1 => ?_) (fun c1 => ?_)
    · have hm := (if_pos c1).symm.trans hm
      exact hk_35 x2 _ _ _ hm hW (lv_sub hl [2] rfl)
    · have hm := (if_neg c1).symm.trans hm
      refine lv_iload_n hx hb dX9_strength_12 rfl (lv_at hl 1 rfl) ?_
      refine lv_iload_n hx hb dX9_strength_13 rfl (lv_at hl 3 rfl) ?_
      obtain ⟨o2, ho2, hm⟩ := bd_s hm
      refine mx_callSN (n := 2) (As := [.int x1, .int x3]) (rest := []) (st1 := [.int o2]) (w2 := [xO q_a 6 [v_a_flow, v_a_tape, v_a_reaches, v_a_ropes, .int a_hands, v_a_boats, v_a_muds, v_a_loose, v_a_kind, v_a_wide, v_a_bank, v_a_mud, v_a_ropeAt, v_a_pulls, v_a_bears, .ref q_a_strong, v_a_boatWide, v_a_boatDeep], xI G q_a_strong 6 a_strong]) X hW hl.1 (c_X10_isIn l G x1 x3 o2 ho2) kn_20 kw_302 kw_2 kw_303 (by decide +kernel) ⟨rfl, rfl⟩ ⟨by decide, by decide⟩ ⟨Nat.zero_le _, Nat.zero_le _⟩ [] (by decide) rfl rfl rfl rfl rfl rfl (Nat.le_of_ble_eq_true rfl) rfl dX9_strength_14 (fun H locs hW => ?_)
      refine lv_if_eq (tgt := 29) hx hb dX9_strength_17 (by decide) (fun c3 => ?_) (fun c3 => ?_)
      · have hm := (if_pos c3).symm.trans hm
        refine lv_iinc (v := x3 + 1) (lv' := [(3, .int (x3 + 1)), (0, .ref q_a), (1, .int x1), (2, .int x2)]) hx hb dX9_strength_29 hl (k := 3) rfl rfl (by decide) rfl (fun ls hl => ?_)
        refine lv_goto (tgt := 4) hx hb dX9_strength_32 (by decide) ?_
        exact ih x2 (x3 + 1) _ _ _ hm hW (lv_sub hl [1, 2, 3, 0] rfl)
      · have hm := (if_neg c3).symm.trans hm
        refine lv_iload_n hx hb dX9_strength_20 rfl (lv_at hl 2 rfl) ?_
        refine lv_aload_n hx hb dX9_strength_21 rfl (lv_at hl 0 rfl) ?_
        refine mx_get (C := RX6) (T := TX6) (N := 18) (ci := 6) X hW 0 rfl rfl tbc_X6 15 (by decide) kw_1092 rfl dX9_strength_22 ?_
        refine lv_iload_n hx hb dX9_strength_25 rfl (lv_at hl 3 rfl) ?_
        obtain ⟨hg4, hm⟩ := gd_s hm
        refine mx_iald X hW 1 rfl (inb_s hg4) dX9_strength_26 ?_
        refine lv_iadd hx hb dX9_strength_27 ?_
        refine lv_topi (fun z5 ez5 => ?_)
        have hm := nm_s ez5 hm
        refine lv_istore_n (lv' := [(2, .int z5), (0, .ref q_a), (1, .int x1), (3, .int x3)]) hx hb dX9_strength_28 rfl hl (by decide) rfl (fun ls hl => ?_)
        refine lv_iinc (v := x3 + 1) (lv' := [(3, .int (x3 + 1)), (2, .int z5), (0, .ref q_a), (1, .int x1)]) hx hb dX9_strength_29 hl (k := 3) rfl rfl (by decide) rfl (fun ls hl => ?_)
        refine lv_goto (tgt := 4) hx hb dX9_strength_32 (by decide) ?_
        exact ih z5 (x3 + 1) _ _ _ hm hW (lv_sub hl [2, 3, 1, 0] rfl)
set_option maxHeartbeats 4000000 in
set_option maxRecDepth 100000 in
theorem c_X9_strength (l : Launch) (G : mx_G) (q_a : Nat) (q_a_strong : Nat) (v_a_flow : Value) (v_a_tape : Value) (v_a_reaches : Value) (v_a_ropes : Value) (v_a_boats : Value) (v_a_muds : Value) (v_a_loose : Value) (v_a_kind : Value) (v_a_wide : Value) (v_a_bank : Value) (v_a_mud : Value) (v_a_ropeAt : Value) (v_a_pulls : Value) (v_a_bears : Value) (v_a_boatWide : Value) (v_a_boatDeep : Value) (a_hands : Int32) (a_strong : Nat → Int32) (p2 : Int32) (out : Int32) (hm : f_X9_strength p2 a_hands a_strong = some out) : mx_C l yX9_strength cX9_strength 4 (some .int) rm_X9_strength G [.ref q_a, .int p2] [xO q_a 6 [v_a_flow, v_a_tape, v_a_reaches, v_a_ropes, .int a_hands, v_a_boats, v_a_muds, v_a_loose, v_a_kind, v_a_wide, v_a_bank, v_a_mud, v_a_ropeAt, v_a_pulls, v_a_bears, .ref q_a_strong, v_a_boatWide, v_a_boatDeep], xI G q_a_strong 6 a_strong] (some (.int out)) [xO q_a 6 [v_a_flow, v_a_tape, v_a_reaches, v_a_ropes, .int a_hands, v_a_boats, v_a_muds, v_a_loose, v_a_kind, v_a_wide, v_a_bank, v_a_mud, v_a_ropeAt, v_a_pulls, v_a_bears, .ref q_a_strong, v_a_boatWide, v_a_boatDeep], xI G q_a_strong 6 a_strong] := by
  refine mx_enter (own := RX9) (name := "strength") (lv := [(0, .ref q_a), (1, .int p2)]) (by decide) rfl rfl (Nat.le_of_ble_eq_true rfl) rfl ?_
  intro p e s m args below meth c A ls X hW hl
  obtain ⟨hx, hb, hml, hown, hts, hKN, -⟩ := id X
  unfold f_X9_strength at hm
  refine lv_iconst (v := 0) hx hb dX9_strength_0 (by decide) ?_
  refine lv_istore_n (lv' := [(2, .int 0), (0, .ref q_a), (1, .int p2)]) hx hb dX9_strength_1 rfl hl (by decide) rfl (fun ls hl => ?_)
  refine lv_iconst (v := 0) hx hb dX9_strength_2 (by decide) ?_
  refine lv_istore_n (lv' := [(3, .int 0), (2, .int 0), (0, .ref q_a), (1, .int p2)]) hx hb dX9_strength_3 rfl hl (by decide) rfl (fun ls hl => ?_)
  refine w_X9_strength_L4 X q_a q_a_strong (v_a_flow) (v_a_tape) (v_a_reaches) (v_a_ropes) (v_a_boats) (v_a_muds) (v_a_loose) (v_a_kind) (v_a_wide) (v_a_bank) (v_a_mud) (v_a_ropeAt) (v_a_pulls) (v_a_bears) (v_a_boatWide) (v_a_boatDeep) a_hands a_strong p2 out _ (fun x2_4 H locs ls hm hW hl => ?_) _ 0 0 _ _ _ hm hW (lv_sub hl [2, 3, 1, 0] rfl)
  refine lv_iload_n hx hb dX9_strength_35 rfl (lv_at hl 0 rfl) ?_
  obtain rfl := Option.some.inj hm
  exact mx_iret X hW dX9_strength_36

abbrev rm_X9_fewestHands : Room := { frames := 2, cells := 0, slots := 0, locals := 44 }
noncomputable def f_X9_fewestHands_L6 (k_45 : Int32 → Option (Int32)) (x2 : Int32) (a_hands : Int32) (a_strong : Nat → Int32) : Nat → Int32 → Int32 → Option (Int32)
  | 0, _, _ => none
  | n + 1, x3, x4 =>
    (if (1 <<< (a_hands &&& 31)) ≤ x4 then
      k_45 x3
    else
      (f_X9_isFewer x4 x3).bind fun o2 => (if o2 = 0 then
        f_X9_fewestHands_L6 k_45 x2 a_hands a_strong n x3 (x4 + 1)
      else
        (f_X9_strength x4 a_hands a_strong).bind fun o4 => (if o4 < x2 then
          f_X9_fewestHands_L6 k_45 x2 a_hands a_strong n x3 (x4 + 1)
        else
          f_X9_fewestHands_L6 k_45 x2 a_hands a_strong n x4 (x4 + 1))))
noncomputable def f_X9_fewestHands (p2 : Int32) (a_hands : Int32) (a_strong : Nat → Int32) : Option (Int32) :=
  f_X9_fewestHands_L6 (fun x3_6 =>
    some x3_6) p2 a_hands a_strong 2000 ((-2)) 0
set_option maxHeartbeats 4000000 in
set_option maxRecDepth 100000 in
theorem w_X9_fewestHands_L6 {p : Program} {l : Launch} {e : Env} {s : State} {m : MethodId} {args : Array Value} {below : List Frame} {meth : Method} {c : Code} {A : Nat → Prop} {G : mx_G} (X : mx_X p s m args meth c RX9 "fewestHands" cX9_fewestHands 5 (some .int) G) (q_t : Nat) (q_a : Nat) (q_a_strong : Nat) (v_t_water : Value) (v_a_flow : Value) (v_a_tape : Value) (v_a_reaches : Value) (v_a_ropes : Value) (v_a_boats : Value) (v_a_muds : Value) (v_a_loose : Value) (v_a_kind : Value) (v_a_wide : Value) (v_a_bank : Value) (v_a_mud : Value) (v_a_ropeAt : Value) (v_a_pulls : Value) (v_a_bears : Value) (v_a_boatWide : Value) (v_a_boatDeep : Value) (a_hands : Int32) (a_strong : Nat → Int32) (x2 : Int32) (out : Int32) (k_45 : Int32 → Option (Int32)) (hk_45 : ∀ (x3 : Int32) (H : Heap) (locs : List Loc) (ls : Array Slot), k_45 x3 = some out → mx_W G s A [xO q_t 9 [v_t_water], xO q_a 6 [v_a_flow, v_a_tape, v_a_reaches, v_a_ropes, .int a_hands, v_a_boats, v_a_muds, v_a_loose, v_a_kind, v_a_wide, v_a_bank, v_a_mud, v_a_ropeAt, v_a_pulls, v_a_bears, .ref q_a_strong, v_a_boatWide, v_a_boatDeep], xI G q_a_strong 6 a_strong] H locs → lv_has ls 5 [(3, .int x3)] → W p l e rm_X9_fewestHands s m args below meth c H locs 0 0 (MQ below (mx_Q G (some (.int out)) [xO q_t 9 [v_t_water], xO q_a 6 [v_a_flow, v_a_tape, v_a_reaches, v_a_ropes, .int a_hands, v_a_boats, v_a_muds, v_a_loose, v_a_kind, v_a_wide, v_a_bank, v_a_mud, v_a_ropeAt, v_a_pulls, v_a_bears, .ref q_a_strong, v_a_boatWide, v_a_boatDeep], xI G q_a_strong 6 a_strong] A) args s 0 0 A) (F0 m 45 ls [])) : ∀ (n : Nat) (x3 : Int32) (x4 : Int32) (H : Heap) (locs : List Loc) (ls : Array Slot), f_X9_fewestHands_L6 k_45 x2 a_hands a_strong n x3 x4 = some out → mx_W G s A [xO q_t 9 [v_t_water], xO q_a 6 [v_a_flow, v_a_tape, v_a_reaches, v_a_ropes, .int a_hands, v_a_boats, v_a_muds, v_a_loose, v_a_kind, v_a_wide, v_a_bank, v_a_mud, v_a_ropeAt, v_a_pulls, v_a_bears, .ref q_a_strong, v_a_boatWide, v_a_boatDeep], xI G q_a_strong 6 a_strong] H locs → lv_has ls 5 [(1, .ref q_a), (2, .int x2), (3, .int x3), (4, .int x4)] → W p l e rm_X9_fewestHands s m args below meth c H locs 0 0 (MQ below (mx_Q G (some (.int out)) [xO q_t 9 [v_t_water], xO q_a 6 [v_a_flow, v_a_tape, v_a_reaches, v_a_ropes, .int a_hands, v_a_boats, v_a_muds, v_a_loose, v_a_kind, v_a_wide, v_a_bank, v_a_mud, v_a_ropeAt, v_a_pulls, v_a_bears, .ref q_a_strong, v_a_boatWide, v_a_boatDeep], xI G q_a_strong 6 a_strong] A) args s 0 0 A) (F0 m 6 ls []) := by
  obtain ⟨hx, hb, hml, hown, hts, hKN, -⟩ := id X
  intro n
  induction n with
  | zero => intro x3 x4 H locs ls hm hW hl; exact absurd (show none = some out from hm) (fun h => by cases h)
  | succ n ih =>
    intro x3 x4 H locs ls hm hW hl
    rw [f_X9_fewestHands_L6] at hm
    refine lv_iload hx hb dX9_fewestHands_6 (lv_at hl 3 rfl) ?_
    refine lv_iconst (v := 1) hx hb dX9_fewestHands_8 (by decide) ?_
    refine lv_aload_n hx hb dX9_fewestHands_9 rfl (lv_at hl 0 rfl) ?_
    refine mx_get (C := RX6) (T := TX6) (N := 18) (ci := 6) X hW 1 rfl rfl tbc_X6 4 (by decide) kw_1088 rfl dX9_fewestHands_10 ?_
    refine lv_ishl hx hb dX9_fewestHands_13 ?_
    refine lv_icmp_ge (tgt := 45) hx hb dX9_fewestHands_14 (by decide) (fun c1 => ?_) (fun c1 => ?_)
    · have hm := (if_pos c1).symm.trans hm
      exact hk_45 x3 _ _ _ hm hW (lv_sub hl [2] rfl)
    · have hm := (if_neg c1).symm.trans hm
      refine lv_iload hx hb dX9_fewestHands_17 (lv_at hl 3 rfl) ?_
      refine lv_iload_n hx hb dX9_fewestHands_19 rfl (lv_at hl 2 rfl) ?_
      obtain ⟨o2, ho2, hm⟩ := bd_s hm
      refine mx_callS (n := 2) (As := [.int x4, .int x3]) (rest := []) (st1 := [.int o2]) (w2 := [xO q_t 9 [v_t_water], xO q_a 6 [v_a_flow, v_a_tape, v_a_reaches, v_a_ropes, .int a_hands, v_a_boats, v_a_muds, v_a_loose, v_a_kind, v_a_wide, v_a_bank, v_a_mud, v_a_ropeAt, v_a_pulls, v_a_bears, .ref q_a_strong, v_a_boatWide, v_a_boatDeep], xI G q_a_strong 6 a_strong]) X hW hl.1 (c_X9_isFewer l G x4 x3 o2 ho2) kw_1039 kw_1040 kw_35 kw_1041 (by decide +kernel) ⟨rfl, rfl⟩ ⟨by decide, by decide⟩ ⟨Nat.zero_le _, Nat.zero_le _⟩ [] (by decide) rfl rfl rfl rfl rfl rfl (Nat.le_of_ble_eq_true rfl) rfl dX9_fewestHands_20 (fun H locs hW => ?_)
      refine lv_if_eq (tgt := 39) hx hb dX9_fewestHands_23 (by decide) (fun c3 => ?_) (fun c3 => ?_)
      · have hm := (if_pos c3).symm.trans hm
        refine lv_iinc (v := x4 + 1) (lv' := [(4, .int (x4 + 1)), (1, .ref q_a), (2, .int x2), (3, .int x3)]) hx hb dX9_fewestHands_39 hl (k := 3) rfl rfl (by decide) rfl (fun ls hl => ?_)
        refine lv_goto (tgt := 6) hx hb dX9_fewestHands_42 (by decide) ?_
        exact ih x3 (x4 + 1) _ _ _ hm hW (lv_sub hl [1, 2, 3, 0] rfl)
      · have hm := (if_neg c3).symm.trans hm
        refine lv_aload_n hx hb dX9_fewestHands_26 rfl (lv_at hl 0 rfl) ?_
        refine lv_iload hx hb dX9_fewestHands_27 (lv_at hl 3 rfl) ?_
        obtain ⟨o4, ho4, hm⟩ := bd_s hm
        refine mx_callS (n := 2) (As := [.ref q_a, .int x4]) (rest := []) (st1 := [.int o4]) (w2 := [xO q_t 9 [v_t_water], xO q_a 6 [v_a_flow, v_a_tape, v_a_reaches, v_a_ropes, .int a_hands, v_a_boats, v_a_muds, v_a_loose, v_a_kind, v_a_wide, v_a_bank, v_a_mud, v_a_ropeAt, v_a_pulls, v_a_bears, .ref q_a_strong, v_a_boatWide, v_a_boatDeep], xI G q_a_strong 6 a_strong]) X hW hl.1 (c_X9_strength l G q_a q_a_strong (v_a_flow) (v_a_tape) (v_a_reaches) (v_a_ropes) (v_a_boats) (v_a_muds) (v_a_loose) (v_a_kind) (v_a_wide) (v_a_bank) (v_a_mud) (v_a_ropeAt) (v_a_pulls) (v_a_bears) (v_a_boatWide) (v_a_boatDeep) a_hands a_strong x4 o4 ho4) kw_1089 kw_1090 kw_35 kw_1091 (by decide +kernel) ⟨rfl, rfl⟩ ⟨by decide, by decide⟩ ⟨Nat.zero_le _, Nat.zero_le _⟩ [1, 2] (by decide) rfl rfl rfl rfl rfl rfl (Nat.le_of_ble_eq_true rfl) rfl dX9_fewestHands_29 (fun H locs hW => ?_)
        refine lv_iload_n hx hb dX9_fewestHands_32 rfl (lv_at hl 1 rfl) ?_
        refine lv_icmp_lt (tgt := 39) hx hb dX9_fewestHands_33 (by decide) (fun c5 => ?_) (fun c5 => ?_)
        · have hm := (if_pos c5).symm.trans hm
          refine lv_iinc (v := x4 + 1) (lv' := [(4, .int (x4 + 1)), (1, .ref q_a), (2, .int x2), (3, .int x3)]) hx hb dX9_fewestHands_39 hl (k := 3) rfl rfl (by decide) rfl (fun ls hl => ?_)
          refine lv_goto (tgt := 6) hx hb dX9_fewestHands_42 (by decide) ?_
          exact ih x3 (x4 + 1) _ _ _ hm hW (lv_sub hl [1, 2, 3, 0] rfl)
        · have hm := (if_neg c5).symm.trans hm
          refine lv_iload hx hb dX9_fewestHands_36 (lv_at hl 3 rfl) ?_
          refine lv_istore_n (lv' := [(3, .int x4), (1, .ref q_a), (2, .int x2), (4, .int x4)]) hx hb dX9_fewestHands_38 rfl hl (by decide) rfl (fun ls hl => ?_)
          refine lv_iinc (v := x4 + 1) (lv' := [(4, .int (x4 + 1)), (3, .int x4), (1, .ref q_a), (2, .int x2)]) hx hb dX9_fewestHands_39 hl (k := 3) rfl rfl (by decide) rfl (fun ls hl => ?_)
          refine lv_goto (tgt := 6) hx hb dX9_fewestHands_42 (by decide) ?_
          exact ih x4 (x4 + 1) _ _ _ hm hW (lv_sub hl [2, 3, 1, 0] rfl)
set_option maxHeartbeats 4000000 in
set_option maxRecDepth 100000 in
theorem c_X9_fewestHands (l : Launch) (G : mx_G) (q_t : Nat) (q_a : Nat) (q_a_strong : Nat) (v_t_water : Value) (v_a_flow : Value) (v_a_tape : Value) (v_a_reaches : Value) (v_a_ropes : Value) (v_a_boats : Value) (v_a_muds : Value) (v_a_loose : Value) (v_a_kind : Value) (v_a_wide : Value) (v_a_bank : Value) (v_a_mud : Value) (v_a_ropeAt : Value) (v_a_pulls : Value) (v_a_bears : Value) (v_a_boatWide : Value) (v_a_boatDeep : Value) (a_hands : Int32) (a_strong : Nat → Int32) (p2 : Int32) (out : Int32) (hm : f_X9_fewestHands p2 a_hands a_strong = some out) : mx_C l yX9_fewestHands cX9_fewestHands 5 (some .int) rm_X9_fewestHands G [.ref q_t, .ref q_a, .int p2] [xO q_t 9 [v_t_water], xO q_a 6 [v_a_flow, v_a_tape, v_a_reaches, v_a_ropes, .int a_hands, v_a_boats, v_a_muds, v_a_loose, v_a_kind, v_a_wide, v_a_bank, v_a_mud, v_a_ropeAt, v_a_pulls, v_a_bears, .ref q_a_strong, v_a_boatWide, v_a_boatDeep], xI G q_a_strong 6 a_strong] (some (.int out)) [xO q_t 9 [v_t_water], xO q_a 6 [v_a_flow, v_a_tape, v_a_reaches, v_a_ropes, .int a_hands, v_a_boats, v_a_muds, v_a_loose, v_a_kind, v_a_wide, v_a_bank, v_a_mud, v_a_ropeAt, v_a_pulls, v_a_bears, .ref q_a_strong, v_a_boatWide, v_a_boatDeep], xI G q_a_strong 6 a_strong] := by
  refine mx_enter (own := RX9) (name := "fewestHands") (lv := [(0, .ref q_t), (1, .ref q_a), (2, .int p2)]) (by decide) rfl rfl (Nat.le_of_ble_eq_true rfl) rfl ?_
  intro p e s m args below meth c A ls X hW hl
  obtain ⟨hx, hb, hml, hown, hts, hKN, -⟩ := id X
  unfold f_X9_fewestHands at hm
  refine lv_bipush (v := (-2)) hx hb dX9_fewestHands_0 (by decide) ?_
  refine lv_istore_n (lv' := [(3, .int ((-2))), (0, .ref q_t), (1, .ref q_a), (2, .int p2)]) hx hb dX9_fewestHands_2 rfl hl (by decide) rfl (fun ls hl => ?_)
  refine lv_iconst (v := 0) hx hb dX9_fewestHands_3 (by decide) ?_
  refine lv_istore (lv' := [(4, .int 0), (3, .int ((-2))), (0, .ref q_t), (1, .ref q_a), (2, .int p2)]) hx hb dX9_fewestHands_4 hl (by decide) rfl (fun ls hl => ?_)
  refine w_X9_fewestHands_L6 X q_t q_a q_a_strong (v_t_water) (v_a_flow) (v_a_tape) (v_a_reaches) (v_a_ropes) (v_a_boats) (v_a_muds) (v_a_loose) (v_a_kind) (v_a_wide) (v_a_bank) (v_a_mud) (v_a_ropeAt) (v_a_pulls) (v_a_bears) (v_a_boatWide) (v_a_boatDeep) a_hands a_strong p2 out _ (fun x3_6 H locs ls hm hW hl => ?_) _ ((-2)) 0 _ _ _ hm hW (lv_sub hl [3, 4, 1, 0] rfl)
  refine lv_iload_n hx hb dX9_fewestHands_45 rfl (lv_at hl 0 rfl) ?_
  obtain rfl := Option.some.inj hm
  exact mx_iret X hW dX9_fewestHands_46
