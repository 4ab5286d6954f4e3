abbrev rm_X5_append : Room := { frames := 0, cells := 0, slots := 0, locals := 0 }
noncomputable def f_X5_append_L3 (k_46 : (Nat → Int32) → Int32 → Option ((Nat → Int32) × Int32)) (x1 : Int32) : Nat → Int32 → (Nat → Int32) → Int32 → Option ((Nat → Int32) × Int32)
  | 0, _, _, _ => none
  | n + 1, x2, t_tape, t_filled =>
    (if x2 < 0 then
      k_46 t_tape t_filled
    else
      (if 900 ≤ t_filled then
        f_X5_append_L3 k_46 x1 n (x2 + (-8)) t_tape t_filled
      else
        nm (((x1.toUInt32 >>> (x2.toUInt32 &&& Int32.toUInt32 31)).toInt32).toInt8.toInt32) fun z3 => gd (inb t_filled 900) <| nm (upd t_tape t_filled.toNatClampNeg (vp_nar .byte z3)) fun r5 => nm (t_filled + 1) fun z6 =>f_X5_append_L3 k_46 x1 n (x2 + (-8)) r5 z6))
noncomputable def f_X5_append (p1 : Int32) (t_tape : Nat → Int32) (t_filled : Int32) : Option ((Nat → Int32) × Int32) :=
  f_X5_append_L3 (fun t_tape_3 t_filled_3 =>
    some (t_tape_3, t_filled_3)) p1 2000 24 t_tape t_filled
set_option maxHeartbeats 4000000 in
set_option maxRecDepth 100000 in
theorem w_X5_append_L3 {p : Program} {l : Launch} {e : Env} {s : State} {m : MethodId} {args : Array Value} {below : List Frame} {meth : Method} {c : Code} {A : Nat → Prop} {G : mx_G} (X : mx_X p s m args meth c RX5 "append" cX5_append 3 none G) (q_t : Nat) (q_t_tape : Nat) (v_t_names : Value) (v_t_nameLines : Value) (v_t_nameNumbers : Value) (v_t_fault : Value) (v_t_faultPlace : Value) (v_t_draft : Value) (v_t_named : Value) (v_t_end : Value) (v_t_at : Value) (v_t_sort : Value) (v_t_place : Value) (v_t_value : Value) (v_t_code : Value) (x1 : Int32) (out : (Nat → Int32) × Int32) (k_46 : (Nat → Int32) → Int32 → Option ((Nat → Int32) × Int32)) (hk_46 : ∀ (t_tape : Nat → Int32) (t_filled : Int32) (H : Heap) (locs : List Loc) (ls : Array Slot), k_46 t_tape t_filled = some out → mx_W G s A [xO q_t 5 [.ref q_t_tape, v_t_names, v_t_nameLines, v_t_nameNumbers, .int t_filled, v_t_fault, v_t_faultPlace, v_t_draft, v_t_named, v_t_end, v_t_at, v_t_sort, v_t_place, v_t_value, v_t_code], xB G q_t_tape 900 t_tape] H locs → lv_has ls 3 [] → W p l e rm_X5_append s m args below meth c H locs 0 0 (MQ below (mx_Q G none [xO q_t 5 [.ref q_t_tape, v_t_names, v_t_nameLines, v_t_nameNumbers, .int out.2, v_t_fault, v_t_faultPlace, v_t_draft, v_t_named, v_t_end, v_t_at, v_t_sort, v_t_place, v_t_value, v_t_code], xB G q_t_tape 900 out.1] A) args s 0 0 A) (F0 m 46 ls [])) : ∀ (n : Nat) (x2 : Int32) (t_tape : Nat → Int32) (t_filled : Int32) (H : Heap) (locs : List Loc) (ls : Array Slot), f_X5_append_L3 k_46 x1 n x2 t_tape t_filled = some out → mx_W G s A [xO q_t 5 [.ref q_t_tape, v_t_names, v_t_nameLines, v_t_nameNumbers, .int t_filled, v_t_fault, v_t_faultPlace, v_t_draft, v_t_named, v_t_end, v_t_at, v_t_sort, v_t_place, v_t_value, v_t_code], xB G q_t_tape 900 t_tape] H locs → lv_has ls 3 [(0, .ref q_t), (1, .int x1), (2, .int x2)] → W p l e rm_X5_append s m args below meth c H locs 0 0 (MQ below (mx_Q G none [xO q_t 5 [.ref q_t_tape, v_t_names, v_t_nameLines, v_t_nameNumbers, .int out.2, v_t_fault, v_t_faultPlace, v_t_draft, v_t_named, v_t_end, v_t_at, v_t_sort, v_t_place, v_t_value, v_t_code], xB G q_t_tape 900 out.1] A) args s 0 0 A) (F0 m 3 ls []) := by
  obtain ⟨hx, hb, hml, hown, hts, hKN, -⟩ := id X
  intro n
  induction n with
  | zero => intro x2 t_tape t_filled H locs ls hm hW hl; exact absurd (show none = some out from hm) (fun h => by cases h)
  | succ n ih =>
    intro x2 t_tape t_filled H locs ls hm hW hl
    rw [f_X5_append_L3] at hm
    refine lv_iload_n hx hb dX5_append_3 rfl (lv_at hl 2 rfl) ?_
    refine lv_if_lt (tgt := 46) hx hb dX5_append_4 (by decide) (fun c1 => ?_) (fun c1 => ?_)
    · have hm := (if_pos c1).symm.trans hm
      exact hk_46 t_tape t_filled _ _ _ hm hW (lv_sub hl [] rfl)
    · have hm := (if_neg c1).symm.trans hm
      refine lv_aload_n hx hb dX5_append_7 rfl (lv_at hl 0 rfl) ?_
      refine mx_get (C := RX5) (T := TX5) (N := 15) (ci := 5) X hW 0 rfl rfl tbc_X5 4 (by decide) kw_154 rfl dX5_append_8 ?_
      refine lv_sipush (v := 900) hx hb dX5_append_11 (by decide) ?_
      refine lv_icmp_ge (tgt := 40) hx hb dX5_append_14 (by decide) (fun c2 => ?_) (fun c2 => ?_)
      · have hm := (if_pos c2).symm.trans hm
        refine lv_iinc (v := x2 + (-8)) (lv' := [(2, .int (x2 + (-8))), (0, .ref q_t), (1, .int x1)]) hx hb dX5_append_40 hl (k := 2) rfl rfl (by decide) rfl (fun ls hl => ?_)
        refine lv_goto (tgt := 3) hx hb dX5_append_43 (by decide) ?_
        exact ih (x2 + (-8)) t_tape t_filled _ _ _ hm hW (lv_sub hl [1, 2, 0] rfl)
      · have hm := (if_neg c2).symm.trans hm
        refine lv_aload_n hx hb dX5_append_17 rfl (lv_at hl 0 rfl) ?_
        refine mx_get (C := RX5) (T := TX5) (N := 15) (ci := 5) X hW 0 rfl rfl tbc_X5 0 (by decide) kw_58 rfl dX5_append_18 ?_
        refine lv_aload_n hx hb dX5_append_21 rfl (lv_at hl 0 rfl) ?_
        refine mx_get (C := RX5) (T := TX5) (N := 15) (ci := 5) X hW 0 rfl rfl tbc_X5 4 (by decide) kw_154 rfl dX5_append_22 ?_
        refine lv_iload_n hx hb dX5_append_25 rfl (lv_at hl 1 rfl) ?_
        refine lv_iload_n hx hb dX5_append_26 rfl (lv_at hl 2 rfl) ?_
        refine lv_iushr (v := (x1.toUInt32 >>> (x2.toUInt32 &&& Int32.toUInt32 31)).toInt32) hx hb dX5_append_27 rfl ?_
        refine lv_i2b (v := ((x1.toUInt32 >>> (x2.toUInt32 &&& Int32.toUInt32 31)).toInt32).toInt8.toInt32) hx hb dX5_append_28 rfl ?_
        refine lv_topi (fun z3 ez3 => ?_)
        have hm := nm_s ez3 hm
        obtain ⟨hg4, hm⟩ := gd_s hm
        refine mx_bast (w2 := [xO q_t 5 [.ref q_t_tape, v_t_names, v_t_nameLines, v_t_nameNumbers, .int t_filled, v_t_fault, v_t_faultPlace, v_t_draft, v_t_named, v_t_end, v_t_at, v_t_sort, v_t_place, v_t_value, v_t_code], xB G q_t_tape 900 (upd t_tape t_filled.toNatClampNeg (vp_nar .byte z3))]) X hW 1 rfl (inb_s hg4) rfl dX5_append_29 (fun H locs hW => ?_)
        obtain ⟨r5, er5⟩ : ∃ z, z = upd t_tape t_filled.toNatClampNeg (vp_nar .byte z3) := ⟨_, rfl⟩
        have hm := nm_s er5 hm
        have hW : mx_W G s A [xO q_t 5 [.ref q_t_tape, v_t_names, v_t_nameLines, v_t_nameNumbers, .int t_filled, v_t_fault, v_t_faultPlace, v_t_draft, v_t_named, v_t_end, v_t_at, v_t_sort, v_t_place, v_t_value, v_t_code], xB G q_t_tape 900 r5] H locs := by rw [er5]; exact hW
        refine lv_aload_n hx hb dX5_append_30 rfl (lv_at hl 0 rfl) ?_
        refine lv_dup hx hb dX5_append_31 rfl ?_
        refine mx_get (C := RX5) (T := TX5) (N := 15) (ci := 5) X hW 0 rfl rfl tbc_X5 4 (by decide) kw_154 rfl dX5_append_32 ?_
        refine lv_iconst (v := 1) hx hb dX5_append_35 (by decide) ?_
        refine lv_iadd hx hb dX5_append_36 ?_
        refine lv_topi (fun z6 ez6 => ?_)
        have hm := nm_s ez6 hm
        refine mx_put (C := RX5) (T := TX5) (N := 15) (ci := 5) (w2 := [xO q_t 5 [.ref q_t_tape, v_t_names, v_t_nameLines, v_t_nameNumbers, .int z6, v_t_fault, v_t_faultPlace, v_t_draft, v_t_named, v_t_end, v_t_at, v_t_sort, v_t_place, v_t_value, v_t_code], xB G q_t_tape 900 r5]) X hW 0 rfl rfl tbc_X5 tyX5 tyX5_ok nmX5 4 (by decide) kw_154 rfl rfl rfl rfl (Nat.le_of_ble_eq_true rfl) rfl dX5_append_37 (fun H locs hW => ?_)
        refine lv_iinc (v := x2 + (-8)) (lv' := [(2, .int (x2 + (-8))), (0, .ref q_t), (1, .int x1)]) hx hb dX5_append_40 hl (k := 2) rfl rfl (by decide) rfl (fun ls hl => ?_)
        refine lv_goto (tgt := 3) hx hb dX5_append_43 (by decide) ?_
        exact ih (x2 + (-8)) r5 z6 _ _ _ hm hW (lv_sub hl [1, 2, 0] rfl)
set_option maxHeartbeats 4000000 in
set_option maxRecDepth 100000 in
theorem c_X5_append (l : Launch) (G : mx_G) (q_t : Nat) (q_t_tape : Nat) (v_t_names : Value) (v_t_nameLines : Value) (v_t_nameNumbers : Value) (v_t_fault : Value) (v_t_faultPlace : Value) (v_t_draft : Value) (v_t_named : Value) (v_t_end : Value) (v_t_at : Value) (v_t_sort : Value) (v_t_place : Value) (v_t_value : Value) (v_t_code : Value) (t_tape : Nat → Int32) (t_filled : Int32) (p1 : Int32) (out : (Nat → Int32) × Int32) (hm : f_X5_append p1 t_tape t_filled = some out) : mx_C l yX5_append cX5_append 3 none rm_X5_append G [.ref q_t, .int p1] [xO q_t 5 [.ref q_t_tape, v_t_names, v_t_nameLines, v_t_nameNumbers, .int t_filled, v_t_fault, v_t_faultPlace, v_t_draft, v_t_named, v_t_end, v_t_at, v_t_sort, v_t_place, v_t_value, v_t_code], xB G q_t_tape 900 t_tape] none [xO q_t 5 [.ref q_t_tape, v_t_names, v_t_nameLines, v_t_nameNumbers, .int out.2, v_t_fault, v_t_faultPlace, v_t_draft, v_t_named, v_t_end, v_t_at, v_t_sort, v_t_place, v_t_value, v_t_code], xB G q_t_tape 900 out.1] := by
  refine mx_enter (own := RX5) (name := "append") (lv := [(0, .ref q_t), (1, .int p1)]) (by decide) rfl rfl (Nat.le_of_ble_eq_true rfl) rfl ?_
  intro p e s m args below meth c A ls X hW hl
  obtain ⟨hx, hb, hml, hown, hts, hKN, -⟩ := id X
  unfold f_X5_append at hm
  refine lv_bipush (v := 24) hx hb dX5_append_0 (by decide) ?_
  refine lv_istore_n (lv' := [(2, .int 24), (0, .ref q_t), (1, .int p1)]) hx hb dX5_append_2 rfl hl (by decide) rfl (fun ls hl => ?_)
  refine w_X5_append_L3 X q_t q_t_tape (v_t_names) (v_t_nameLines) (v_t_nameNumbers) (v_t_fault) (v_t_faultPlace) (v_t_draft) (v_t_named) (v_t_end) (v_t_at) (v_t_sort) (v_t_place) (v_t_value) (v_t_code) p1 out _ (fun t_tape_3 t_filled_3 H locs ls hm hW hl => ?_) _ 24 t_tape t_filled _ _ _ hm hW (lv_sub hl [1, 2, 0] rfl)
  obtain rfl := Option.some.inj hm
  exact mx_vret X hW dX5_append_46

abbrev rm_X5_fail : Room := { frames := 0, cells := 0, slots := 0, locals := 0 }
noncomputable def f_X5_fail (p1 : Int32) (t_fault : Int32) (t_faultPlace : Int32) (t_place : Int32) : Option (Int32 × Int32 × Int32) :=
  some (0, p1, t_place)
set_option maxHeartbeats 4000000 in
set_option maxRecDepth 100000 in
theorem c_X5_fail (l : Launch) (G : mx_G) (q_t : Nat) (v_t_tape : Value) (v_t_names : Value) (v_t_nameLines : Value) (v_t_nameNumbers : Value) (v_t_filled : Value) (v_t_draft : Value) (v_t_named : Value) (v_t_end : Value) (v_t_at : Value) (v_t_sort : Value) (v_t_value : Value) (v_t_code : Value) (t_fault : Int32) (t_faultPlace : Int32) (t_place : Int32) (p1 : Int32) (out : Int32 × Int32 × Int32) (hm : f_X5_fail p1 t_fault t_faultPlace t_place = some out) : mx_C l yX5_fail cX5_fail 2 (some .boolean) rm_X5_fail G [.ref q_t, .int p1] [xO q_t 5 [v_t_tape, v_t_names, v_t_nameLines, v_t_nameNumbers, v_t_filled, .int t_fault, .int t_faultPlace, v_t_draft, v_t_named, v_t_end, v_t_at, v_t_sort, .int t_place, v_t_value, v_t_code]] (some (.int out.1)) [xO q_t 5 [v_t_tape, v_t_names, v_t_nameLines, v_t_nameNumbers, v_t_filled, .int out.2.1, .int out.2.2, v_t_draft, v_t_named, v_t_end, v_t_at, v_t_sort, .int t_place, v_t_value, v_t_code]] := by
  refine mx_enter (own := RX5) (name := "fail") (lv := [(0, .ref q_t), (1, .int p1)]) (by decide) rfl rfl (Nat.le_of_ble_eq_true rfl) rfl ?_
  intro p e s m args below meth c A ls X hW hl
  obtain ⟨hx, hb, hml, hown, hts, hKN, -⟩ := id X
  unfold f_X5_fail at hm
  refine lv_aload_n hx hb dX5_fail_0 rfl (lv_at hl 0 rfl) ?_
  refine lv_iload_n hx hb dX5_fail_1 rfl (lv_at hl 1 rfl) ?_
  refine mx_put (C := RX5) (T := TX5) (N := 15) (ci := 5) (w2 := [xO q_t 5 [v_t_tape, v_t_names, v_t_nameLines, v_t_nameNumbers, v_t_filled, .int p1, .int t_faultPlace, v_t_draft, v_t_named, v_t_end, v_t_at, v_t_sort, .int t_place, v_t_value, v_t_code]]) X hW 0 rfl rfl tbc_X5 tyX5 tyX5_ok nmX5 5 (by decide) kw_180 rfl rfl rfl rfl (Nat.le_of_ble_eq_true rfl) rfl dX5_fail_2 (fun H locs hW => ?_)
  refine lv_aload_n hx hb dX5_fail_5 rfl (lv_at hl 0 rfl) ?_
  refine lv_aload_n hx hb dX5_fail_6 rfl (lv_at hl 0 rfl) ?_
  refine mx_get (C := RX5) (T := TX5) (N := 15) (ci := 5) X hW 0 rfl rfl tbc_X5 12 (by decide) kw_200 rfl dX5_fail_7 ?_
  refine mx_put (C := RX5) (T := TX5) (N := 15) (ci := 5) (w2 := [xO q_t 5 [v_t_tape, v_t_names, v_t_nameLines, v_t_nameNumbers, v_t_filled, .int p1, .int t_place, v_t_draft, v_t_named, v_t_end, v_t_at, v_t_sort, .int t_place, v_t_value, v_t_code]]) X hW 0 rfl rfl tbc_X5 tyX5 tyX5_ok nmX5 6 (by decide) kw_231 rfl rfl rfl rfl (Nat.le_of_ble_eq_true rfl) rfl dX5_fail_10 (fun H locs hW => ?_)
  refine lv_iconst (v := 0) hx hb dX5_fail_13 (by decide) ?_
  obtain rfl := Option.some.inj hm
  exact mx_zret X nb0 hW dX5_fail_14

abbrev rm_X5_scanWhole : Room := { frames := 0, cells := 0, slots := 0, locals := 0 }
noncomputable def f_X5_scanWhole_L5 (k_81 : Int32 → Int32 → Option (Int32 × Int32 × Int32)) (t_tape : Nat → Int32) (t_end : Int32) : Nat → Int32 → Int32 → Option (Int32 × Int32 × Int32)
  | 0, _, _ => none
  | n + 1, t_at, t_value =>
    (if t_end ≤ t_at then
      k_81 t_at t_value
    else
      gd (inb t_at 900) <| (if (t_tape t_at.toNatClampNeg) < 48 then
        k_81 t_at t_value
      else
        gd (inb t_at 900) <| (if 57 < (t_tape t_at.toNatClampNeg) then
          k_81 t_at t_value
        else
          gd (inb t_at 900) <| nm (((10 * t_value) + (t_tape t_at.toNatClampNeg)) - 48) fun z7 => nm (t_at + 1) fun z8 =>f_X5_scanWhole_L5 k_81 t_tape t_end n z8 z7)))
noncomputable def f_X5_scanWhole_B81  (t_at : Int32) (t_sort : Int32) (t_place : Int32) (t_value : Int32) : Option (Int32 × Int32 × Int32) :=
  (if 3 < (t_at - t_place) then
    some (t_at, 4, t_value)
  else
    some (t_at, 2, t_value))
noncomputable def f_X5_scanWhole (t_tape : Nat → Int32) (t_end : Int32) (t_at : Int32) (t_sort : Int32) (t_place : Int32) (t_value : Int32) : Option (Int32 × Int32 × Int32) :=
  f_X5_scanWhole_L5 (fun t_at_5 t_value_5 =>
    f_X5_scanWhole_B81  t_at_5 t_sort t_place t_value_5) t_tape t_end 2000 t_at 0
set_option maxHeartbeats 4000000 in
set_option maxRecDepth 100000 in
theorem w_X5_scanWhole_L5 {p : Program} {l : Launch} {e : Env} {s : State} {m : MethodId} {args : Array Value} {below : List Frame} {meth : Method} {c : Code} {A : Nat → Prop} {G : mx_G} (X : mx_X p s m args meth c RX5 "scanWhole" cX5_scanWhole 1 none G) (q_t : Nat) (q_t_tape : Nat) (v_t_names : Value) (v_t_nameLines : Value) (v_t_nameNumbers : Value) (v_t_filled : Value) (v_t_fault : Value) (v_t_faultPlace : Value) (v_t_draft : Value) (v_t_named : Value) (v_t_code : Value) (t_tape : Nat → Int32) (t_end : Int32) (t_sort : Int32) (t_place : Int32)  (out : Int32 × Int32 × Int32) (k_81 : Int32 → Int32 → Option (Int32 × Int32 × Int32)) (hk_81 : ∀ (t_at : Int32) (t_value : Int32) (H : Heap) (locs : List Loc) (ls : Array Slot), k_81 t_at t_value = some out → mx_W G s A [xO q_t 5 [.ref q_t_tape, v_t_names, v_t_nameLines, v_t_nameNumbers, v_t_filled, v_t_fault, v_t_faultPlace, v_t_draft, v_t_named, .int t_end, .int t_at, .int t_sort, .int t_place, .int t_value, v_t_code], xB G q_t_tape 900 t_tape] H locs → lv_has ls 1 [(0, .ref q_t)] → W p l e rm_X5_scanWhole s m args below meth c H locs 0 0 (MQ below (mx_Q G none [xO q_t 5 [.ref q_t_tape, v_t_names, v_t_nameLines, v_t_nameNumbers, v_t_filled, v_t_fault, v_t_faultPlace, v_t_draft, v_t_named, .int t_end, .int out.1, .int out.2.1, .int t_place, .int out.2.2, v_t_code], xB G q_t_tape 900 t_tape] A) args s 0 0 A) (F0 m 81 ls [])) : ∀ (n : Nat) (t_at : Int32) (t_value : Int32) (H : Heap) (locs : List Loc) (ls : Array Slot), f_X5_scanWhole_L5 k_81 t_tape t_end n t_at t_value = some out → mx_W G s A [xO q_t 5 [.ref q_t_tape, v_t_names, v_t_nameLines, v_t_nameNumbers, v_t_filled, v_t_fault, v_t_faultPlace, v_t_draft, v_t_named, .int t_end, .int t_at, .int t_sort, .int t_place, .int t_value, v_t_code], xB G q_t_tape 900 t_tape] H locs → lv_has ls 1 [(0, .ref q_t)] → W p l e rm_X5_scanWhole s m args below meth c H locs 0 0 (MQ below (mx_Q G none [xO q_t 5 [.ref q_t_tape, v_t_names, v_t_nameLines, v_t_nameNumbers, v_t_filled, v_t_fault, v_t_faultPlace, v_t_draft, v_t_named, .int t_end, .int out.1, .int out.2.1, .int t_place, .int out.2.2, v_t_code], xB G q_t_tape 900 t_tape] A) args s 0 0 A) (F0 m 5 ls []) := by
  obtain ⟨hx, hb, hml, hown, hts, hKN, -⟩ := id X
  intro n
  induction n with
  | zero => intro t_at t_value H locs ls hm hW hl; exact absurd (show none = some out from hm) (fun h => by cases h)
  | succ n ih =>
    intro t_at t_value H locs ls hm hW hl
    rw [f_X5_scanWhole_L5] at hm
    refine lv_aload_n hx hb dX5_scanWhole_5 rfl (lv_at hl 0 rfl) ?_
    refine mx_get (C := RX5) (T := TX5) (N := 15) (ci := 5) X hW 0 rfl rfl tbc_X5 10 (by decide) kw_179 rfl dX5_scanWhole_6 ?_
    refine lv_aload_n hx hb dX5_scanWhole_9 rfl (lv_at hl 0 rfl) ?_
    refine mx_get (C := RX5) (T := TX5) (N := 15) (ci := 5) X hW 0 rfl rfl tbc_X5 9 (by decide) kw_178 rfl dX5_scanWhole_10 ?_
    refine lv_icmp_ge (tgt := 81) hx hb dX5_scanWhole_13 (by decide) (fun c1 => ?_) (fun c1 => ?_)
    · have hm := (if_pos c1).symm.trans hm
      exact hk_81 t_at t_value _ _ _ hm hW (lv_sub hl [0] rfl)
    · have hm := (if_neg c1).symm.trans hm
      refine lv_aload_n hx hb dX5_scanWhole_16 rfl (lv_at hl 0 rfl) ?_
      refine mx_get (C := RX5) (T := TX5) (N := 15) (ci := 5) X hW 0 rfl rfl tbc_X5 0 (by decide) kw_58 rfl dX5_scanWhole_17 ?_
      refine lv_aload_n hx hb dX5_scanWhole_20 rfl (lv_at hl 0 rfl) ?_
      refine mx_get (C := RX5) (T := TX5) (N := 15) (ci := 5) X hW 0 rfl rfl tbc_X5 10 (by decide) kw_179 rfl dX5_scanWhole_21 ?_
      obtain ⟨hg2, hm⟩ := gd_s hm
      refine mx_bald X hW 1 rfl (inb_s hg2) dX5_scanWhole_24 ?_
      refine lv_bipush (v := 48) hx hb dX5_scanWhole_25 (by decide) ?_
      refine lv_icmp_lt (tgt := 81) hx hb dX5_scanWhole_27 (by decide) (fun c3 => ?_) (fun c3 => ?_)
      · have hm := (if_pos c3).symm.trans hm
        exact hk_81 t_at t_value _ _ _ hm hW (lv_sub hl [0] rfl)
      · have hm := (if_neg c3).symm.trans hm
        refine lv_aload_n hx hb dX5_scanWhole_30 rfl (lv_at hl 0 rfl) ?_
        refine mx_get (C := RX5) (T := TX5) (N := 15) (ci := 5) X hW 0 rfl rfl tbc_X5 0 (by decide) kw_58 rfl dX5_scanWhole_31 ?_
        refine lv_aload_n hx hb dX5_scanWhole_34 rfl (lv_at hl 0 rfl) ?_
        refine mx_get (C := RX5) (T := TX5) (N := 15) (ci := 5) X hW 0 rfl rfl tbc_X5 10 (by decide) kw_179 rfl dX5_scanWhole_35 ?_
        obtain ⟨hg4, hm⟩ := gd_s hm
        refine mx_bald X hW 1 rfl (inb_s hg4) dX5_scanWhole_38 ?_
        refine lv_bipush (v := 57) hx hb dX5_scanWhole_39 (by decide) ?_
        refine lv_icmp_gt (tgt := 81) hx hb dX5_scanWhole_41 (by decide) (fun c5 => ?_) (fun c5 => ?_)
        · have hm := (if_pos c5).symm.trans hm
          exact hk_81 t_at t_value _ _ _ hm hW (lv_sub hl [0] rfl)
        · have hm := (if_neg c5).symm.trans hm
          refine lv_aload_n hx hb dX5_scanWhole_44 rfl (lv_at hl 0 rfl) ?_
          refine lv_bipush (v := 10) hx hb dX5_scanWhole_45 (by decide) ?_
          refine lv_aload_n hx hb dX5_scanWhole_47 rfl (lv_at hl 0 rfl) ?_
          refine mx_get (C := RX5) (T := TX5) (N := 15) (ci := 5) X hW 0 rfl rfl tbc_X5 13 (by decide) kw_210 rfl dX5_scanWhole_48 ?_
          refine lv_imul hx hb dX5_scanWhole_51 ?_
          refine lv_aload_n hx hb dX5_scanWhole_52 rfl (lv_at hl 0 rfl) ?_
          refine mx_get (C := RX5) (T := TX5) (N := 15) (ci := 5) X hW 0 rfl rfl tbc_X5 0 (by decide) kw_58 rfl dX5_scanWhole_53 ?_
          refine lv_aload_n hx hb dX5_scanWhole_56 rfl (lv_at hl 0 rfl) ?_
          refine mx_get (C := RX5) (T := TX5) (N := 15) (ci := 5) X hW 0 rfl rfl tbc_X5 10 (by decide) kw_179 rfl dX5_scanWhole_57 ?_
          obtain ⟨hg6, hm⟩ := gd_s hm
          refine mx_bald X hW 1 rfl (inb_s hg6) dX5_scanWhole_60 ?_
          refine lv_iadd hx hb dX5_scanWhole_61 ?_
          refine lv_bipush (v := 48) hx hb dX5_scanWhole_62 (by decide) ?_
          refine lv_isub hx hb dX5_scanWhole_64 ?_
          refine lv_topi (fun z7 ez7 => ?_)
          have hm := nm_s ez7 hm
          refine mx_put (C := RX5) (T := TX5) (N := 15) (ci := 5) (w2 := [xO q_t 5 [.ref q_t_tape, v_t_names, v_t_nameLines, v_t_nameNumbers, v_t_filled, v_t_fault, v_t_faultPlace, v_t_draft, v_t_named, .int t_end, .int t_at, .int t_sort, .int t_place, .int z7, v_t_code], xB G q_t_tape 900 t_tape]) X hW 0 rfl rfl tbc_X5 tyX5 tyX5_ok nmX5 13 (by decide) kw_210 rfl rfl rfl rfl (Nat.le_of_ble_eq_true rfl) rfl dX5_scanWhole_65 (fun H locs hW => ?_)
          refine lv_aload_n hx hb dX5_scanWhole_68 rfl (lv_at hl 0 rfl) ?_
          refine lv_dup hx hb dX5_scanWhole_69 rfl ?_
          refine mx_get (C := RX5) (T := TX5) (N := 15) (ci := 5) X hW 0 rfl rfl tbc_X5 10 (by decide) kw_179 rfl dX5_scanWhole_70 ?_
          refine lv_iconst (v := 1) hx hb dX5_scanWhole_73 (by decide) ?_
          refine lv_iadd hx hb dX5_scanWhole_74 ?_
          refine lv_topi (fun z8 ez8 => ?_)
          have hm := nm_s ez8 hm
          refine mx_put (C := RX5) (T := TX5) (N := 15) (ci := 5) (w2 := [xO q_t 5 [.ref q_t_tape, v_t_names, v_t_nameLines, v_t_nameNumbers, v_t_filled, v_t_fault, v_t_faultPlace, v_t_draft, v_t_named, .int t_end, .int z8, .int t_sort, .int t_place, .int z7, v_t_code], xB G q_t_tape 900 t_tape]) X hW 0 rfl rfl tbc_X5 tyX5 tyX5_ok nmX5 10 (by decide) kw_179 rfl rfl rfl rfl (Nat.le_of_ble_eq_true rfl) rfl dX5_scanWhole_75 (fun H locs hW => ?_)
          refine lv_goto (tgt := 5) hx hb dX5_scanWhole_78 (by decide) ?_
          exact ih z8 z7 _ _ _ hm hW (lv_sub hl [0] rfl)
set_option maxHeartbeats 4000000 in
set_option maxRecDepth 100000 in
theorem w_X5_scanWhole_B81 {p : Program} {l : Launch} {e : Env} {s : State} {m : MethodId} {args : Array Value} {below : List Frame} {meth : Method} {c : Code} {A : Nat → Prop} {G : mx_G} (X : mx_X p s m args meth c RX5 "scanWhole" cX5_scanWhole 1 none G) (q_t : Nat) (q_t_tape : Nat) (v_t_names : Value) (v_t_nameLines : Value) (v_t_nameNumbers : Value) (v_t_filled : Value) (v_t_fault : Value) (v_t_faultPlace : Value) (v_t_draft : Value) (v_t_named : Value) (v_t_code : Value) (t_tape : Nat → Int32) (t_end : Int32) (out : Int32 × Int32 × Int32)   : ∀ (t_at : Int32) (t_sort : Int32) (t_place : Int32) (t_value : Int32) (H : Heap) (locs : List Loc) (ls : Array Slot), f_X5_scanWhole_B81  t_at t_sort t_place t_value = some out → mx_W G s A [xO q_t 5 [.ref q_t_tape, v_t_names, v_t_nameLines, v_t_nameNumbers, v_t_filled, v_t_fault, v_t_faultPlace, v_t_draft, v_t_named, .int t_end, .int t_at, .int t_sort, .int t_place, .int t_value, v_t_code], xB G q_t_tape 900 t_tape] H locs → lv_has ls 1 [(0, .ref q_t)] → W p l e rm_X5_scanWhole s m args below meth c H locs 0 0 (MQ below (mx_Q G none [xO q_t 5 [.ref q_t_tape, v_t_names, v_t_nameLines, v_t_nameNumbers, v_t_filled, v_t_fault, v_t_faultPlace, v_t_draft, v_t_named, .int t_end, .int out.1, .int out.2.1, .int t_place, .int out.2.2, v_t_code], xB G q_t_tape 900 t_tape] A) args s 0 0 A) (F0 m 81 ls []) := by
  obtain ⟨hx, hb, hml, hown, hts, hKN, -⟩ := id X
  intro t_at t_sort t_place t_value H locs ls hm hW hl
  unfold f_X5_scanWhole_B81 at hm
  refine lv_aload_n hx hb dX5_scanWhole_81 rfl (lv_at hl 0 rfl) ?_
  refine lv_aload_n hx hb dX5_scanWhole_82 rfl (lv_at hl 0 rfl) ?_
  refine mx_get (C := RX5) (T := TX5) (N := 15) (ci := 5) X hW 0 rfl rfl tbc_X5 10 (by decide) kw_179 rfl dX5_scanWhole_83 ?_
  refine lv_aload_n hx hb dX5_scanWhole_86 rfl (lv_at hl 0 rfl) ?_
  refine mx_get (C := RX5) (T := TX5) (N := 15) (ci := 5) X hW 0 rfl rfl tbc_X5 12 (by decide) kw_200 rfl dX5_scanWhole_87 ?_
  refine lv_isub hx hb dX5_scanWhole_90 ?_
  refine lv_iconst (v := 3) hx hb dX5_scanWhole_91 (by decide) ?_
  refine lv_icmp_gt (tgt := 99) hx hb dX5_scanWhole_92 (by decide) (fun c9 => ?_) (fun c9 => ?_)
  · have hm := (if_pos c9).symm.trans hm
    refine lv_iconst (v := 4) hx hb dX5_scanWhole_99 (by decide) ?_
    refine mx_put (C := RX5) (T := TX5) (N := 15) (ci := 5) (w2 := [xO q_t 5 [.ref q_t_tape, v_t_names, v_t_nameLines, v_t_nameNumbers, v_t_filled, v_t_fault, v_t_faultPlace, v_t_draft, v_t_named, .int t_end, .int t_at, .int 4, .int t_place, .int t_value, v_t_code], xB G q_t_tape 900 t_tape]) X hW 0 rfl rfl tbc_X5 tyX5 tyX5_ok nmX5 11 (by decide) kw_182 rfl rfl rfl rfl (Nat.le_of_ble_eq_true rfl) rfl dX5_scanWhole_100 (fun H locs hW => ?_)
    obtain rfl := Option.some.inj hm
    exact mx_vret X hW dX5_scanWhole_103
  · have hm := (if_neg c9).symm.trans hm
    refine lv_iconst (v := 2) hx hb dX5_scanWhole_95 (by decide) ?_
    refine lv_goto (tgt := 100) hx hb dX5_scanWhole_96 (by decide) ?_
    refine mx_put (C := RX5) (T := TX5) (N := 15) (ci := 5) (w2 := [xO q_t 5 [.ref q_t_tape, v_t_names, v_t_nameLines, v_t_nameNumbers, v_t_filled, v_t_fault, v_t_faultPlace, v_t_draft, v_t_named, .int t_end, .int t_at, .int 2, .int t_place, .int t_value, v_t_code], xB G q_t_tape 900 t_tape]) X hW 0 rfl rfl tbc_X5 tyX5 tyX5_ok nmX5 11 (by decide) kw_182 rfl rfl rfl rfl (Nat.le_of_ble_eq_true rfl) rfl dX5_scanWhole_100 (fun H locs hW => ?_)
    obtain rfl := Option.some.inj hm
    exact mx_vret X hW dX5_scanWhole_103
set_option maxHeartbeats 4000000 in
set_option maxRecDepth 100000 in
theorem c_X5_scanWhole (l : Launch) (G : mx_G) (q_t : Nat) (q_t_tape : Nat) (v_t_names : Value) (v_t_nameLines : Value) (v_t_nameNumbers : Value) (v_t_filled : Value) (v_t_fault : Value) (v_t_faultPlace : Value) (v_t_draft : Value) (v_t_named : Value) (v_t_code : Value) (t_tape : Nat → Int32) (t_end : Int32) (t_at : Int32) (t_sort : Int32) (t_place : Int32) (t_value : Int32) (out : Int32 × Int32 × Int32) (hm : f_X5_scanWhole t_tape t_end t_at t_sort t_place t_value = some out) : mx_C l yX5_scanWhole cX5_scanWhole 1 none rm_X5_scanWhole G [.ref q_t] [xO q_t 5 [.ref q_t_tape, v_t_names, v_t_nameLines, v_t_nameNumbers, v_t_filled, v_t_fault, v_t_faultPlace, v_t_draft, v_t_named, .int t_end, .int t_at, .int t_sort, .int t_place, .int t_value, v_t_code], xB G q_t_tape 900 t_tape] none [xO q_t 5 [.ref q_t_tape, v_t_names, v_t_nameLines, v_t_nameNumbers, v_t_filled, v_t_fault, v_t_faultPlace, v_t_draft, v_t_named, .int t_end, .int out.1, .int out.2.1, .int t_place, .int out.2.2, v_t_code], xB G q_t_tape 900 t_tape] := by
  refine mx_enter (own := RX5) (name := "scanWhole") (lv := [(0, .ref q_t)]) (by decide) rfl rfl (Nat.le_of_ble_eq_true rfl) rfl ?_
  intro p e s m args below meth c A ls X hW hl
  obtain ⟨hx, hb, hml, hown, hts, hKN, -⟩ := id X
  unfold f_X5_scanWhole at hm
  refine lv_aload_n hx hb dX5_scanWhole_0 rfl (lv_at hl 0 rfl) ?_
  refine lv_iconst (v := 0) hx hb dX5_scanWhole_1 (by decide) ?_
  refine mx_put (C := RX5) (T := TX5) (N := 15) (ci := 5) (w2 := [xO q_t 5 [.ref q_t_tape, v_t_names, v_t_nameLines, v_t_nameNumbers, v_t_filled, v_t_fault, v_t_faultPlace, v_t_draft, v_t_named, .int t_end, .int t_at, .int t_sort, .int t_place, .int 0, v_t_code], xB G q_t_tape 900 t_tape]) X hW 0 rfl rfl tbc_X5 tyX5 tyX5_ok nmX5 13 (by decide) kw_210 rfl rfl rfl rfl (Nat.le_of_ble_eq_true rfl) rfl dX5_scanWhole_2 (fun H locs hW => ?_)
  refine w_X5_scanWhole_L5 X q_t q_t_tape (v_t_names) (v_t_nameLines) (v_t_nameNumbers) (v_t_filled) (v_t_fault) (v_t_faultPlace) (v_t_draft) (v_t_named) (v_t_code) t_tape t_end t_sort t_place out _ (fun t_at_5 t_value_5 H locs ls hm hW hl => ?_) _ t_at 0 _ _ _ hm hW (lv_sub hl [0] rfl)
  exact w_X5_scanWhole_B81 X q_t q_t_tape (v_t_names) (v_t_nameLines) (v_t_nameNumbers) (v_t_filled) (v_t_fault) (v_t_faultPlace) (v_t_draft) (v_t_named) (v_t_code) t_tape t_end out   t_at_5 t_sort t_place t_value_5 _ _ _ hm hW (lv_sub hl [0] rfl)

abbrev rm_X5_scanWord : Room := { frames := 0, cells := 0, slots := 0, locals := 0 }
noncomputable def f_X5_scanWord_L5 (k_79 : Int32 → Int64 → Option (Int32 × Int32 × Int64)) (t_tape : Nat → Int32) (t_end : Int32) : Nat → Int32 → Int64 → Option (Int32 × Int32 × Int64)
  | 0, _, _ => none
  | n + 1, t_at, t_code =>
    (if t_end ≤ t_at then
      k_79 t_at t_code
    else
      gd (inb t_at 900) <| (if (t_tape t_at.toNatClampNeg) < 97 then
        k_79 t_at t_code
      else
        gd (inb t_at 900) <| (if 122 < (t_tape t_at.toNatClampNeg) then
          k_79 t_at t_code
        else
          gd (inb t_at 900) <| nm ((t_code <<< ((8 : Int32).toInt64 &&& 63)) ||| ((t_tape t_at.toNatClampNeg).toInt64)) fun z7 => nm (t_at + 1) fun z8 =>f_X5_scanWord_L5 k_79 t_tape t_end n z8 z7)))
noncomputable def f_X5_scanWord_B79  (t_at : Int32) (t_sort : Int32) (t_place : Int32) (t_code : Int64) : Option (Int32 × Int32 × Int64) :=
  (if 8 < (t_at - t_place) then
    some (t_at, 4, t_code)
  else
    some (t_at, 1, t_code))
noncomputable def f_X5_scanWord (t_tape : Nat → Int32) (t_end : Int32) (t_at : Int32) (t_sort : Int32) (t_place : Int32) (t_code : Int64) : Option (Int32 × Int32 × Int64) :=
  f_X5_scanWord_L5 (fun t_at_5 t_code_5 =>
    f_X5_scanWord_B79  t_at_5 t_sort t_place t_code_5) t_tape t_end 2000 t_at 0
set_option maxHeartbeats 4000000 in
set_option maxRecDepth 100000 in
theorem w_X5_scanWord_L5 {p : Program} {l : Launch} {e : Env} {s : State} {m : MethodId} {args : Array Value} {below : List Frame} {meth : Method} {c : Code} {A : Nat → Prop} {G : mx_G} (X : mx_X p s m args meth c RX5 "scanWord" cX5_scanWord 1 none G) (q_t : Nat) (q_t_tape : Nat) (v_t_names : Value) (v_t_nameLines : Value) (v_t_nameNumbers : Value) (v_t_filled : Value) (v_t_fault : Value) (v_t_faultPlace : Value) (v_t_draft : Value) (v_t_named : Value) (v_t_value : Value) (t_tape : Nat → Int32) (t_end : Int32) (t_sort : Int32) (t_place : Int32)  (out : Int32 × Int32 × Int64) (k_79 : Int32 → Int64 → Option (Int32 × Int32 × Int64)) (hk_79 : ∀ (t_at : Int32) (t_code : Int64) (H : Heap) (locs : List Loc) (ls : Array Slot), k_79 t_at t_code = some out → mx_W G s A [xO q_t 5 [.ref q_t_tape, v_t_names, v_t_nameLines, v_t_nameNumbers, v_t_filled, v_t_fault, v_t_faultPlace, v_t_draft, v_t_named, .int t_end, .int t_at, .int t_sort, .int t_place, v_t_value, .long t_code], xB G q_t_tape 900 t_tape] H locs → lv_has ls 1 [(0, .ref q_t)] → W p l e rm_X5_scanWord s m args below meth c H locs 0 0 (MQ below (mx_Q G none [xO q_t 5 [.ref q_t_tape, v_t_names, v_t_nameLines, v_t_nameNumbers, v_t_filled, v_t_fault, v_t_faultPlace, v_t_draft, v_t_named, .int t_end, .int out.1, .int out.2.1, .int t_place, v_t_value, .long out.2.2], xB G q_t_tape 900 t_tape] A) args s 0 0 A) (F0 m 79 ls [])) : ∀ (n : Nat) (t_at : Int32) (t_code : Int64) (H : Heap) (locs : List Loc) (ls : Array Slot), f_X5_scanWord_L5 k_79 t_tape t_end n t_at t_code = some out → mx_W G s A [xO q_t 5 [.ref q_t_tape, v_t_names, v_t_nameLines, v_t_nameNumbers, v_t_filled, v_t_fault, v_t_faultPlace, v_t_draft, v_t_named, .int t_end, .int t_at, .int t_sort, .int t_place, v_t_value, .long t_code], xB G q_t_tape 900 t_tape] H locs → lv_has ls 1 [(0, .ref q_t)] → W p l e rm_X5_scanWord s m args below meth c H locs 0 0 (MQ below (mx_Q G none [xO q_t 5 [.ref q_t_tape, v_t_names, v_t_nameLines, v_t_nameNumbers, v_t_filled, v_t_fault, v_t_faultPlace, v_t_draft, v_t_named, .int t_end, .int out.1, .int out.2.1, .int t_place, v_t_value, .long out.2.2], xB G q_t_tape 900 t_tape] A) args s 0 0 A) (F0 m 5 ls []) := by
  obtain ⟨hx, hb, hml, hown, hts, hKN, -⟩ := id X
  intro n
  induction n with
  | zero => intro t_at t_code H locs ls hm hW hl; exact absurd (show none = some out from hm) (fun h => by cases h)
  | succ n ih =>
    intro t_at t_code H locs ls hm hW hl
    rw [f_X5_scanWord_L5] at hm
    refine lv_aload_n hx hb dX5_scanWord_5 rfl (lv_at hl 0 rfl) ?_
    refine mx_get (C := RX5) (T := TX5) (N := 15) (ci := 5) X hW 0 rfl rfl tbc_X5 10 (by decide) kw_179 rfl dX5_scanWord_6 ?_
    refine lv_aload_n hx hb dX5_scanWord_9 rfl (lv_at hl 0 rfl) ?_
    refine mx_get (C := RX5) (T := TX5) (N := 15) (ci := 5) X hW 0 rfl rfl tbc_X5 9 (by decide) kw_178 rfl dX5_scanWord_10 ?_
    refine lv_icmp_ge (tgt := 79) hx hb dX5_scanWord_13 (by decide) (fun c1 => ?_) (fun c1 => ?_)
    · have hm := (if_pos c1).symm.trans hm
      exact hk_79 t_at t_code _ _ _ hm hW (lv_sub hl [0] rfl)
    · have hm := (if_neg c1).symm.trans hm
      refine lv_aload_n hx hb dX5_scanWord_16 rfl (lv_at hl 0 rfl) ?_
      refine mx_get (C := RX5) (T := TX5) (N := 15) (ci := 5) X hW 0 rfl rfl tbc_X5 0 (by decide) kw_58 rfl dX5_scanWord_17 ?_
      refine lv_aload_n hx hb dX5_scanWord_20 rfl (lv_at hl 0 rfl) ?_
      refine mx_get (C := RX5) (T := TX5) (N := 15) (ci := 5) X hW 0 rfl rfl tbc_X5 10 (by decide) kw_179 rfl dX5_scanWord_21 ?_
      obtain ⟨hg2, hm⟩ := gd_s hm
      refine mx_bald X hW 1 rfl (inb_s hg2) dX5_scanWord_24 ?_
      refine lv_bipush (v := 97) hx hb dX5_scanWord_25 (by decide) ?_
      refine lv_icmp_lt (tgt := 79) hx hb dX5_scanWord_27 (by decide) (fun c3 => ?_) (fun c3 => ?_)
      · have hm := (if_pos c3).symm.trans hm
        exact hk_79 t_at t_code _ _ _ hm hW (lv_sub hl [0] rfl)
      · have hm := (if_neg c3).symm.trans hm
        refine lv_aload_n hx hb dX5_scanWord_30 rfl (lv_at hl 0 rfl) ?_
        refine mx_get (C := RX5) (T := TX5) (N := 15) (ci := 5) X hW 0 rfl rfl tbc_X5 0 (by decide) kw_58 rfl dX5_scanWord_31 ?_
        refine lv_aload_n hx hb dX5_scanWord_34 rfl (lv_at hl 0 rfl) ?_
        refine mx_get (C := RX5) (T := TX5) (N := 15) (ci := 5) X hW 0 rfl rfl tbc_X5 10 (by decide) kw_179 rfl dX5_scanWord_35 ?_
        obtain ⟨hg4, hm⟩ := gd_s hm
        refine mx_bald X hW 1 rfl (inb_s hg4) dX5_scanWord_38 ?_
        refine lv_bipush (v := 122) hx hb dX5_scanWord_39 (by decide) ?_
        refine lv_icmp_gt (tgt := 79) hx hb dX5_scanWord_41 (by decide) (fun c5 => ?_) (fun c5 => ?_)
        · have hm := (if_pos c5).symm.trans hm
          exact hk_79 t_at t_code _ _ _ hm hW (lv_sub hl [0] rfl)
        · have hm := (if_neg c5).symm.trans hm
          refine lv_aload_n hx hb dX5_scanWord_44 rfl (lv_at hl 0 rfl) ?_
          refine lv_aload_n hx hb dX5_scanWord_45 rfl (lv_at hl 0 rfl) ?_
          refine mx_get (C := RX5) (T := TX5) (N := 15) (ci := 5) X hW 0 rfl rfl tbc_X5 14 (by decide) kw_205 rfl dX5_scanWord_46 ?_
          refine lv_bipush (v := 8) hx hb dX5_scanWord_49 (by decide) ?_
          refine lv_lshl (v := t_code <<< ((8 : Int32).toInt64 &&& 63)) hx hb dX5_scanWord_51 rfl ?_
          refine lv_aload_n hx hb dX5_scanWord_52 rfl (lv_at hl 0 rfl) ?_
          refine mx_get (C := RX5) (T := TX5) (N := 15) (ci := 5) X hW 0 rfl rfl tbc_X5 0 (by decide) kw_58 rfl dX5_scanWord_53 ?_
          refine lv_aload_n hx hb dX5_scanWord_56 rfl (lv_at hl 0 rfl) ?_
          refine mx_get (C := RX5) (T := TX5) (N := 15) (ci := 5) X hW 0 rfl rfl tbc_X5 10 (by decide) kw_179 rfl dX5_scanWord_57 ?_
          obtain ⟨hg6, hm⟩ := gd_s hm
          refine mx_bald X hW 1 rfl (inb_s hg6) dX5_scanWord_60 ?_
          refine lv_i2l (v := (t_tape t_at.toNatClampNeg).toInt64) hx hb dX5_scanWord_61 rfl ?_
          refine lv_lor hx hb dX5_scanWord_62 ?_
          refine lv_topl (fun z7 ez7 => ?_)
          have hm := nm_s ez7 hm
          refine mx_put (C := RX5) (T := TX5) (N := 15) (ci := 5) (w2 := [xO q_t 5 [.ref q_t_tape, v_t_names, v_t_nameLines, v_t_nameNumbers, v_t_filled, v_t_fault, v_t_faultPlace, v_t_draft, v_t_named, .int t_end, .int t_at, .int t_sort, .int t_place, v_t_value, .long z7], xB G q_t_tape 900 t_tape]) X hW 0 rfl rfl tbc_X5 tyX5 tyX5_ok nmX5 14 (by decide) kw_205 rfl rfl rfl rfl (Nat.le_of_ble_eq_true rfl) rfl dX5_scanWord_63 (fun H locs hW => ?_)
          refine lv_aload_n hx hb dX5_scanWord_66 rfl (lv_at hl 0 rfl) ?_
          refine lv_dup hx hb dX5_scanWord_67 rfl ?_
          refine mx_get (C := RX5) (T := TX5) (N := 15) (ci := 5) X hW 0 rfl rfl tbc_X5 10 (by decide) kw_179 rfl dX5_scanWord_68 ?_
          refine lv_iconst (v := 1) hx hb dX5_scanWord_71 (by decide) ?_
          refine lv_iadd hx hb dX5_scanWord_72 ?_
          refine lv_topi (fun z8 ez8 => ?_)
          have hm := nm_s ez8 hm
          refine mx_put (C := RX5) (T := TX5) (N := 15) (ci := 5) (w2 := [xO q_t 5 [.ref q_t_tape, v_t_names, v_t_nameLines, v_t_nameNumbers, v_t_filled, v_t_fault, v_t_faultPlace, v_t_draft, v_t_named, .int t_end, .int z8, .int t_sort, .int t_place, v_t_value, .long z7], xB G q_t_tape 900 t_tape]) X hW 0 rfl rfl tbc_X5 tyX5 tyX5_ok nmX5 10 (by decide) kw_179 rfl rfl rfl rfl (Nat.le_of_ble_eq_true rfl) rfl dX5_scanWord_73 (fun H locs hW => ?_)
          refine lv_goto (tgt := 5) hx hb dX5_scanWord_76 (by decide) ?_
          exact ih z8 z7 _ _ _ hm hW (lv_sub hl [0] rfl)
set_option maxHeartbeats 4000000 in
set_option maxRecDepth 100000 in
theorem w_X5_scanWord_B79 {p : Program} {l : Launch} {e : Env} {s : State} {m : MethodId} {args : Array Value} {below : List Frame} {meth : Method} {c : Code} {A : Nat → Prop} {G : mx_G} (X : mx_X p s m args meth c RX5 "scanWord" cX5_scanWord 1 none G) (q_t : Nat) (q_t_tape : Nat) (v_t_names : Value) (v_t_nameLines : Value) (v_t_nameNumbers : Value) (v_t_filled : Value) (v_t_fault : Value) (v_t_faultPlace : Value) (v_t_draft : Value) (v_t_named : Value) (v_t_value : Value) (t_tape : Nat → Int32) (t_end : Int32) (out : Int32 × Int32 × Int64)   : ∀ (t_at : Int32) (t_sort : Int32) (t_place : Int32) (t_code : Int64) (H : Heap) (locs : List Loc) (ls : Array Slot), f_X5_scanWord_B79  t_at t_sort t_place t_code = some out → mx_W G s A [xO q_t 5 [.ref q_t_tape, v_t_names, v_t_nameLines, v_t_nameNumbers, v_t_filled, v_t_fault, v_t_faultPlace, v_t_draft, v_t_named, .int t_end, .int t_at, .int t_sort, .int t_place, v_t_value, .long t_code], xB G q_t_tape 900 t_tape] H locs → lv_has ls 1 [(0, .ref q_t)] → W p l e rm_X5_scanWord s m args below meth c H locs 0 0 (MQ below (mx_Q G none [xO q_t 5 [.ref q_t_tape, v_t_names, v_t_nameLines, v_t_nameNumbers, v_t_filled, v_t_fault, v_t_faultPlace, v_t_draft, v_t_named, .int t_end, .int out.1, .int out.2.1, .int t_place, v_t_value, .long out.2.2], xB G q_t_tape 900 t_tape] A) args s 0 0 A) (F0 m 79 ls []) := by
  obtain ⟨hx, hb, hml, hown, hts, hKN, -⟩ := id X
  intro t_at t_sort t_place t_code H locs ls hm hW hl
  unfold f_X5_scanWord_B79 at hm
  refine lv_aload_n hx hb dX5_scanWord_79 rfl (lv_at hl 0 rfl) ?_
  refine lv_aload_n hx hb dX5_scanWord_80 rfl (lv_at hl 0 rfl) ?_
  refine mx_get (C := RX5) (T := TX5) (N := 15) (ci := 5) X hW 0 rfl rfl tbc_X5 10 (by decide) kw_179 rfl dX5_scanWord_81 ?_
  refine lv_aload_n hx hb dX5_scanWord_84 rfl (lv_at hl 0 rfl) ?_
  refine mx_get (C := RX5) (T := TX5) (N := 15) (ci := 5) X hW 0 rfl rfl tbc_X5 12 (by decide) kw_200 rfl dX5_scanWord_85 ?_
  refine lv_isub hx hb dX5_scanWord_88 ?_
  refine lv_bipush (v := 8) hx hb dX5_scanWord_89 (by decide) ?_
  refine lv_icmp_gt (tgt := 98) hx hb dX5_scanWord_91 (by decide) (fun c9 => ?_) (fun c9 => ?_)
  · have hm := (if_pos c9).symm.trans hm
    refine lv_iconst (v := 4) hx hb dX5_scanWord_98 (by decide) ?_
    refine mx_put (C := RX5) (T := TX5) (N := 15) (ci := 5) (w2 := [xO q_t 5 [.ref q_t_tape, v_t_names, v_t_nameLines, v_t_nameNumbers, v_t_filled, v_t_fault, v_t_faultPlace, v_t_draft, v_t_named, .int t_end, .int t_at, .int 4, .int t_place, v_t_value, .long t_code], xB G q_t_tape 900 t_tape]) X hW 0 rfl rfl tbc_X5 tyX5 tyX5_ok nmX5 11 (by decide) kw_182 rfl rfl rfl rfl (Nat.le_of_ble_eq_true rfl) rfl dX5_scanWord_99 (fun H locs hW => ?_)
    obtain rfl := Option.some.inj hm
    exact mx_vret X hW dX5_scanWord_102
  · have hm := (if_neg c9).symm.trans hm
    refine lv_iconst (v := 1) hx hb dX5_scanWord_94 (by decide) ?_
    refine lv_goto (tgt := 99) hx hb dX5_scanWord_95 (by decide) ?_
    refine mx_put (C := RX5) (T := TX5) (N := 15) (ci := 5) (w2 := [xO q_t 5 [.ref q_t_tape, v_t_names, v_t_nameLines, v_t_nameNumbers, v_t_filled, v_t_fault, v_t_faultPlace, v_t_draft, v_t_named, .int t_end, .int t_at, .int 1, .int t_place, v_t_value, .long t_code], xB G q_t_tape 900 t_tape]) X hW 0 rfl rfl tbc_X5 tyX5 tyX5_ok nmX5 11 (by decide) kw_182 rfl rfl rfl rfl (Nat.le_of_ble_eq_true rfl) rfl dX5_scanWord_99 (fun H locs hW => ?_)
    obtain rfl := Option.some.inj hm
    exact mx_vret X hW dX5_scanWord_102
set_option maxHeartbeats 4000000 in
set_option maxRecDepth 100000 in
theorem c_X5_scanWord (l : Launch) (G : mx_G) (q_t : Nat) (q_t_tape : Nat) (v_t_names : Value) (v_t_nameLines : Value) (v_t_nameNumbers : Value) (v_t_filled : Value) (v_t_fault : Value) (v_t_faultPlace : Value) (v_t_draft : Value) (v_t_named : Value) (v_t_value : Value) (t_tape : Nat → Int32) (t_end : Int32) (t_at : Int32) (t_sort : Int32) (t_place : Int32) (t_code : Int64) (out : Int32 × Int32 × Int64) (hm : f_X5_scanWord t_tape t_end t_at t_sort t_place t_code = some out) : mx_C l yX5_scanWord cX5_scanWord 1 none rm_X5_scanWord G [.ref q_t] [xO q_t 5 [.ref q_t_tape, v_t_names, v_t_nameLines, v_t_nameNumbers, v_t_filled, v_t_fault, v_t_faultPlace, v_t_draft, v_t_named, .int t_end, .int t_at, .int t_sort, .int t_place, v_t_value, .long t_code], xB G q_t_tape 900 t_tape] none [xO q_t 5 [.ref q_t_tape, v_t_names, v_t_nameLines, v_t_nameNumbers, v_t_filled, v_t_fault, v_t_faultPlace, v_t_draft, v_t_named, .int t_end, .int out.1, .int out.2.1, .int t_place, v_t_value, .long out.2.2], xB G q_t_tape 900 t_tape] := by
  refine mx_enter (own := RX5) (name := "scanWord") (lv := [(0, .ref q_t)]) (by decide) rfl rfl (Nat.le_of_ble_eq_true rfl) rfl ?_
  intro p e s m args below meth c A ls X hW hl
  obtain ⟨hx, hb, hml, hown, hts, hKN, -⟩ := id X
  unfold f_X5_scanWord at hm
  refine lv_aload_n hx hb dX5_scanWord_0 rfl (lv_at hl 0 rfl) ?_
  refine lv_lconst (v := 0) hx hb dX5_scanWord_1 (by decide) ?_
  refine mx_put (C := RX5) (T := TX5) (N := 15) (ci := 5) (w2 := [xO q_t 5 [.ref q_t_tape, v_t_names, v_t_nameLines, v_t_nameNumbers, v_t_filled, v_t_fault, v_t_faultPlace, v_t_draft, v_t_named, .int t_end, .int t_at, .int t_sort, .int t_place, v_t_value, .long 0], xB G q_t_tape 900 t_tape]) X hW 0 rfl rfl tbc_X5 tyX5 tyX5_ok nmX5 14 (by decide) kw_205 rfl rfl rfl rfl (Nat.le_of_ble_eq_true rfl) rfl dX5_scanWord_2 (fun H locs hW => ?_)
  refine w_X5_scanWord_L5 X q_t q_t_tape (v_t_names) (v_t_nameLines) (v_t_nameNumbers) (v_t_filled) (v_t_fault) (v_t_faultPlace) (v_t_draft) (v_t_named) (v_t_value) t_tape t_end t_sort t_place out _ (fun t_at_5 t_code_5 H locs ls hm hW hl => ?_) _ t_at 0 _ _ _ hm hW (lv_sub hl [0] rfl)
  exact w_X5_scanWord_B79 X q_t q_t_tape (v_t_names) (v_t_nameLines) (v_t_nameNumbers) (v_t_filled) (v_t_fault) (v_t_faultPlace) (v_t_draft) (v_t_named) (v_t_value) t_tape t_end out   t_at_5 t_sort t_place t_code_5 _ _ _ hm hW (lv_sub hl [0] rfl)

abbrev rm_X5_next : Room := { frames := 1, cells := 0, slots := 0, locals := 20 }
noncomputable def f_X5_next_L0 (k_38 : Int32 → Option (Int32 × Int32 × Int32 × Int32 × Int64)) (t_tape : Nat → Int32) (t_end : Int32) : Nat → Int32 → Option (Int32 × Int32 × Int32 × Int32 × Int64)
  | 0, _ => none
  | n + 1, t_at =>
    (if t_end ≤ t_at then
      k_38 t_at
    else
      gd (inb t_at 900) <| (if (t_tape t_at.toNatClampNeg) = 32 then
        nm (t_at + 1) fun z4 =>f_X5_next_L0 k_38 t_tape t_end n z4
      else
        k_38 t_at))
noncomputable def f_X5_next_B132  (t_tape : Nat → Int32) (t_end : Int32) (t_at : Int32) (t_sort : Int32) (t_place : Int32) (t_value : Int32) (t_code : Int64) : Option (Int32 × Int32 × Int32 × Int32 × Int64) :=
  gd (inb t_at 900) <| (if (t_tape t_at.toNatClampNeg) < 48 then
    some (t_at, 4, t_place, t_value, t_code)
  else
    gd (inb t_at 900) <| (if 57 < (t_tape t_at.toNatClampNeg) then
      some (t_at, 4, t_place, t_value, t_code)
    else
      (f_X5_scanWhole t_tape t_end t_at t_sort t_place t_value).bind fun o14 => some (o14.1, o14.2.1, t_place, o14.2.2, t_code)))
noncomputable def f_X5_next_B38  (t_tape : Nat → Int32) (t_end : Int32) (t_at : Int32) (t_sort : Int32) (t_place : Int32) (t_value : Int32) (t_code : Int64) : Option (Int32 × Int32 × Int32 × Int32 × Int64) :=
  (if t_at < t_end then
    gd (inb t_at 900) <| (if (t_tape t_at.toNatClampNeg) = 59 then
      nm (t_at + 1) fun z18 => some (z18, 3, t_at, t_value, t_code)
    else
      gd (inb t_at 900) <| (if (t_tape t_at.toNatClampNeg) < 97 then
        f_X5_next_B132  t_tape t_end t_at t_sort t_at t_value t_code
      else
        gd (inb t_at 900) <| (if 122 < (t_tape t_at.toNatClampNeg) then
          f_X5_next_B132  t_tape t_end t_at t_sort t_at t_value t_code
        else
          (f_X5_scanWord t_tape t_end t_at t_sort t_at t_code).bind fun o17 => some (o17.1, o17.2.1, t_at, t_value, o17.2.2))))
  else
    some (t_at, 0, t_at, t_value, t_code))
noncomputable def f_X5_next (t_tape : Nat → Int32) (t_end : Int32) (t_at : Int32) (t_sort : Int32) (t_place : Int32) (t_value : Int32) (t_code : Int64) : Option (Int32 × Int32 × Int32 × Int32 × Int64) :=
  f_X5_next_L0 (fun t_at_0 =>
    f_X5_next_B38  t_tape t_end t_at_0 t_sort t_place t_value t_code) t_tape t_end 2000 t_at
set_option maxHeartbeats 4000000 in
set_option maxRecDepth 100000 in
theorem w_X5_next_L0 {p : Program} {l : Launch} {e : Env} {s : State} {m : MethodId} {args : Array Value} {below : List Frame} {meth : Method} {c : Code} {A : Nat → Prop} {G : mx_G} (X : mx_X p s m args meth c RX5 "next" cX5_next 1 none G) (q_t : Nat) (q_t_tape : Nat) (v_t_names : Value) (v_t_nameLines : Value) (v_t_nameNumbers : Value) (v_t_filled : Value) (v_t_fault : Value) (v_t_faultPlace : Value) (v_t_draft : Value) (v_t_named : Value) (t_tape : Nat → Int32) (t_end : Int32) (t_sort : Int32) (t_place : Int32) (t_value : Int32) (t_code : Int64)  (out : Int32 × Int32 × Int32 × Int32 × Int64) (k_38 : Int32 → Option (Int32 × Int32 × Int32 × Int32 × Int64)) (hk_38 : ∀ (t_at : Int32) (H : Heap) (locs : List Loc) (ls : Array Slot), k_38 t_at = some out → mx_W G s A [xO q_t 5 [.ref q_t_tape, v_t_names, v_t_nameLines, v_t_nameNumbers, v_t_filled, v_t_fault, v_t_faultPlace, v_t_draft, v_t_named, .int t_end, .int t_at, .int t_sort, .int t_place, .int t_value, .long t_code], xB G q_t_tape 900 t_tape] H locs → lv_has ls 1 [(0, .ref q_t)] → W p l e rm_X5_next s m args below meth c H locs 0 0 (MQ below (mx_Q G none [xO q_t 5 [.ref q_t_tape, v_t_names, v_t_nameLines, v_t_nameNumbers, v_t_filled, v_t_fault, v_t_faultPlace, v_t_draft, v_t_named, .int t_end, .int out.1, .int out.2.1, .int out.2.2.1, .int out.2.2.2.1, .long out.2.2.2.2], xB G q_t_tape 900 t_tape] A) args s 0 0 A) (F0 m 38 ls [])) : ∀ (n : Nat) (t_at : Int32) (H : Heap) (locs : List Loc) (ls : Array Slot), f_X5_next_L0 k_38 t_tape t_end n t_at = some out → mx_W G s A [xO q_t 5 [.ref q_t_tape, v_t_names, v_t_nameLines, v_t_nameNumbers, v_t_filled, v_t_fault, v_t_faultPlace, v_t_draft, v_t_named, .int t_end, .int t_at, .int t_sort, .int t_place, .int t_value, .long t_code], xB G q_t_tape 900 t_tape] H locs → lv_has ls 1 [(0, .ref q_t)] → W p l e rm_X5_next s m args below meth c H locs 0 0 (MQ below (mx_Q G none [xO q_t 5 [.ref q_t_tape, v_t_names, v_t_nameLines, v_t_nameNumbers, v_t_filled, v_t_fault, v_t_faultPlace, v_t_draft, v_t_named, .int t_end, .int out.1, .int out.2.1, .int out.2.2.1, .int out.2.2.2.1, .long out.2.2.2.2], xB G q_t_tape 900 t_tape] A) args s 0 0 A) (F0 m 0 ls []) := by
  obtain ⟨hx, hb, hml, hown, hts, hKN, -⟩ := id X
  intro n
  induction n with
  | zero => intro t_at H locs ls hm hW hl; exact absurd (show none = some out from hm) (fun h => by cases h)
  | succ n ih =>
    intro t_at H locs ls hm hW hl
    rw [f_X5_next_L0] at hm
    refine lv_aload_n hx hb dX5_next_0 rfl (lv_at hl 0 rfl) ?_
    refine mx_get (C := RX5) (T := TX5) (N := 15) (ci := 5) X hW 0 rfl rfl tbc_X5 10 (by decide) kw_179 rfl dX5_next_1 ?_
    refine lv_aload_n hx hb dX5_next_4 rfl (lv_at hl 0 rfl) ?_
    refine mx_get (C := RX5) (T := TX5) (N := 15) (ci := 5) X hW 0 rfl rfl tbc_X5 9 (by decide) kw_178 rfl dX5_next_5 ?_
    refine lv_icmp_ge (tgt := 38) hx hb dX5_next_8 (by decide) (fun c1 => ?_) (fun c1 => ?_)
    · have hm := (if_pos c1).symm.trans hm
      exact hk_38 t_at _ _ _ hm hW (lv_sub hl [0] rfl)
    · have hm := (if_neg c1).symm.trans hm
      refine lv_aload_n hx hb dX5_next_11 rfl (lv_at hl 0 rfl) ?_
      refine mx_get (C := RX5) (T := TX5) (N := 15) (ci := 5) X hW 0 rfl rfl tbc_X5 0 (by decide) kw_58 rfl dX5_next_12 ?_
      refine lv_aload_n hx hb dX5_next_15 rfl (lv_at hl 0 rfl) ?_
      refine mx_get (C := RX5) (T := TX5) (N := 15) (ci := 5) X hW 0 rfl rfl tbc_X5 10 (by decide) kw_179 rfl dX5_next_16 ?_
      obtain ⟨hg2, hm⟩ := gd_s hm
      refine mx_bald X hW 1 rfl (inb_s hg2) dX5_next_19 ?_
      refine lv_bipush (v := 32) hx hb dX5_next_20 (by decide) ?_
      refine lv_icmp_ne (tgt := 38) hx hb dX5_next_22 (by decide) (fun c3 => ?_) (fun c3 => ?_)
      · have hm := (if_neg c3).symm.trans hm
        exact hk_38 t_at _ _ _ hm hW (lv_sub hl [0] rfl)
      · have hm := (if_pos c3).symm.trans hm
        refine lv_aload_n hx hb dX5_next_25 rfl (lv_at hl 0 rfl) ?_
        refine lv_dup hx hb dX5_next_26 rfl ?_
        refine mx_get (C := RX5) (T := TX5) (N := 15) (ci := 5) X hW 0 rfl rfl tbc_X5 10 (by decide) kw_179 rfl dX5_next_27 ?_
        refine lv_iconst (v := 1) hx hb dX5_next_30 (by decide) ?_
        refine lv_iadd hx hb dX5_next_31 ?_
        refine lv_topi (fun z4 ez4 => ?_)
        have hm := nm_s ez4 hm
        refine mx_put (C := RX5) (T := TX5) (N := 15) (ci := 5) (w2 := [xO q_t 5 [.ref q_t_tape, v_t_names, v_t_nameLines, v_t_nameNumbers, v_t_filled, v_t_fault, v_t_faultPlace, v_t_draft, v_t_named, .int t_end, .int z4, .int t_sort, .int t_place, .int t_value, .long t_code], xB G q_t_tape 900 t_tape]) X hW 0 rfl rfl tbc_X5 tyX5 tyX5_ok nmX5 10 (by decide) kw_179 rfl rfl rfl rfl (Nat.le_of_ble_eq_true rfl) rfl dX5_next_32 (fun H locs hW => ?_)
        refine lv_goto (tgt := 0) hx hb dX5_next_35 (by decide) ?_
        exact ih z4 _ _ _ hm hW (lv_sub hl [0] rfl)
set_option maxHeartbeats 4000000 in
set_option maxRecDepth 100000 in
theorem w_X5_next_B132 {p : Program} {l : Launch} {e : Env} {s : State} {m : MethodId} {args : Array Value} {below : List Frame} {meth : Method} {c : Code} {A : Nat → Prop} {G : mx_G} (X : mx_X p s m args meth c RX5 "next" cX5_next 1 none G) (q_t : Nat) (q_t_tape : Nat) (v_t_names : Value) (v_t_nameLines : Value) (v_t_nameNumbers : Value) (v_t_filled : Value) (v_t_fault : Value) (v_t_faultPlace : Value) (v_t_draft : Value) (v_t_named : Value) (out : Int32 × Int32 × Int32 × Int32 × Int64)   : ∀ (t_tape : Nat → Int32) (t_end : Int32) (t_at : Int32) (t_sort : Int32) (t_place : Int32) (t_value : Int32) (t_code : Int64) (H : Heap) (locs : List Loc) (ls : Array Slot), f_X5_next_B132  t_tape t_end t_at t_sort t_place t_value t_code = some out → mx_W G s A [xO q_t 5 [.ref q_t_tape, v_t_names, v_t_nameLines, v_t_nameNumbers, v_t_filled, v_t_fault, v_t_faultPlace, v_t_draft, v_t_named, .int t_end, .int t_at, .int t_sort, .int t_place, .int t_value, .long t_code], xB G q_t_tape 900 t_tape] H locs → lv_has ls 1 [(0, .ref q_t)] → W p l e rm_X5_next s m args below meth c H locs 0 0 (MQ below (mx_Q G none [xO q_t 5 [.ref q_t_tape, v_t_names, v_t_nameLines, v_t_nameNumbers, v_t_filled, v_t_fault, v_t_faultPlace, v_t_draft, v_t_named, .int t_end, .int out.1, .int out.2.1, .int out.2.2.1, .int out.2.2.2.1, .long out.2.2.2.2], xB G q_t_tape 900 t_tape] A) args s 0 0 A) (F0 m 132 ls []) := by
  obtain ⟨hx, hb, hml, hown, hts, hKN, -⟩ := id X
  intro t_tape t_end t_at t_sort t_place t_value t_code H locs ls hm hW hl
  unfold f_X5_next_B132 at hm
  refine lv_aload_n hx hb dX5_next_132 rfl (lv_at hl 0 rfl) ?_
  refine mx_get (C := RX5) (T := TX5) (N := 15) (ci := 5) X hW 0 rfl rfl tbc_X5 0 (by decide) kw_58 rfl dX5_next_133 ?_
  refine lv_aload_n hx hb dX5_next_136 rfl (lv_at hl 0 rfl) ?_
  refine mx_get (C := RX5) (T := TX5) (N := 15) (ci := 5) X hW 0 rfl rfl tbc_X5 10 (by decide) kw_179 rfl dX5_next_137 ?_
  obtain ⟨hg10, hm⟩ := gd_s hm
  refine mx_bald X hW 1 rfl (inb_s hg10) dX5_next_140 ?_
  refine lv_bipush (v := 48) hx hb dX5_next_141 (by decide) ?_
  refine lv_icmp_lt (tgt := 167) hx hb dX5_next_143 (by decide) (fun c11 => ?_) (fun c11 => ?_)
  · have hm := (if_pos c11).symm.trans hm
    refine lv_aload_n hx hb dX5_next_167 rfl (lv_at hl 0 rfl) ?_
    refine lv_iconst (v := 4) hx hb dX5_next_168 (by decide) ?_
    refine mx_put (C := RX5) (T := TX5) (N := 15) (ci := 5) (w2 := [xO q_t 5 [.ref q_t_tape, v_t_names, v_t_nameLines, v_t_nameNumbers, v_t_filled, v_t_fault, v_t_faultPlace, v_t_draft, v_t_named, .int t_end, .int t_at, .int 4, .int t_place, .int t_value, .long t_code], xB G q_t_tape 900 t_tape]) X hW 0 rfl rfl tbc_X5 tyX5 tyX5_ok nmX5 11 (by decide) kw_182 rfl rfl rfl rfl (Nat.le_of_ble_eq_true rfl) rfl dX5_next_169 (fun H locs hW => ?_)
    obtain rfl := Option.some.inj hm
    exact mx_vret X hW dX5_next_172
  · have hm := (if_neg c11).symm.trans hm
    refine lv_aload_n hx hb dX5_next_146 rfl (lv_at hl 0 rfl) ?_
    refine mx_get (C := RX5) (T := TX5) (N := 15) (ci := 5) X hW 0 rfl rfl tbc_X5 0 (by decide) kw_58 rfl dX5_next_147 ?_
    refine lv_aload_n hx hb dX5_next_150 rfl (lv_at hl 0 rfl) ?_
    refine mx_get (C := RX5) (T := TX5) (N := 15) (ci := 5) X hW 0 rfl rfl tbc_X5 10 (by decide) kw_179 rfl dX5_next_151 ?_
    obtain ⟨hg12, hm⟩ := gd_s hm
    refine mx_bald X hW 1 rfl (inb_s hg12) dX5_next_154 ?_
    refine lv_bipush (v := 57) hx hb dX5_next_155 (by decide) ?_
    refine lv_icmp_gt (tgt := 167) hx hb dX5_next_157 (by decide) (fun c13 => ?_) (fun c13 => ?_)
    · have hm := (if_pos c13).symm.trans hm
      refine lv_aload_n hx hb dX5_next_167 rfl (lv_at hl 0 rfl) ?_
      refine lv_iconst (v := 4) hx hb dX5_next_168 (by decide) ?_
      refine mx_put (C := RX5) (T := TX5) (N := 15) (ci := 5) (w2 := [xO q_t 5 [.ref q_t_tape, v_t_names, v_t_nameLines, v_t_nameNumbers, v_t_filled, v_t_fault, v_t_faultPlace, v_t_draft, v_t_named, .int t_end, .int t_at, .int 4, .int t_place, .int t_value, .long t_code], xB G q_t_tape 900 t_tape]) X hW 0 rfl rfl tbc_X5 tyX5 tyX5_ok nmX5 11 (by decide) kw_182 rfl rfl rfl rfl (Nat.le_of_ble_eq_true rfl) rfl dX5_next_169 (fun H locs hW => ?_)
      obtain rfl := Option.some.inj hm
      exact mx_vret X hW dX5_next_172
    · have hm := (if_neg c13).symm.trans hm
      refine lv_aload_n hx hb dX5_next_160 rfl (lv_at hl 0 rfl) ?_
      obtain ⟨o14, ho14, hm⟩ := bd_s hm
      refine mx_callV (C := RX5) (T := TX5) (N := 15) (ci := 5) (n := 0) (As := []) (rest := []) (st1 := []) (w2 := [xO q_t 5 [.ref q_t_tape, v_t_names, v_t_nameLines, v_t_nameNumbers, v_t_filled, v_t_fault, v_t_faultPlace, v_t_draft, v_t_named, .int t_end, .int o14.1, .int o14.2.1, .int t_place, .int o14.2.2, .long t_code], xB G q_t_tape 900 t_tape]) X hW hl.1 (c_X5_scanWhole l G q_t q_t_tape (v_t_names) (v_t_nameLines) (v_t_nameNumbers) (v_t_filled) (v_t_fault) (v_t_faultPlace) (v_t_draft) (v_t_named) (.long t_code) t_tape t_end t_at t_sort t_place t_value o14 ho14) 0 rfl rfl kw_206 kw_207 kw_208 kw_15 kw_209 (by decide +kernel) ⟨rfl, rfl⟩ ⟨by decide, by decide⟩ ⟨Nat.zero_le _, Nat.zero_le _⟩ [0, 1] (by decide) rfl rfl rfl rfl rfl rfl (Nat.le_of_ble_eq_true rfl) rfl dX5_next_161 (fun H locs hW => ?_)
      refine lv_goto (tgt := 172) hx hb dX5_next_164 (by decide) ?_
      obtain rfl := Option.some.inj hm
      exact mx_vret X hW dX5_next_172
set_option maxHeartbeats 4000000 in
set_option maxRecDepth 100000 in
theorem w_X5_next_B38 {p : Program} {l : Launch} {e : Env} {s : State} {m : MethodId} {args : Array Value} {below : List Frame} {meth : Method} {c : Code} {A : Nat → Prop} {G : mx_G} (X : mx_X p s m args meth c RX5 "next" cX5_next 1 none G) (q_t : Nat) (q_t_tape : Nat) (v_t_names : Value) (v_t_nameLines : Value) (v_t_nameNumbers : Value) (v_t_filled : Value) (v_t_fault : Value) (v_t_faultPlace : Value) (v_t_draft : Value) (v_t_named : Value) (out : Int32 × Int32 × Int32 × Int32 × Int64)   : ∀ (t_tape : Nat → Int32) (t_end : Int32) (t_at : Int32) (t_sort : Int32) (t_place : Int32) (t_value : Int32) (t_code : Int64) (H : Heap) (locs : List Loc) (ls : Array Slot), f_X5_next_B38  t_tape t_end t_at t_sort t_place t_value t_code = some out → mx_W G s A [xO q_t 5 [.ref q_t_tape, v_t_names, v_t_nameLines, v_t_nameNumbers, v_t_filled, v_t_fault, v_t_faultPlace, v_t_draft, v_t_named, .int t_end, .int t_at, .int t_sort, .int t_place, .int t_value, .long t_code], xB G q_t_tape 900 t_tape] H locs → lv_has ls 1 [(0, .ref q_t)] → W p l e rm_X5_next s m args below meth c H locs 0 0 (MQ below (mx_Q G none [xO q_t 5 [.ref q_t_tape, v_t_names, v_t_nameLines, v_t_nameNumbers, v_t_filled, v_t_fault, v_t_faultPlace, v_t_draft, v_t_named, .int t_end, .int out.1, .int out.2.1, .int out.2.2.1, .int out.2.2.2.1, .long out.2.2.2.2], xB G q_t_tape 900 t_tape] A) args s 0 0 A) (F0 m 38 ls []) := by
  obtain ⟨hx, hb, hml, hown, hts, hKN, -⟩ := id X
  intro t_tape t_end t_at t_sort t_place t_value t_code H locs ls hm hW hl
  unfold f_X5_next_B38 at hm
  refine lv_aload_n hx hb dX5_next_38 rfl (lv_at hl 0 rfl) ?_
  refine lv_aload_n hx hb dX5_next_39 rfl (lv_at hl 0 rfl) ?_
  refine mx_get (C := RX5) (T := TX5) (N := 15) (ci := 5) X hW 0 rfl rfl tbc_X5 10 (by decide) kw_179 rfl dX5_next_40 ?_
  refine mx_put (C := RX5) (T := TX5) (N := 15) (ci := 5) (w2 := [xO q_t 5 [.ref q_t_tape, v_t_names, v_t_nameLines, v_t_nameNumbers, v_t_filled, v_t_fault, v_t_faultPlace, v_t_draft, v_t_named, .int t_end, .int t_at, .int t_sort, .int t_at, .int t_value, .long t_code], xB G q_t_tape 900 t_tape]) X hW 0 rfl rfl tbc_X5 tyX5 tyX5_ok nmX5 12 (by decide) kw_200 rfl rfl rfl rfl (Nat.le_of_ble_eq_true rfl) rfl dX5_next_43 (fun H locs hW => ?_)
  refine lv_aload_n hx hb dX5_next_46 rfl (lv_at hl 0 rfl) ?_
  refine mx_get (C := RX5) (T := TX5) (N := 15) (ci := 5) X hW 0 rfl rfl tbc_X5 10 (by decide) kw_179 rfl dX5_next_47 ?_
  refine lv_aload_n hx hb dX5_next_50 rfl (lv_at hl 0 rfl) ?_
  refine mx_get (C := RX5) (T := TX5) (N := 15) (ci := 5) X hW 0 rfl rfl tbc_X5 9 (by decide) kw_178 rfl dX5_next_51 ?_
  refine lv_icmp_lt (tgt := 65) hx hb dX5_next_54 (by decide) (fun c5 => ?_) (fun c5 => ?_)
  · have hm := (if_pos c5).symm.trans hm
    refine lv_aload_n hx hb dX5_next_65 rfl (lv_at hl 0 rfl) ?_
    refine mx_get (C := RX5) (T := TX5) (N := 15) (ci := 5) X hW 0 rfl rfl tbc_X5 0 (by decide) kw_58 rfl dX5_next_66 ?_
    refine lv_aload_n hx hb dX5_next_69 rfl (lv_at hl 0 rfl) ?_
    refine mx_get (C := RX5) (T := TX5) (N := 15) (ci := 5) X hW 0 rfl rfl tbc_X5 10 (by decide) kw_179 rfl dX5_next_70 ?_
    obtain ⟨hg6, hm⟩ := gd_s hm
    refine mx_bald X hW 1 rfl (inb_s hg6) dX5_next_73 ?_
    refine lv_bipush (v := 59) hx hb dX5_next_74 (by decide) ?_
    refine lv_icmp_ne (tgt := 97) hx hb dX5_next_76 (by decide) (fun c7 => ?_) (fun c7 => ?_)
    · have hm := (if_neg c7).symm.trans hm
      refine lv_aload_n hx hb dX5_next_97 rfl (lv_at hl 0 rfl) ?_
      refine mx_get (C := RX5) (T := TX5) (N := 15) (ci := 5) X hW 0 rfl rfl tbc_X5 0 (by decide) kw_58 rfl dX5_next_98 ?_
      refine lv_aload_n hx hb dX5_next_101 rfl (lv_at hl 0 rfl) ?_
      refine mx_get (C := RX5) (T := TX5) (N := 15) (ci := 5) X hW 0 rfl rfl tbc_X5 10 (by decide) kw_179 rfl dX5_next_102 ?_
      obtain ⟨hg8, hm⟩ := gd_s hm
      refine mx_bald X hW 1 rfl (inb_s hg8) dX5_next_105 ?_
      refine lv_bipush (v := 97) hx hb dX5_next_106 (by decide) ?_
      refine lv_icmp_lt (tgt := 132) hx hb dX5_next_108 (by decide) (fun c9 => ?_) (fun c9 => ?_)
      · have hm := (if_pos c9).symm.trans hm
        exact w_X5_next_B132 X q_t q_t_tape (v_t_names) (v_t_nameLines) (v_t_nameNumbers) (v_t_filled) (v_t_fault) (v_t_faultPlace) (v_t_draft) (v_t_named) out   t_tape t_end t_at t_sort t_at t_value t_code _ _ _ hm hW (lv_sub hl [0] rfl)
      · have hm := (if_neg c9).symm.trans hm
        refine lv_aload_n hx hb dX5_next_111 rfl (lv_at hl 0 rfl) ?_
        refine mx_get (C := RX5) (T := TX5) (N := 15) (ci := 5) X hW 0 rfl rfl tbc_X5 0 (by decide) kw_58 rfl dX5_next_112 ?_
        refine lv_aload_n hx hb dX5_next_115 rfl (lv_at hl 0 rfl) ?_
        refine mx_get (C := RX5) (T := TX5) (N := 15) (ci := 5) X hW 0 rfl rfl tbc_X5 10 (by decide) kw_179 rfl dX5_next_116 ?_
        obtain ⟨hg15, hm⟩ := gd_s hm
        refine mx_bald X hW 1 rfl (inb_s hg15) dX5_next_119 ?_
        refine lv_bipush (v := 122) hx hb dX5_next_120 (by decide) ?_
        refine lv_icmp_gt (tgt := 132) hx hb dX5_next_122 (by decide) (fun c16 => ?_) (fun c16 => ?_)
        · have hm := (if_pos c16).symm.trans hm
          exact w_X5_next_B132 X q_t q_t_tape (v_t_names) (v_t_nameLines) (v_t_nameNumbers) (v_t_filled) (v_t_fault) (v_t_faultPlace) (v_t_draft) (v_t_named) out   t_tape t_end t_at t_sort t_at t_value t_code _ _ _ hm hW (lv_sub hl [0] rfl)
        · have hm := (if_neg c16).symm.trans hm
          refine lv_aload_n hx hb dX5_next_125 rfl (lv_at hl 0 rfl) ?_
          obtain ⟨o17, ho17, hm⟩ := bd_s hm
          refine mx_callV (C := RX5) (T := TX5) (N := 15) (ci := 5) (n := 0) (As := []) (rest := []) (st1 := []) (w2 := [xO q_t 5 [.ref q_t_tape, v_t_names, v_t_nameLines, v_t_nameNumbers, v_t_filled, v_t_fault, v_t_faultPlace, v_t_draft, v_t_named, .int t_end, .int o17.1, .int o17.2.1, .int t_at, .int t_value, .long o17.2.2], xB G q_t_tape 900 t_tape]) X hW hl.1 (c_X5_scanWord l G q_t q_t_tape (v_t_names) (v_t_nameLines) (v_t_nameNumbers) (v_t_filled) (v_t_fault) (v_t_faultPlace) (v_t_draft) (v_t_named) (.int t_value) t_tape t_end t_at t_sort t_at t_code o17 ho17) 0 rfl rfl kw_201 kw_202 kw_203 kw_15 kw_204 (by decide +kernel) ⟨rfl, rfl⟩ ⟨by decide, by decide⟩ ⟨Nat.zero_le _, Nat.zero_le _⟩ [0, 1] (by decide) rfl rfl rfl rfl rfl rfl (Nat.le_of_ble_eq_true rfl) rfl dX5_next_126 (fun H locs hW => ?_)
          refine lv_goto (tgt := 172) hx hb dX5_next_129 (by decide) ?_
          obtain rfl := Option.some.inj hm
          exact mx_vret X hW dX5_next_172
    · have hm := (if_pos c7).symm.trans hm
      refine lv_aload_n hx hb dX5_next_79 rfl (lv_at hl 0 rfl) ?_
      refine lv_iconst (v := 3) hx hb dX5_next_80 (by decide) ?_
      refine mx_put (C := RX5) (T := TX5) (N := 15) (ci := 5) (w2 := [xO q_t 5 [.ref q_t_tape, v_t_names, v_t_nameLines, v_t_nameNumbers, v_t_filled, v_t_fault, v_t_faultPlace, v_t_draft, v_t_named, .int t_end, .int t_at, .int 3, .int t_at, .int t_value, .long t_code], xB G q_t_tape 900 t_tape]) X hW 0 rfl rfl tbc_X5 tyX5 tyX5_ok nmX5 11 (by decide) kw_182 rfl rfl rfl rfl (Nat.le_of_ble_eq_true rfl) rfl dX5_next_81 (fun H locs hW => ?_)
      refine lv_aload_n hx hb dX5_next_84 rfl (lv_at hl 0 rfl) ?_
      refine lv_dup hx hb dX5_next_85 rfl ?_
      refine mx_get (C := RX5) (T := TX5) (N := 15) (ci := 5) X hW 0 rfl rfl tbc_X5 10 (by decide) kw_179 rfl dX5_next_86 ?_
      refine lv_iconst (v := 1) hx hb dX5_next_89 (by decide) ?_
      refine lv_iadd hx hb dX5_next_90 ?_
      refine lv_topi (fun z18 ez18 => ?_)
      have hm := nm_s ez18 hm
      refine mx_put (C := RX5) (T := TX5) (N := 15) (ci := 5) (w2 := [xO q_t 5 [.ref q_t_tape, v_t_names, v_t_nameLines, v_t_nameNumbers, v_t_filled, v_t_fault, v_t_faultPlace, v_t_draft, v_t_named, .int t_end, .int z18, .int 3, .int t_at, .int t_value, .long t_code], xB G q_t_tape 900 t_tape]) X hW 0 rfl rfl tbc_X5 tyX5 tyX5_ok nmX5 10 (by decide) kw_179 rfl rfl rfl rfl (Nat.le_of_ble_eq_true rfl) rfl dX5_next_91 (fun H locs hW => ?_)
      refine lv_goto (tgt := 172) hx hb dX5_next_94 (by decide) ?_
      obtain rfl := Option.some.inj hm
      exact mx_vret X hW dX5_next_172
  · have hm := (if_neg c5).symm.trans hm
    refine lv_aload_n hx hb dX5_next_57 rfl (lv_at hl 0 rfl) ?_
    refine lv_iconst (v := 0) hx hb dX5_next_58 (by decide) ?_
    refine mx_put (C := RX5) (T := TX5) (N := 15) (ci := 5) (w2 := [xO q_t 5 [.ref q_t_tape, v_t_names, v_t_nameLines, v_t_nameNumbers, v_t_filled, v_t_fault, v_t_faultPlace, v_t_draft, v_t_named, .int t_end, .int t_at, .int 0, .int t_at, .int t_value, .long t_code], xB G q_t_tape 900 t_tape]) X hW 0 rfl rfl tbc_X5 tyX5 tyX5_ok nmX5 11 (by decide) kw_182 rfl rfl rfl rfl (Nat.le_of_ble_eq_true rfl) rfl dX5_next_59 (fun H locs hW => ?_)
    refine lv_goto (tgt := 172) hx hb dX5_next_62 (by decide) ?_
    obtain rfl := Option.some.inj hm
    exact mx_vret X hW dX5_next_172
set_option maxHeartbeats 4000000 in
set_option maxRecDepth 100000 in
theorem c_X5_next (l : Launch) (G : mx_G) (q_t : Nat) (q_t_tape : Nat) (v_t_names : Value) (v_t_nameLines : Value) (v_t_nameNumbers : Value) (v_t_filled : Value) (v_t_fault : Value) (v_t_faultPlace : Value) (v_t_draft : Value) (v_t_named : Value) (t_tape : Nat → Int32) (t_end : Int32) (t_at : Int32) (t_sort : Int32) (t_place : Int32) (t_value : Int32) (t_code : Int64) (out : Int32 × Int32 × Int32 × Int32 × Int64) (hm : f_X5_next t_tape t_end t_at t_sort t_place t_value t_code = some out) : mx_C l yX5_next cX5_next 1 none rm_X5_next G [.ref q_t] [xO q_t 5 [.ref q_t_tape, v_t_names, v_t_nameLines, v_t_nameNumbers, v_t_filled, v_t_fault, v_t_faultPlace, v_t_draft, v_t_named, .int t_end, .int t_at, .int t_sort, .int t_place, .int t_value, .long t_code], xB G q_t_tape 900 t_tape] none [xO q_t 5 [.ref q_t_tape, v_t_names, v_t_nameLines, v_t_nameNumbers, v_t_filled, v_t_fault, v_t_faultPlace, v_t_draft, v_t_named, .int t_end, .int out.1, .int out.2.1, .int out.2.2.1, .int out.2.2.2.1, .long out.2.2.2.2], xB G q_t_tape 900 t_tape] := by
  refine mx_enter (own := RX5) (name := "next") (lv := [(0, .ref q_t)]) (by decide) rfl rfl (Nat.le_of_ble_eq_true rfl) rfl ?_
  intro p e s m args below meth c A ls X hW hl
  obtain ⟨hx, hb, hml, hown, hts, hKN, -⟩ := id X
  unfold f_X5_next at hm
  refine w_X5_next_L0 X q_t q_t_tape (v_t_names) (v_t_nameLines) (v_t_nameNumbers) (v_t_filled) (v_t_fault) (v_t_faultPlace) (v_t_draft) (v_t_named) t_tape t_end t_sort t_place t_value t_code out _ (fun t_at_0 H locs ls hm hW hl => ?_) _ t_at _ _ _ hm hW (lv_sub hl [0] rfl)
  exact w_X5_next_B38 X q_t q_t_tape (v_t_names) (v_t_nameLines) (v_t_nameNumbers) (v_t_filled) (v_t_fault) (v_t_faultPlace) (v_t_draft) (v_t_named) out   t_tape t_end t_at_0 t_sort t_place t_value t_code _ _ _ hm hW (lv_sub hl [0] rfl)

abbrev rm_X5_isFull : Room := { frames := 0, cells := 0, slots := 0, locals := 0 }
noncomputable def f_X5_isFull (p1 : Int32) (t_draft_reaches : Int32) (t_draft_ropes : Int32) (t_draft_hands : Int32) (t_draft_boats : Int32) : Option (Int32) :=
  
(if p1 = 1 then
  (if t_draft_reaches < 6 then
    some 0
  else
    some 1)
else (if p1 = 2 then
  (if t_draft_ropes < 7 then
    some 0
  else
    some 1)
else (if p1 = 3 then
  some 0
else (if p1 = 4 then
  (if t_draft_hands < 6 then
    some 0
  else
    some 1)
else (if p1 = 5 then
  (if t_draft_boats < 5 then
    some 0
  else
    some 1)
else 
  some 0)))))
set_option maxHeartbeats 4000000 in
set_option maxRecDepth 100000 in
theorem c_X5_isFull (l : Launch) (G : mx_G) (q_t : Nat) (q_t_draft : Nat) (v_t_tape : Value) (v_t_names : Value) (v_t_nameLines : Value) (v_t_nameNumbers : Value) (v_t_filled : Value) (v_t_fault : Value) (v_t_faultPlace : Value) (v_t_named : Value) (v_t_end : Value) (v_t_at : Value) (v_t_sort : Value) (v_t_place : Value) (v_t_value : Value) (v_t_code : Value) (v_t_draft_flow : Value) (v_t_draft_tape : Value) (v_t_draft_muds : Value) (v_t_draft_loose : Value) (v_t_draft_kind : Value) (v_t_draft_wide : Value) (v_t_draft_bank : Value) (v_t_draft_mud : Value) (v_t_draft_ropeAt : Value) (v_t_draft_pulls : Value) (v_t_draft_bears : Value) (v_t_draft_strong : Value) (v_t_draft_boatWide : Value) (v_t_draft_boatDeep : Value) (t_draft_reaches : Int32) (t_draft_ropes : Int32) (t_draft_hands : Int32) (t_draft_boats : Int32) (p1 : Int32) (out : Int32) (hm : f_X5_isFull p1 t_draft_reaches t_draft_ropes t_draft_hands t_draft_boats = some out) : mx_C l yX5_isFull cX5_isFull 2 (some .boolean) rm_X5_isFull G [.ref q_t, .int p1] [xO q_t 5 [v_t_tape, v_t_names, v_t_nameLines, v_t_nameNumbers, v_t_filled, v_t_fault, v_t_faultPlace, .ref q_t_draft, v_t_named, v_t_end, v_t_at, v_t_sort, v_t_place, v_t_value, v_t_code], xO q_t_draft 6 [v_t_draft_flow, v_t_draft_tape, .int t_draft_reaches, .int t_draft_ropes, .int t_draft_hands, .int t_draft_boats, v_t_draft_muds, v_t_draft_loose, v_t_draft_kind, v_t_draft_wide, v_t_draft_bank, v_t_draft_mud, v_t_draft_ropeAt, v_t_draft_pulls, v_t_draft_bears, v_t_draft_strong, v_t_draft_boatWide, v_t_draft_boatDeep]] (some (.int out)) [xO q_t 5 [v_t_tape, v_t_names, v_t_nameLines, v_t_nameNumbers, v_t_filled, v_t_fault, v_t_faultPlace, .ref q_t_draft, v_t_named, v_t_end, v_t_at, v_t_sort, v_t_place, v_t_value, v_t_code], xO q_t_draft 6 [v_t_draft_flow, v_t_draft_tape, .int t_draft_reaches, .int t_draft_ropes, .int t_draft_hands, .int t_draft_boats, v_t_draft_muds, v_t_draft_loose, v_t_draft_kind, v_t_draft_wide, v_t_draft_bank, v_t_draft_mud, v_t_draft_ropeAt, v_t_draft_pulls, v_t_draft_bears, v_t_draft_strong, v_t_draft_boatWide, v_t_draft_boatDeep]] := by
  refine mx_enter (own := RX5) (name := "isFull") (lv := [(0, .ref q_t), (1, .int p1)]) (by decide) rfl rfl (Nat.le_of_ble_eq_true rfl) rfl ?_
  intro p e s m args below meth c A ls X hW hl
  obtain ⟨hx, hb, hml, hown, hts, hKN, -⟩ := id X
  unfold f_X5_isFull at hm
  refine lv_iload_n hx hb dX5_isFull_0 rfl (lv_at hl 1 rfl) ?_
  by_cases c1 : p1 = 1
  · have hm := (if_pos c1).symm.trans hm
    refine lv_tableIn (off := 35) (tgt := 36) hx hb dX5_isFull_1 (by rw [c1]; decide) (by rw [c1]; decide) (by rw [c1]; rfl) (by decide) ?_
    refine lv_aload_n hx hb dX5_isFull_36 rfl (lv_at hl 0 rfl) ?_
    refine mx_get (C := RX5) (T := TX5) (N := 15) (ci := 5) X hW 0 rfl rfl tbc_X5 7 (by decide) kw_64 rfl dX5_isFull_37 ?_
    refine mx_get (C := RX6) (T := TX6) (N := 18) (ci := 6) X hW 1 rfl rfl tbc_X6 2 (by decide) kw_183 rfl dX5_isFull_40 ?_
    refine lv_bipush (v := 6) hx hb dX5_isFull_43 (by decide) ?_
    refine lv_icmp_lt (tgt := 52) hx hb dX5_isFull_45 (by decide) (fun c2 => ?_) (fun c2 => ?_)
    · have hm := (if_pos c2).symm.trans hm
      refine lv_iconst (v := 0) hx hb dX5_isFull_52 (by decide) ?_
      obtain rfl := Option.some.inj hm
      exact mx_zret X nb0 hW dX5_isFull_53
    · have hm := (if_neg c2).symm.trans hm
      refine lv_iconst (v := 1) hx hb dX5_isFull_48 (by decide) ?_
      refine lv_goto (tgt := 53) hx hb dX5_isFull_49 (by decide) ?_
      obtain rfl := Option.some.inj hm
      exact mx_zret X nb1 hW dX5_isFull_53
  have hm := (if_neg c1).symm.trans hm
  by_cases c3 : p1 = 2
  · have hm := (if_pos c3).symm.trans hm
    refine lv_tableIn (off := 53) (tgt := 54) hx hb dX5_isFull_1 (by rw [c3]; decide) (by rw [c3]; decide) (by rw [c3]; rfl) (by decide) ?_
    refine lv_aload_n hx hb dX5_isFull_54 rfl (lv_at hl 0 rfl) ?_
    refine mx_get (C := RX5) (T := TX5) (N := 15) (ci := 5) X hW 0 rfl rfl tbc_X5 7 (by decide) kw_64 rfl dX5_isFull_55 ?_
    refine mx_get (C := RX6) (T := TX6) (N := 18) (ci := 6) X hW 1 rfl rfl tbc_X6 3 (by decide) kw_236 rfl dX5_isFull_58 ?_
    refine lv_bipush (v := 7) hx hb dX5_isFull_61 (by decide) ?_
    refine lv_icmp_lt (tgt := 70) hx hb dX5_isFull_63 (by decide) (fun c4 => ?_) (fun c4 => ?_)
    · have hm := (if_pos c4).symm.trans hm
      refine lv_iconst (v := 0) hx hb dX5_isFull_70 (by decide) ?_
      obtain rfl := Option.some.inj hm
      exact mx_zret X nb0 hW dX5_isFull_71
    · have hm := (if_neg c4).symm.trans hm
      refine lv_iconst (v := 1) hx hb dX5_isFull_66 (by decide) ?_
      refine lv_goto (tgt := 71) hx hb dX5_isFull_67 (by decide) ?_
      obtain rfl := Option.some.inj hm
      exact mx_zret X nb1 hW dX5_isFull_71
  have hm := (if_neg c3).symm.trans hm
  by_cases c5 : p1 = 3
  · have hm := (if_pos c5).symm.trans hm
    refine lv_tableIn (off := 106) (tgt := 107) hx hb dX5_isFull_1 (by rw [c5]; decide) (by rw [c5]; decide) (by rw [c5]; rfl) (by decide) ?_
    refine lv_iconst (v := 0) hx hb dX5_isFull_107 (by decide) ?_
    obtain rfl := Option.some.inj hm
    exact mx_zret X nb0 hW dX5_isFull_108
  have hm := (if_neg c5).symm.trans hm
  by_cases c6 : p1 = 4
  · have hm := (if_pos c6).symm.trans hm
    refine lv_tableIn (off := 71) (tgt := 72) hx hb dX5_isFull_1 (by rw [c6]; decide) (by rw [c6]; decide) (by rw [c6]; rfl) (by decide) ?_
    refine lv_aload_n hx hb dX5_isFull_72 rfl (lv_at hl 0 rfl) ?_
    refine mx_get (C := RX5) (T := TX5) (N := 15) (ci := 5) X hW 0 rfl rfl tbc_X5 7 (by decide) kw_64 rfl dX5_isFull_73 ?_
    refine mx_get (C := RX6) (T := TX6) (N := 18) (ci := 6) X hW 1 rfl rfl tbc_X6 4 (by decide) kw_237 rfl dX5_isFull_76 ?_
    refine lv_bipush (v := 6) hx hb dX5_isFull_79 (by decide) ?_
    refine lv_icmp_lt (tgt := 88) hx hb dX5_isFull_81 (by decide) (fun c7 => ?_) (fun c7 => ?_)
    · have hm := (if_pos c7).symm.trans hm
      refine lv_iconst (v := 0) hx hb dX5_isFull_88 (by decide) ?_
      obtain rfl := Option.some.inj hm
      exact mx_zret X nb0 hW dX5_isFull_89
    · have hm := (if_neg c7).symm.trans hm
      refine lv_iconst (v := 1) hx hb dX5_isFull_84 (by decide) ?_
      refine lv_goto (tgt := 89) hx hb dX5_isFull_85 (by decide) ?_
      obtain rfl := Option.some.inj hm
      exact mx_zret X nb1 hW dX5_isFull_89
  have hm := (if_neg c6).symm.trans hm
  by_cases c8 : p1 = 5
  · have hm := (if_pos c8).symm.trans hm
    refine lv_tableIn (off := 89) (tgt := 90) hx hb dX5_isFull_1 (by rw [c8]; decide) (by rw [c8]; decide) (by rw [c8]; rfl) (by decide) ?_
    refine lv_aload_n hx hb dX5_isFull_90 rfl (lv_at hl 0 rfl) ?_
    refine mx_get (C := RX5) (T := TX5) (N := 15) (ci := 5) X hW 0 rfl rfl tbc_X5 7 (by decide) kw_64 rfl dX5_isFull_91 ?_
    refine mx_get (C := RX6) (T := TX6) (N := 18) (ci := 6) X hW 1 rfl rfl tbc_X6 5 (by decide) kw_238 rfl dX5_isFull_94 ?_
    refine lv_iconst (v := 5) hx hb dX5_isFull_97 (by decide) ?_
    refine lv_icmp_lt (tgt := 105) hx hb dX5_isFull_98 (by decide) (fun c9 => ?_) (fun c9 => ?_)
    · have hm := (if_pos c9).symm.trans hm
      refine lv_iconst (v := 0) hx hb dX5_isFull_105 (by decide) ?_
      obtain rfl := Option.some.inj hm
      exact mx_zret X nb0 hW dX5_isFull_106
    · have hm := (if_neg c9).symm.trans hm
      refine lv_iconst (v := 1) hx hb dX5_isFull_101 (by decide) ?_
      refine lv_goto (tgt := 106) hx hb dX5_isFull_102 (by decide) ?_
      obtain rfl := Option.some.inj hm
      exact mx_zret X nb1 hW dX5_isFull_106
  have hm := (if_neg c8).symm.trans hm
  have tc1 := ne_i (k := 1) (n := 1) rfl c1
  have tc3 := ne_i (k := 2) (n := 2) rfl c3
  have tc5 := ne_i (k := 3) (n := 3) rfl c5
  have tc6 := ne_i (k := 4) (n := 4) rfl c6
  have tc8 := ne_i (k := 5) (n := 5) rfl c8
  refine lv_tableOut (tgt := 107) hx hb dX5_isFull_1 (by omega) (by decide) ?_
  refine lv_iconst (v := 0) hx hb dX5_isFull_107 (by decide) ?_
  obtain rfl := Option.some.inj hm
  exact mx_zret X nb0 hW dX5_isFull_108

abbrev rm_X5_lineOfWord : Room := { frames := 0, cells := 0, slots := 0, locals := 0 }
noncomputable def f_X5_lineOfWord (t_sort : Int32) (t_code : Int64) : Option (Int32) :=
  (if t_sort = 1 then
    (if (lg_cmp t_code 491395638642) = 0 then
      some 0
    else
      (if (lg_cmp t_code 491327153000) = 0 then
        some 1
      else
        (if (lg_cmp t_code 1919905893) = 0 then
          some 2
        else
          (if (lg_cmp t_code 465726042981) = 0 then
            some 3
          else
            (if (lg_cmp t_code 1751215716) = 0 then
              some 4
            else
              (if (lg_cmp t_code 1651466612) = 0 then
                some 5
              else
                (if (lg_cmp t_code 7173476) = 0 then
                  some 6
                else
                  some ((-1)))))))))
  else
    some ((-1)))
set_option maxHeartbeats 4000000 in
set_option maxRecDepth 100000 in
theorem c_X5_lineOfWord (l : Launch) (G : mx_G) (q_t : Nat) (v_t_tape : Value) (v_t_names : Value) (v_t_nameLines : Value) (v_t_nameNumbers : Value) (v_t_filled : Value) (v_t_fault : Value) (v_t_faultPlace : Value) (v_t_draft : Value) (v_t_named : Value) (v_t_end : Value) (v_t_at : Value) (v_t_place : Value) (v_t_value : Value) (t_sort : Int32) (t_code : Int64) (out : Int32) (hm : f_X5_lineOfWord t_sort t_code = some out) : mx_C l yX5_lineOfWord cX5_lineOfWord 1 (some .int) rm_X5_lineOfWord G [.ref q_t] [xO q_t 5 [v_t_tape, v_t_names, v_t_nameLines, v_t_nameNumbers, v_t_filled, v_t_fault, v_t_faultPlace, v_t_draft, v_t_named, v_t_end, v_t_at, .int t_sort, v_t_place, v_t_value, .long t_code]] (some (.int out)) [xO q_t 5 [v_t_tape, v_t_names, v_t_nameLines, v_t_nameNumbers, v_t_filled, v_t_fault, v_t_faultPlace, v_t_draft, v_t_named, v_t_end, v_t_at, .int t_sort, v_t_place, v_t_value, .long t_code]] := by
  refine mx_enter (own := RX5) (name := "lineOfWord") (lv := [(0, .ref q_t)]) (by decide) rfl rfl (Nat.le_of_ble_eq_true rfl) rfl ?_
  intro p e s m args below meth c A ls X hW hl
  obtain ⟨hx, hb, hml, hown, hts, hKN, -⟩ := id X
  unfold f_X5_lineOfWord at hm
  refine lv_aload_n hx hb dX5_lineOfWord_0 rfl (lv_at hl 0 rfl) ?_
  refine mx_get (C := RX5) (T := TX5) (N := 15) (ci := 5) X hW 0 rfl rfl tbc_X5 11 (by decide) kw_182 rfl dX5_lineOfWord_1 ?_
  refine lv_iconst (v := 1) hx hb dX5_lineOfWord_4 (by decide) ?_
  refine lv_icmp_eq (tgt := 10) hx hb dX5_lineOfWord_5 (by decide) (fun c1 => ?_) (fun c1 => ?_)
  · have hm := (if_pos c1).symm.trans hm
    refine lv_aload_n hx hb dX5_lineOfWord_10 rfl (lv_at hl 0 rfl) ?_
    refine mx_get (C := RX5) (T := TX5) (N := 15) (ci := 5) X hW 0 rfl rfl tbc_X5 14 (by decide) kw_205 rfl dX5_lineOfWord_11 ?_
    refine lv_ldc2 (v := 491395638642) hx hb hown (hts _ kw_220) dX5_lineOfWord_14 ?_
    refine W.lcmp hx hb dX5_lineOfWord_17 ?_
    refine lv_if_ne (tgt := 23) hx hb dX5_lineOfWord_18 (by decide) (fun c2 => ?_) (fun c2 => ?_)
    · have hm := (if_neg c2).symm.trans hm
      refine lv_aload_n hx hb dX5_lineOfWord_23 rfl (lv_at hl 0 rfl) ?_
      refine mx_get (C := RX5) (T := TX5) (N := 15) (ci := 5) X hW 0 rfl rfl tbc_X5 14 (by decide) kw_205 rfl dX5_lineOfWord_24 ?_
      refine lv_ldc2 (v := 491327153000) hx hb hown (hts _ kw_221) dX5_lineOfWord_27 ?_
      refine W.lcmp hx hb dX5_lineOfWord_30 ?_
      refine lv_if_ne (tgt := 36) hx hb dX5_lineOfWord_31 (by decide) (fun c3 => ?_) (fun c3 => ?_)
      · have hm := (if_neg c3).symm.trans hm
        refine lv_aload_n hx hb dX5_lineOfWord_36 rfl (lv_at hl 0 rfl) ?_
        refine mx_get (C := RX5) (T := TX5) (N := 15) (ci := 5) X hW 0 rfl rfl tbc_X5 14 (by decide) kw_205 rfl dX5_lineOfWord_37 ?_
        refine lv_ldc2 (v := 1919905893) hx hb hown (hts _ kw_222) dX5_lineOfWord_40 ?_
        refine W.lcmp hx hb dX5_lineOfWord_43 ?_
        refine lv_if_ne (tgt := 49) hx hb dX5_lineOfWord_44 (by decide) (fun c4 => ?_) (fun c4 => ?_)
        · have hm := (if_neg c4).symm.trans hm
          refine lv_aload_n hx hb dX5_lineOfWord_49 rfl (lv_at hl 0 rfl) ?_
          refine mx_get (C := RX5) (T := TX5) (N := 15) (ci := 5) X hW 0 rfl rfl tbc_X5 14 (by decide) kw_205 rfl dX5_lineOfWord_50 ?_
          refine lv_ldc2 (v := 465726042981) hx hb hown (hts _ kw_223) dX5_lineOfWord_53 ?_
          refine W.lcmp hx hb dX5_lineOfWord_56 ?_
          refine lv_if_ne (tgt := 62) hx hb dX5_lineOfWord_57 (by decide) (fun c5 => ?_) (fun c5 => ?_)
          · have hm := (if_neg c5).symm.trans hm
            refine lv_aload_n hx hb dX5_lineOfWord_62 rfl (lv_at hl 0 rfl) ?_
            refine mx_get (C := RX5) (T := TX5) (N := 15) (ci := 5) X hW 0 rfl rfl tbc_X5 14 (by decide) kw_205 rfl dX5_lineOfWord_63 ?_
            refine lv_ldc2 (v := 1751215716) hx hb hown (hts _ kw_224) dX5_lineOfWord_66 ?_
            refine W.lcmp hx hb dX5_lineOfWord_69 ?_
            refine lv_if_ne (tgt := 75) hx hb dX5_lineOfWord_70 (by decide) (fun c6 => ?_) (fun c6 => ?_)
            · have hm := (if_neg c6).symm.trans hm
              refine lv_aload_n hx hb dX5_lineOfWord_75 rfl (lv_at hl 0 rfl) ?_
              refine mx_get (C := RX5) (T := TX5) (N := 15) (ci := 5) X hW 0 rfl rfl tbc_X5 14 (by decide) kw_205 rfl dX5_lineOfWord_76 ?_
              refine lv_ldc2 (v := 1651466612) hx hb hown (hts _ kw_225) dX5_lineOfWord_79 ?_
              refine W.lcmp hx hb dX5_lineOfWord_82 ?_
              refine lv_if_ne (tgt := 88) hx hb dX5_lineOfWord_83 (by decide) (fun c7 => ?_) (fun c7 => ?_)
              · have hm := (if_neg c7).symm.trans hm
                refine lv_aload_n hx hb dX5_lineOfWord_88 rfl (lv_at hl 0 rfl) ?_
                refine mx_get (C := RX5) (T := TX5) (N := 15) (ci := 5) X hW 0 rfl rfl tbc_X5 14 (by decide) kw_205 rfl dX5_lineOfWord_89 ?_
                refine lv_ldc2 (v := 7173476) hx hb hown (hts _ kw_226) dX5_lineOfWord_92 ?_
                refine W.lcmp hx hb dX5_lineOfWord_95 ?_
                refine lv_if_ne (tgt := 104) hx hb dX5_lineOfWord_96 (by decide) (fun c8 => ?_) (fun c8 => ?_)
                · have hm := (if_neg c8).symm.trans hm
                  refine lv_iconst (v := (-1)) hx hb dX5_lineOfWord_104 (by decide) ?_
                  obtain rfl := Option.some.inj hm
                  exact mx_iret X hW dX5_lineOfWord_105
                · have hm := (if_pos c8).symm.trans hm
                  refine lv_bipush (v := 6) hx hb dX5_lineOfWord_99 (by decide) ?_
                  refine lv_goto (tgt := 105) hx hb dX5_lineOfWord_101 (by decide) ?_
                  obtain rfl := Option.some.inj hm
                  exact mx_iret X hW dX5_lineOfWord_105
              · have hm := (if_pos c7).symm.trans hm
                refine lv_iconst (v := 5) hx hb dX5_lineOfWord_86 (by decide) ?_
                obtain rfl := Option.some.inj hm
                exact mx_iret X hW dX5_lineOfWord_87
            · have hm := (if_pos c6).symm.trans hm
              refine lv_iconst (v := 4) hx hb dX5_lineOfWord_73 (by decide) ?_
              obtain rfl := Option.some.inj hm
              exact mx_iret X hW dX5_lineOfWord_74
          · have hm := (if_pos c5).symm.trans hm
            refine lv_iconst (v := 3) hx hb dX5_lineOfWord_60 (by decide) ?_
            obtain rfl := Option.some.inj hm
            exact mx_iret X hW dX5_lineOfWord_61
        · have hm := (if_pos c4).symm.trans hm
          refine lv_iconst (v := 2) hx hb dX5_lineOfWord_47 (by decide) ?_
          obtain rfl := Option.some.inj hm
          exact mx_iret X hW dX5_lineOfWord_48
      · have hm := (if_pos c3).symm.trans hm
        refine lv_iconst (v := 1) hx hb dX5_lineOfWord_34 (by decide) ?_
        obtain rfl := Option.some.inj hm
        exact mx_iret X hW dX5_lineOfWord_35
    · have hm := (if_pos c2).symm.trans hm
      refine lv_iconst (v := 0) hx hb dX5_lineOfWord_21 (by decide) ?_
      obtain rfl := Option.some.inj hm
      exact mx_iret X hW dX5_lineOfWord_22
  · have hm := (if_neg c1).symm.trans hm
    refine lv_iconst (v := (-1)) hx hb dX5_lineOfWord_8 (by decide) ?_
    obtain rfl := Option.some.inj hm
    exact mx_iret X hW dX5_lineOfWord_9

abbrev rm_X5_isName : Room := { frames := 1, cells := 0, slots := 0, locals := 20 }
noncomputable def f_X5_isName (t_sort : Int32) (t_code : Int64) : Option (Int32) :=
  (if t_sort = 1 then
    (f_X5_lineOfWord t_sort t_code).bind fun o2 => (if o2 = ((-1)) then
      some 1
    else
      some 0)
  else
    some 0)
set_option maxHeartbeats 4000000 in
set_option maxRecDepth 100000 in
theorem c_X5_isName (l : Launch) (G : mx_G) (q_t : Nat) (v_t_tape : Value) (v_t_names : Value) (v_t_nameLines : Value) (v_t_nameNumbers : Value) (v_t_filled : Value) (v_t_fault : Value) (v_t_faultPlace : Value) (v_t_draft : Value) (v_t_named : Value) (v_t_end : Value) (v_t_at : Value) (v_t_place : Value) (v_t_value : Value) (t_sort : Int32) (t_code : Int64) (out : Int32) (hm : f_X5_isName t_sort t_code = some out) : mx_C l yX5_isName cX5_isName 1 (some .boolean) rm_X5_isName G [.ref q_t] [xO q_t 5 [v_t_tape, v_t_names, v_t_nameLines, v_t_nameNumbers, v_t_filled, v_t_fault, v_t_faultPlace, v_t_draft, v_t_named, v_t_end, v_t_at, .int t_sort, v_t_place, v_t_value, .long t_code]] (some (.int out)) [xO q_t 5 [v_t_tape, v_t_names, v_t_nameLines, v_t_nameNumbers, v_t_filled, v_t_fault, v_t_faultPlace, v_t_draft, v_t_named, v_t_end, v_t_at, .int t_sort, v_t_place, v_t_value, .long t_code]] := by
  refine mx_enter (own := RX5) (name := "isName") (lv := [(0, .ref q_t)]) (by decide) rfl rfl (Nat.le_of_ble_eq_true rfl) rfl ?_
  intro p e s m args below meth c A ls X hW hl
  obtain ⟨hx, hb, hml, hown, hts, hKN, -⟩ := id X
  unfold f_X5_isName at hm
  refine lv_aload_n hx hb dX5_isName_0 rfl (lv_at hl 0 rfl) ?_
  refine mx_get (C := RX5) (T := TX5) (N := 15) (ci := 5) X hW 0 rfl rfl tbc_X5 11 (by decide) kw_182 rfl dX5_isName_1 ?_
  refine lv_iconst (v := 1) hx hb dX5_isName_4 (by decide) ?_
  refine lv_icmp_ne (tgt := 20) hx hb dX5_isName_5 (by decide) (fun c1 => ?_) (fun c1 => ?_)
  · have hm := (if_neg c1).symm.trans hm
    refine lv_iconst (v := 0) hx hb dX5_isName_20 (by decide) ?_
    obtain rfl := Option.some.inj hm
    exact mx_zret X nb0 hW dX5_isName_21
  · have hm := (if_pos c1).symm.trans hm
    refine lv_aload_n hx hb dX5_isName_8 rfl (lv_at hl 0 rfl) ?_
    obtain ⟨o2, ho2, hm⟩ := bd_s hm
    refine mx_callV (C := RX5) (T := TX5) (N := 15) (ci := 5) (n := 0) (As := []) (rest := []) (st1 := [.int o2]) (w2 := [xO q_t 5 [v_t_tape, v_t_names, v_t_nameLines, v_t_nameNumbers, v_t_filled, v_t_fault, v_t_faultPlace, v_t_draft, v_t_named, v_t_end, v_t_at, .int t_sort, v_t_place, v_t_value, .long t_code]]) X hW hl.1 (c_X5_lineOfWord l G q_t (v_t_tape) (v_t_names) (v_t_nameLines) (v_t_nameNumbers) (v_t_filled) (v_t_fault) (v_t_faultPlace) (v_t_draft) (v_t_named) (v_t_end) (v_t_at) (v_t_place) (v_t_value) t_sort t_code o2 ho2) 0 rfl rfl kw_216 kw_217 kw_218 kw_15 kw_219 (by decide +kernel) ⟨rfl, rfl⟩ ⟨by decide, by decide⟩ ⟨Nat.zero_le _, Nat.zero_le _⟩ [0] (by decide) rfl rfl rfl rfl rfl rfl (Nat.le_of_ble_eq_true rfl) rfl dX5_isName_9 (fun H locs hW => ?_)
    refine lv_iconst (v := (-1)) hx hb dX5_isName_12 (by decide) ?_
    refine lv_icmp_ne (tgt := 20) hx hb dX5_isName_13 (by decide) (fun c3 => ?_) (fun c3 => ?_)
    · have hm := (if_neg c3).symm.trans hm
      refine lv_iconst (v := 0) hx hb dX5_isName_20 (by decide) ?_
      obtain rfl := Option.some.inj hm
      exact mx_zret X nb0 hW dX5_isName_21
    · have hm := (if_pos c3).symm.trans hm
      refine lv_iconst (v := 1) hx hb dX5_isName_16 (by decide) ?_
      refine lv_goto (tgt := 21) hx hb dX5_isName_17 (by decide) ?_
      obtain rfl := Option.some.inj hm
      exact mx_zret X nb1 hW dX5_isName_21

abbrev rm_X5_nameIndex : Room := { frames := 0, cells := 0, slots := 0, locals := 0 }
noncomputable def f_X5_nameIndex_L2 (k_32 : Option (Int32)) (t_names : Nat → Int64) (t_named : Int32) (t_code : Int64) : Nat → Int32 → Option (Int32)
  | 0, _ => none
  | n + 1, x1 =>
    (if t_named ≤ x1 then
      k_32
    else
      gd (inb x1 24) <| (if (lg_cmp (t_names x1.toNatClampNeg) t_code) = 0 then
        some x1
      else
        f_X5_nameIndex_L2 k_32 t_names t_named t_code n (x1 + 1)))
noncomputable def f_X5_nameIndex (t_names : Nat → Int64) (t_named : Int32) (t_code : Int64) : Option (Int32) :=
  f_X5_nameIndex_L2 (some ((-1))) t_names t_named t_code 2000 0
set_option maxHeartbeats 4000000 in
set_option maxRecDepth 100000 in
theorem w_X5_nameIndex_L2 {p : Program} {l : Launch} {e : Env} {s : State} {m : MethodId} {args : Array Value} {below : List Frame} {meth : Method} {c : Code} {A : Nat → Prop} {G : mx_G} (X : mx_X p s m args meth c RX5 "nameIndex" cX5_nameIndex 2 (some .int) G) (q_t : Nat) (q_t_names : Nat) (v_t_tape : Value) (v_t_nameLines : Value) (v_t_nameNumbers : Value) (v_t_filled : Value) (v_t_fault : Value) (v_t_faultPlace : Value) (v_t_draft : Value) (v_t_end : Value) (v_t_at : Value) (v_t_sort : Value) (v_t_place : Value) (v_t_value : Value) (t_names : Nat → Int64) (t_named : Int32) (t_code : Int64)  (out : Int32) (k_32 : Option (Int32)) (hk_32 : ∀ (H : Heap) (locs : List Loc) (ls : Array Slot), k_32 = some out → mx_W G s A [xO q_t 5 [v_t_tape, .ref q_t_names, v_t_nameLines, v_t_nameNumbers, v_t_filled, v_t_fault, v_t_faultPlace, v_t_draft, .int t_named, v_t_end, v_t_at, v_t_sort, v_t_place, v_t_value, .long t_code], xJ G q_t_names 24 t_names] H locs → lv_has ls 2 [] → W p l e rm_X5_nameIndex s m args below meth c H locs 0 0 (MQ below (mx_Q G (some (.int out)) [xO q_t 5 [v_t_tape, .ref q_t_names, v_t_nameLines, v_t_nameNumbers, v_t_filled, v_t_fault, v_t_faultPlace, v_t_draft, .int t_named, v_t_end, v_t_at, v_t_sort, v_t_place, v_t_value, .long t_code], xJ G q_t_names 24 t_names] A) args s 0 0 A) (F0 m 32 ls [])) : ∀ (n : Nat) (x1 : Int32) (H : Heap) (locs : List Loc) (ls : Array Slot), f_X5_nameIndex_L2 k_32 t_names t_named t_code n x1 = some out → mx_W G s A [xO q_t 5 [v_t_tape, .ref q_t_names, v_t_nameLines, v_t_nameNumbers, v_t_filled, v_t_fault, v_t_faultPlace, v_t_draft, .int t_named, v_t_end, v_t_at, v_t_sort, v_t_place, v_t_value, .long t_code], xJ G q_t_names 24 t_names] H locs → lv_has ls 2 [(0, .ref q_t), (1, .int x1)] → W p l e rm_X5_nameIndex s m args below meth c H locs 0 0 (MQ below (mx_Q G (some (.int out)) [xO q_t 5 [v_t_tape, .ref q_t_names, v_t_nameLines, v_t_nameNumbers, v_t_filled, v_t_fault, v_t_faultPlace, v_t_draft, .int t_named, v_t_end, v_t_at, v_t_sort, v_t_place, v_t_value, .long t_code], xJ G q_t_names 24 t_names] A) args s 0 0 A) (F0 m 2 ls []) := by
  obtain ⟨hx, hb, hml, hown, hts, hKN, -⟩ := id X
  intro n
  induction n with
  | zero => intro x1 H locs ls hm hW hl; exact absurd (show none = some out from hm) (fun h => by cases h)
  | succ n ih =>
    intro x1 H locs ls hm hW hl
    rw [f_X5_nameIndex_L2] at hm
    refine lv_iload_n hx hb dX5_nameIndex_2 rfl (lv_at hl 1 rfl) ?_
    refine lv_aload_n hx hb dX5_nameIndex_3 rfl (lv_at hl 0 rfl) ?_
    refine mx_get (C := RX5) (T := TX5) (N := 15) (ci := 5) X hW 0 rfl rfl tbc_X5 8 (by decide) kw_181 rfl dX5_nameIndex_4 ?_
    refine lv_icmp_ge (tgt := 32) hx hb dX5_nameIndex_7 (by decide) (fun c1 => ?_) (fun c1 => ?_)
    · have hm := (if_pos c1).symm.trans hm
      exact hk_32  _ _ _ hm hW (lv_sub hl [] rfl)
    · have hm := (if_neg c1).symm.trans hm
      refine lv_aload_n hx hb dX5_nameIndex_10 rfl (lv_at hl 0 rfl) ?_
      refine mx_get (C := RX5) (T := TX5) (N := 15) (ci := 5) X hW 0 rfl rfl tbc_X5 1 (by decide) kw_59 rfl dX5_nameIndex_11 ?_
      refine lv_iload_n hx hb dX5_nameIndex_14 rfl (lv_at hl 1 rfl) ?_
      obtain ⟨hg2, hm⟩ := gd_s hm
      refine mx_lald X hW 1 rfl (inb_s hg2) dX5_nameIndex_15 ?_
      refine lv_aload_n hx hb dX5_nameIndex_16 rfl (lv_at hl 0 rfl) ?_
      refine mx_get (C := RX5) (T := TX5) (N := 15) (ci := 5) X hW 0 rfl rfl tbc_X5 14 (by decide) kw_205 rfl dX5_nameIndex_17 ?_
      refine W.lcmp hx hb dX5_nameIndex_20 ?_
      refine lv_if_ne (tgt := 26) hx hb dX5_nameIndex_21 (by decide) (fun c3 => ?_) (fun c3 => ?_)
      · have hm := (if_neg c3).symm.trans hm
        refine lv_iinc (v := x1 + 1) (lv' := [(1, .int (x1 + 1)), (0, .ref q_t)]) hx hb dX5_nameIndex_26 hl (k := 1) rfl rfl (by decide) rfl (fun ls hl => ?_)
        refine lv_goto (tgt := 2) hx hb dX5_nameIndex_29 (by decide) ?_
        exact ih (x1 + 1) _ _ _ hm hW (lv_sub hl [1, 0] rfl)
      · have hm := (if_pos c3).symm.trans hm
        refine lv_iload_n hx hb dX5_nameIndex_24 rfl (lv_at hl 1 rfl) ?_
        obtain rfl := Option.some.inj hm
        exact mx_iret X hW dX5_nameIndex_25
set_option maxHeartbeats 4000000 in
set_option maxRecDepth 100000 in
theorem c_X5_nameIndex (l : Launch) (G : mx_G) (q_t : Nat) (q_t_names : Nat) (v_t_tape : Value) (v_t_nameLines : Value) (v_t_nameNumbers : Value) (v_t_filled : Value) (v_t_fault : Value) (v_t_faultPlace : Value) (v_t_draft : Value) (v_t_end : Value) (v_t_at : Value) (v_t_sort : Value) (v_t_place : Value) (v_t_value : Value) (t_names : Nat → Int64) (t_named : Int32) (t_code : Int64) (out : Int32) (hm : f_X5_nameIndex t_names t_named t_code = some out) : mx_C l yX5_nameIndex cX5_nameIndex 2 (some .int) rm_X5_nameIndex G [.ref q_t] [xO q_t 5 [v_t_tape, .ref q_t_names, v_t_nameLines, v_t_nameNumbers, v_t_filled, v_t_fault, v_t_faultPlace, v_t_draft, .int t_named, v_t_end, v_t_at, v_t_sort, v_t_place, v_t_value, .long t_code], xJ G q_t_names 24 t_names] (some (.int out)) [xO q_t 5 [v_t_tape, .ref q_t_names, v_t_nameLines, v_t_nameNumbers, v_t_filled, v_t_fault, v_t_faultPlace, v_t_draft, .int t_named, v_t_end, v_t_at, v_t_sort, v_t_place, v_t_value, .long t_code], xJ G q_t_names 24 t_names] := by
  refine mx_enter (own := RX5) (name := "nameIndex") (lv := [(0, .ref q_t)]) (by decide) rfl rfl (Nat.le_of_ble_eq_true rfl) rfl ?_
  intro p e s m args below meth c A ls X hW hl
  obtain ⟨hx, hb, hml, hown, hts, hKN, -⟩ := id X
  unfold f_X5_nameIndex at hm
  refine lv_iconst (v := 0) hx hb dX5_nameIndex_0 (by decide) ?_
  refine lv_istore_n (lv' := [(1, .int 0), (0, .ref q_t)]) hx hb dX5_nameIndex_1 rfl hl (by decide) rfl (fun ls hl => ?_)
  refine w_X5_nameIndex_L2 X q_t q_t_names (v_t_tape) (v_t_nameLines) (v_t_nameNumbers) (v_t_filled) (v_t_fault) (v_t_faultPlace) (v_t_draft) (v_t_end) (v_t_at) (v_t_sort) (v_t_place) (v_t_value) t_names t_named t_code out _ (fun H locs ls hm hW hl => ?_) _ 0 _ _ _ hm hW (lv_sub hl [1, 0] rfl)
  refine lv_iconst (v := (-1)) hx hb dX5_nameIndex_32 (by decide) ?_
  obtain rfl := Option.some.inj hm
  exact mx_iret X hW dX5_nameIndex_33

abbrev rm_X5_readNewName : Room := { frames := 2, cells := 0, slots := 0, locals := 40 }
noncomputable def f_X5_readNewName (p1 : Int32) (p2 : Int32) (t_tape : Nat → Int32) (t_names : Nat → Int64) (t_nameLines : Nat → Int32) (t_nameNumbers : Nat → Int32) (t_fault : Int32) (t_faultPlace : Int32) (t_named : Int32) (t_end : Int32) (t_at : Int32) (t_sort : Int32) (t_place : Int32) (t_value : Int32) (t_code : Int64) : Option (Int32 × (Nat → Int64) × (Nat → Int32) × (Nat → Int32) × Int32 × Int32 × Int32 × Int32 × Int32 × Int32 × Int32 × Int64) :=
  (f_X5_isName t_sort t_code).bind fun o1 => (if o1 = 0 then
    (f_X5_fail 1 t_fault t_faultPlace t_place).bind fun o18 => gd (nbl o18.1) <| some (o18.1, t_names, t_nameLines, t_nameNumbers, o18.2.1, o18.2.2, t_named, t_at, t_sort, t_place, t_value, t_code)
  else
    (f_X5_nameIndex t_names t_named t_code).bind fun o3 => (if o3 = ((-1)) then
      (if t_named < 24 then
        gd (inb t_named 24) <| nm (vp_updL t_names t_named.toNatClampNeg t_code) fun r9 => gd (inb t_named 24) <| nm (upd t_nameLines t_named.toNatClampNeg p1) fun r11 => gd (inb t_named 24) <| nm (upd t_nameNumbers t_named.toNatClampNeg p2) fun r13 => nm (t_named + 1) fun z14 => (f_X5_next t_tape t_end t_at t_sort t_place t_value t_code).bind fun o15 => some (1, r9, r11, r13, t_fault, t_faultPlace, z14, o15.1, o15.2.1, o15.2.2.1, o15.2.2.2.1, o15.2.2.2.2)
      else
        (f_X5_fail 3 t_fault t_faultPlace t_place).bind fun o16 => gd (nbl o16.1) <| some (o16.1, t_names, t_nameLines, t_nameNumbers, o16.2.1, o16.2.2, t_named, t_at, t_sort, t_place, t_value, t_code))
    else
      (f_X5_fail 3 t_fault t_faultPlace t_place).bind fun o5 => gd (nbl o5.1) <| some (o5.1, t_names, t_nameLines, t_nameNumbers, o5.2.1, o5.2.2, t_named, t_at, t_sort, t_place, t_value, t_code)))
set_option maxHeartbeats 4000000 in
set_option maxRecDepth 100000 in
theorem c_X5_readNewName (l : Launch) (G : mx_G) (q_t : Nat) (q_t_tape : Nat) (q_t_names : Nat) (q_t_nameLines : Nat) (q_t_nameNumbers : Nat) (v_t_filled : Value) (v_t_draft : Value) (t_tape : Nat → Int32) (t_names : Nat → Int64) (t_nameLines : Nat → Int32) (t_nameNumbers : Nat → Int32) (t_fault : Int32) (t_faultPlace : Int32) (t_named : Int32) (t_end : Int32) (t_at : Int32) (t_sort : Int32) (t_place : Int32) (t_value : Int32) (t_code : Int64) (p1 : Int32) (p2 : Int32) (out : Int32 × (Nat → Int64) × (Nat → Int32) × (Nat → Int32) × Int32 × Int32 × Int32 × Int32 × Int32 × Int32 × Int32 × Int64) (hm : f_X5_readNewName p1 p2 t_tape t_names t_nameLines t_nameNumbers t_fault t_faultPlace t_named t_end t_at t_sort t_place t_value t_code = some out) : mx_C l yX5_readNewName cX5_readNewName 3 (some .boolean) rm_X5_readNewName G [.ref q_t, .int p1, .int p2] [xO q_t 5 [.ref q_t_tape, .ref q_t_names, .ref q_t_nameLines, .ref q_t_nameNumbers, v_t_filled, .int t_fault, .int t_faultPlace, v_t_draft, .int t_named, .int t_end, .int t_at, .int t_sort, .int t_place, .int t_value, .long t_code], xB G q_t_tape 900 t_tape, xJ G q_t_names 24 t_names, xI G q_t_nameLines 24 t_nameLines, xI G q_t_nameNumbers 24 t_nameNumbers] (some (.int out.1)) [xO q_t 5 [.ref q_t_tape, .ref q_t_names, .ref q_t_nameLines, .ref q_t_nameNumbers, v_t_filled, .int out.2.2.2.2.1, .int out.2.2.2.2.2.1, v_t_draft, .int out.2.2.2.2.2.2.1, .int t_end, .int out.2.2.2.2.2.2.2.1, .int out.2.2.2.2.2.2.2.2.1, .int out.2.2.2.2.2.2.2.2.2.1, .int out.2.2.2.2.2.2.2.2.2.2.1, .long out.2.2.2.2.2.2.2.2.2.2.2], xB G q_t_tape 900 t_tape, xJ G q_t_names 24 out.2.1, xI G q_t_nameLines 24 out.2.2.1, xI G q_t_nameNumbers 24 out.2.2.2.1] := by
  refine mx_enter (own := RX5) (name := "readNewName") (lv := [(0, .ref q_t), (1, .int p1), (2, .int p2)]) (by decide) rfl rfl (Nat.le_of_ble_eq_true rfl) rfl ?_
  intro p e s m args below meth c A ls X hW hl
  obtain ⟨hx, hb, hml, hown, hts, hKN, -⟩ := id X
  unfold f_X5_readNewName at hm
  refine lv_aload_n hx hb dX5_readNewName_0 rfl (lv_at hl 0 rfl) ?_
  obtain ⟨o1, ho1, hm⟩ := bd_s hm
  refine mx_callV (C := RX5) (T := TX5) (N := 15) (ci := 5) (n := 0) (As := []) (rest := []) (st1 := [.int o1]) (w2 := [xO q_t 5 [.ref q_t_tape, .ref q_t_names, .ref q_t_nameLines, .ref q_t_nameNumbers, v_t_filled, .int t_fault, .int t_faultPlace, v_t_draft, .int t_named, .int t_end, .int t_at, .int t_sort, .int t_place, .int t_value, .long t_code], xB G q_t_tape 900 t_tape, xJ G q_t_names 24 t_names, xI G q_t_nameLines 24 t_nameLines, xI G q_t_nameNumbers 24 t_nameNumbers]) X hW hl.1 (c_X5_isName l G q_t (.ref q_t_tape) (.ref q_t_names) (.ref q_t_nameLines) (.ref q_t_nameNumbers) (v_t_filled) (.int t_fault) (.int t_faultPlace) (v_t_draft) (.int t_named) (.int t_end) (.int t_at) (.int t_place) (.int t_value) t_sort t_code o1 ho1) 0 rfl rfl kw_267 kw_268 kw_269 kw_15 kw_270 (by decide +kernel) ⟨rfl, rfl⟩ ⟨by decide, by decide⟩ ⟨Nat.zero_le _, Nat.zero_le _⟩ [0] (by decide) rfl rfl rfl rfl rfl rfl (Nat.le_of_ble_eq_true rfl) rfl dX5_readNewName_1 (fun H locs hW => ?_)
  refine lv_if_ne (tgt := 13) hx hb dX5_readNewName_4 (by decide) (fun c2 => ?_) (fun c2 => ?_)
  · have hm := (if_neg c2).symm.trans hm
    refine lv_aload_n hx hb dX5_readNewName_13 rfl (lv_at hl 0 rfl) ?_
    obtain ⟨o3, ho3, hm⟩ := bd_s hm
    refine mx_callV (C := RX5) (T := TX5) (N := 15) (ci := 5) (n := 0) (As := []) (rest := []) (st1 := [.int o3]) (w2 := [xO q_t 5 [.ref q_t_tape, .ref q_t_names, .ref q_t_nameLines, .ref q_t_nameNumbers, v_t_filled, .int t_fault, .int t_faultPlace, v_t_draft, .int t_named, .int t_end, .int t_at, .int t_sort, .int t_place, .int t_value, .long t_code], xB G q_t_tape 900 t_tape, xJ G q_t_names 24 t_names, xI G q_t_nameLines 24 t_nameLines, xI G q_t_nameNumbers 24 t_nameNumbers]) X hW hl.1 (c_X5_nameIndex l G q_t q_t_names (.ref q_t_tape) (.ref q_t_nameLines) (.ref q_t_nameNumbers) (v_t_filled) (.int t_fault) (.int t_faultPlace) (v_t_draft) (.int t_end) (.int t_at) (.int t_sort) (.int t_place) (.int t_value) t_names t_named t_code o3 ho3) 0 rfl rfl kw_271 kw_272 kw_273 kw_15 kw_274 (by decide +kernel) ⟨rfl, rfl⟩ ⟨by decide, by decide⟩ ⟨Nat.zero_le _, Nat.zero_le _⟩ [0, 2] (by decide) rfl rfl rfl rfl rfl rfl (Nat.le_of_ble_eq_true rfl) rfl dX5_readNewName_14 (fun H locs hW => ?_)
    refine lv_iconst (v := (-1)) hx hb dX5_readNewName_17 (by decide) ?_
    refine lv_icmp_ne (tgt := 30) hx hb dX5_readNewName_18 (by decide) (fun c4 => ?_) (fun c4 => ?_)
    · have hm := (if_neg c4).symm.trans hm
      refine lv_aload_n hx hb dX5_readNewName_30 rfl (lv_at hl 0 rfl) ?_
      refine lv_iconst (v := 3) hx hb dX5_readNewName_31 (by decide) ?_
      obtain ⟨o5, ho5, hm⟩ := bd_s hm
      refine mx_callV (C := RX5) (T := TX5) (N := 15) (ci := 5) (n := 1) (As := [.int 3]) (rest := []) (st1 := [.int o5.1]) (w2 := [xO q_t 5 [.ref q_t_tape, .ref q_t_names, .ref q_t_nameLines, .ref q_t_nameNumbers, v_t_filled, .int o5.2.1, .int o5.2.2, v_t_draft, .int t_named, .int t_end, .int t_at, .int t_sort, .int t_place, .int t_value, .long t_code], xB G q_t_tape 900 t_tape, xJ G q_t_names 24 t_names, xI G q_t_nameLines 24 t_nameLines, xI G q_t_nameNumbers 24 t_nameNumbers]) X hW hl.1 (c_X5_fail l G q_t (.ref q_t_tape) (.ref q_t_names) (.ref q_t_nameLines) (.ref q_t_nameNumbers) (v_t_filled) (v_t_draft) (.int t_named) (.int t_end) (.int t_at) (.int t_sort) (.int t_value) (.long t_code) t_fault t_faultPlace t_place 3 o5 ho5) 0 rfl rfl kw_227 kw_228 kw_229 kw_15 kw_230 (by decide +kernel) ⟨rfl, rfl⟩ ⟨by decide, by decide⟩ ⟨Nat.zero_le _, Nat.zero_le _⟩ [0] (by decide) rfl rfl rfl rfl rfl rfl (Nat.le_of_ble_eq_true rfl) rfl dX5_readNewName_32 (fun H locs hW => ?_)
      obtain ⟨hg6, hm⟩ := gd_s hm
      obtain rfl := Option.some.inj hm
      exact mx_zret X (nbl_s hg6) hW dX5_readNewName_35
    · have hm := (if_pos c4).symm.trans hm
      refine lv_aload_n hx hb dX5_readNewName_21 rfl (lv_at hl 0 rfl) ?_
      refine mx_get (C := RX5) (T := TX5) (N := 15) (ci := 5) X hW 0 rfl rfl tbc_X5 8 (by decide) kw_181 rfl dX5_readNewName_22 ?_
      refine lv_bipush (v := 24) hx hb dX5_readNewName_25 (by decide) ?_
      refine lv_icmp_lt (tgt := 36) hx hb dX5_readNewName_27 (by decide) (fun c7 => ?_) (fun c7 => ?_)
      · have hm := (if_pos c7).symm.trans hm
        refine lv_aload_n hx hb dX5_readNewName_36 rfl (lv_at hl 0 rfl) ?_
        refine mx_get (C := RX5) (T := TX5) (N := 15) (ci := 5) X hW 0 rfl rfl tbc_X5 1 (by decide) kw_59 rfl dX5_readNewName_37 ?_
        refine lv_aload_n hx hb dX5_readNewName_40 rfl (lv_at hl 0 rfl) ?_
        refine mx_get (C := RX5) (T := TX5) (N := 15) (ci := 5) X hW 0 rfl rfl tbc_X5 8 (by decide) kw_181 rfl dX5_readNewName_41 ?_
        refine lv_aload_n hx hb dX5_readNewName_44 rfl (lv_at hl 0 rfl) ?_
        refine mx_get (C := RX5) (T := TX5) (N := 15) (ci := 5) X hW 0 rfl rfl tbc_X5 14 (by decide) kw_205 rfl dX5_readNewName_45 ?_
        obtain ⟨hg8, hm⟩ := gd_s hm
        refine mx_last (w2 := [xO q_t 5 [.ref q_t_tape, .ref q_t_names, .ref q_t_nameLines, .ref q_t_nameNumbers, v_t_filled, .int t_fault, .int t_faultPlace, v_t_draft, .int t_named, .int t_end, .int t_at, .int t_sort, .int t_place, .int t_value, .long t_code], xB G q_t_tape 900 t_tape, xJ G q_t_names 24 (vp_updL t_names t_named.toNatClampNeg t_code), xI G q_t_nameLines 24 t_nameLines, xI G q_t_nameNumbers 24 t_nameNumbers]) X hW 2 rfl (inb_s hg8) rfl dX5_readNewName_48 (fun H locs hW => ?_)
        obtain ⟨r9, er9⟩ : ∃ z, z = vp_updL t_names t_named.toNatClampNeg t_code := ⟨_, rfl⟩
        have hm := nm_s er9 hm
        have hW : mx_W G s A [xO q_t 5 [.ref q_t_tape, .ref q_t_names, .ref q_t_nameLines, .ref q_t_nameNumbers, v_t_filled, .int t_fault, .int t_faultPlace, v_t_draft, .int t_named, .int t_end, .int t_at, .int t_sort, .int t_place, .int t_value, .long t_code], xB G q_t_tape 900 t_tape, xJ G q_t_names 24 r9, xI G q_t_nameLines 24 t_nameLines, xI G q_t_nameNumbers 24 t_nameNumbers] H locs := by rw [er9]; exact hW
        refine lv_aload_n hx hb dX5_readNewName_49 rfl (lv_at hl 0 rfl) ?_
        refine mx_get (C := RX5) (T := TX5) (N := 15) (ci := 5) X hW 0 rfl rfl tbc_X5 2 (by decide) kw_61 rfl dX5_readNewName_50 ?_
        refine lv_aload_n hx hb dX5_readNewName_53 rfl (lv_at hl 0 rfl) ?_
        refine mx_get (C := RX5) (T := TX5) (N := 15) (ci := 5) X hW 0 rfl rfl tbc_X5 8 (by decide) kw_181 rfl dX5_readNewName_54 ?_
        refine lv_iload_n hx hb dX5_readNewName_57 rfl (lv_at hl 1 rfl) ?_
        obtain ⟨hg10, hm⟩ := gd_s hm
        refine mx_iast (w2 := [xO q_t 5 [.ref q_t_tape, .ref q_t_names, .ref q_t_nameLines, .ref q_t_nameNumbers, v_t_filled, .int t_fault, .int t_faultPlace, v_t_draft, .int t_named, .int t_end, .int t_at, .int t_sort, .int t_place, .int t_value, .long t_code], xB G q_t_tape 900 t_tape, xJ G q_t_names 24 r9, xI G q_t_nameLines 24 (upd t_nameLines t_named.toNatClampNeg p1), xI G q_t_nameNumbers 24 t_nameNumbers]) X hW 3 rfl (inb_s hg10) rfl dX5_readNewName_58 (fun H locs hW => ?_)
        obtain ⟨r11, er11⟩ : ∃ z, z = upd t_nameLines t_named.toNatClampNeg p1 := ⟨_, rfl⟩
        have hm := nm_s er11 hm
        have hW : mx_W G s A [xO q_t 5 [.ref q_t_tape, .ref q_t_names, .ref q_t_nameLines, .ref q_t_nameNumbers, v_t_filled, .int t_fault, .int t_faultPlace, v_t_draft, .int t_named, .int t_end, .int t_at, .int t_sort, .int t_place, .int t_value, .long t_code], xB G q_t_tape 900 t_tape, xJ G q_t_names 24 r9, xI G q_t_nameLines 24 r11, xI G q_t_nameNumbers 24 t_nameNumbers] H locs := by rw [er11]; exact hW
        refine lv_aload_n hx hb dX5_readNewName_59 rfl (lv_at hl 0 rfl) ?_
        refine mx_get (C := RX5) (T := TX5) (N := 15) (ci := 5) X hW 0 rfl rfl tbc_X5 3 (by decide) kw_62 rfl dX5_readNewName_60 ?_
        refine lv_aload_n hx hb dX5_readNewName_63 rfl (lv_at hl 0 rfl) ?_
        refine mx_get (C := RX5) (T := TX5) (N := 15) (ci := 5) X hW 0 rfl rfl tbc_X5 8 (by decide) kw_181 rfl dX5_readNewName_64 ?_
        refine lv_iload_n hx hb dX5_readNewName_67 rfl (lv_at hl 2 rfl) ?_
        obtain ⟨hg12, hm⟩ := gd_s hm
        refine mx_iast (w2 := [xO q_t 5 [.ref q_t_tape, .ref q_t_names, .ref q_t_nameLines, .ref q_t_nameNumbers, v_t_filled, .int t_fault, .int t_faultPlace, v_t_draft, .int t_named, .int t_end, .int t_at, .int t_sort, .int t_place, .int t_value, .long t_code], xB G q_t_tape 900 t_tape, xJ G q_t_names 24 r9, xI G q_t_nameLines 24 r11, xI G q_t_nameNumbers 24 (upd t_nameNumbers t_named.toNatClampNeg p2)]) X hW 4 rfl (inb_s hg12) rfl dX5_readNewName_68 (fun H locs hW => ?_)
        obtain ⟨r13, er13⟩ : ∃ z, z = upd t_nameNumbers t_named.toNatClampNeg p2 := ⟨_, rfl⟩
        have hm := nm_s er13 hm
        have hW : mx_W G s A [xO q_t 5 [.ref q_t_tape, .ref q_t_names, .ref q_t_nameLines, .ref q_t_nameNumbers, v_t_filled, .int t_fault, .int t_faultPlace, v_t_draft, .int t_named, .int t_end, .int t_at, .int t_sort, .int t_place, .int t_value, .long t_code], xB G q_t_tape 900 t_tape, xJ G q_t_names 24 r9, xI G q_t_nameLines 24 r11, xI G q_t_nameNumbers 24 r13] H locs := by rw [er13]; exact hW
        refine lv_aload_n hx hb dX5_readNewName_69 rfl (lv_at hl 0 rfl) ?_
        refine lv_dup hx hb dX5_readNewName_70 rfl ?_
        refine mx_get (C := RX5) (T := TX5) (N := 15) (ci := 5) X hW 0 rfl rfl tbc_X5 8 (by decide) kw_181 rfl dX5_readNewName_71 ?_
        refine lv_iconst (v := 1) hx hb dX5_readNewName_74 (by decide) ?_
        refine lv_iadd hx hb dX5_readNewName_75 ?_
        refine lv_topi (fun z14 ez14 => ?_)
        have hm := nm_s ez14 hm
        refine mx_put (C := RX5) (T := TX5) (N := 15) (ci := 5) (w2 := [xO q_t 5 [.ref q_t_tape, .ref q_t_names, .ref q_t_nameLines, .ref q_t_nameNumbers, v_t_filled, .int t_fault, .int t_faultPlace, v_t_draft, .int z14, .int t_end, .int t_at, .int t_sort, .int t_place, .int t_value, .long t_code], xB G q_t_tape 900 t_tape, xJ G q_t_names 24 r9, xI G q_t_nameLines 24 r11, xI G q_t_nameNumbers 24 r13]) X hW 0 rfl rfl tbc_X5 tyX5 tyX5_ok nmX5 8 (by decide) kw_181 rfl rfl rfl rfl (Nat.le_of_ble_eq_true rfl) rfl dX5_readNewName_76 (fun H locs hW => ?_)
        refine lv_aload_n hx hb dX5_readNewName_79 rfl (lv_at hl 0 rfl) ?_
        obtain ⟨o15, ho15, hm⟩ := bd_s hm
        refine mx_callV (C := RX5) (T := TX5) (N := 15) (ci := 5) (n := 0) (As := []) (rest := []) (st1 := []) (w2 := [xO q_t 5 [.ref q_t_tape, .ref q_t_names, .ref q_t_nameLines, .ref q_t_nameNumbers, v_t_filled, .int t_fault, .int t_faultPlace, v_t_draft, .int z14, .int t_end, .int o15.1, .int o15.2.1, .int o15.2.2.1, .int o15.2.2.2.1, .long o15.2.2.2.2], xB G q_t_tape 900 t_tape, xJ G q_t_names 24 r9, xI G q_t_nameLines 24 r11, xI G q_t_nameNumbers 24 r13]) X hW hl.1 (c_X5_next l G q_t q_t_tape (.ref q_t_names) (.ref q_t_nameLines) (.ref q_t_nameNumbers) (v_t_filled) (.int t_fault) (.int t_faultPlace) (v_t_draft) (.int z14) t_tape t_end t_at t_sort t_place t_value t_code o15 ho15) 0 rfl rfl kw_196 kw_197 kw_198 kw_15 kw_199 (by decide +kernel) ⟨rfl, rfl⟩ ⟨by decide, by decide⟩ ⟨Nat.zero_le _, Nat.zero_le _⟩ [0, 1] (by decide) rfl rfl rfl rfl rfl rfl (Nat.le_of_ble_eq_true rfl) rfl dX5_readNewName_80 (fun H locs hW => ?_)
        refine lv_iconst (v := 1) hx hb dX5_readNewName_83 (by decide) ?_
        obtain rfl := Option.some.inj hm
        exact mx_zret X nb1 hW dX5_readNewName_84
      · have hm := (if_neg c7).symm.trans hm
        refine lv_aload_n hx hb dX5_readNewName_30 rfl (lv_at hl 0 rfl) ?_
        refine lv_iconst (v := 3) hx hb dX5_readNewName_31 (by decide) ?_
        obtain ⟨o16, ho16, hm⟩ := bd_s hm
        refine mx_callV (C := RX5) (T := TX5) (N := 15) (ci := 5) (n := 1) (As := [.int 3]) (rest := []) (st1 := [.int o16.1]) (w2 := [xO q_t 5 [.ref q_t_tape, .ref q_t_names, .ref q_t_nameLines, .ref q_t_nameNumbers, v_t_filled, .int o16.2.1, .int o16.2.2, v_t_draft, .int t_named, .int t_end, .int t_at, .int t_sort, .int t_place, .int t_value, .long t_code], xB G q_t_tape 900 t_tape, xJ G q_t_names 24 t_names, xI G q_t_nameLines 24 t_nameLines, xI G q_t_nameNumbers 24 t_nameNumbers]) X hW hl.1 (c_X5_fail l G q_t (.ref q_t_tape) (.ref q_t_names) (.ref q_t_nameLines) (.ref q_t_nameNumbers) (v_t_filled) (v_t_draft) (.int t_named) (.int t_end) (.int t_at) (.int t_sort) (.int t_value) (.long t_code) t_fault t_faultPlace t_place 3 o16 ho16) 0 rfl rfl kw_227 kw_228 kw_229 kw_15 kw_230 (by decide +kernel) ⟨rfl, rfl⟩ ⟨by decide, by decide⟩ ⟨Nat.zero_le _, Nat.zero_le _⟩ [0] (by decide) rfl rfl rfl rfl rfl rfl (Nat.le_of_ble_eq_true rfl) rfl dX5_readNewName_32 (fun H locs hW => ?_)
        obtain ⟨hg17, hm⟩ := gd_s hm
        obtain rfl := Option.some.inj hm
        exact mx_zret X (nbl_s hg17) hW dX5_readNewName_35
  · have hm := (if_pos c2).symm.trans hm
    refine lv_aload_n hx hb dX5_readNewName_7 rfl (lv_at hl 0 rfl) ?_
    refine lv_iconst (v := 1) hx hb dX5_readNewName_8 (by decide) ?_
    obtain ⟨o18, ho18, hm⟩ := bd_s hm
    refine mx_callV (C := RX5) (T := TX5) (N := 15) (ci := 5) (n := 1) (As := [.int 1]) (rest := []) (st1 := [.int o18.1]) (w2 := [xO q_t 5 [.ref q_t_tape, .ref q_t_names, .ref q_t_nameLines, .ref q_t_nameNumbers, v_t_filled, .int o18.2.1, .int o18.2.2, v_t_draft, .int t_named, .int t_end, .int t_at, .int t_sort, .int t_place, .int t_value, .long t_code], xB G q_t_tape 900 t_tape, xJ G q_t_names 24 t_names, xI G q_t_nameLines 24 t_nameLines, xI G q_t_nameNumbers 24 t_nameNumbers]) X hW hl.1 (c_X5_fail l G q_t (.ref q_t_tape) (.ref q_t_names) (.ref q_t_nameLines) (.ref q_t_nameNumbers) (v_t_filled) (v_t_draft) (.int t_named) (.int t_end) (.int t_at) (.int t_sort) (.int t_value) (.long t_code) t_fault t_faultPlace t_place 1 o18 ho18) 0 rfl rfl kw_227 kw_228 kw_229 kw_15 kw_230 (by decide +kernel) ⟨rfl, rfl⟩ ⟨by decide, by decide⟩ ⟨Nat.zero_le _, Nat.zero_le _⟩ [0] (by decide) rfl rfl rfl rfl rfl rfl (Nat.le_of_ble_eq_true rfl) rfl dX5_readNewName_9 (fun H locs hW => ?_)
    obtain ⟨hg19, hm⟩ := gd_s hm
    obtain rfl := Option.some.inj hm
    exact mx_zret X (nbl_s hg19) hW dX5_readNewName_12

abbrev rm_X5_isWord : Room := { frames := 0, cells := 0, slots := 0, locals := 0 }
noncomputable def f_X5_isWord (p1 : Int64) (t_sort : Int32) (t_code : Int64) : Option (Int32) :=
  (if t_sort = 1 then
    (if (lg_cmp t_code p1) = 0 then
      some 1
    else
      some 0)
  else
    some 0)
set_option maxHeartbeats 4000000 in
set_option maxRecDepth 100000 in
theorem c_X5_isWord (l : Launch) (G : mx_G) (q_t : Nat) (v_t_tape : Value) (v_t_names : Value) (v_t_nameLines : Value) (v_t_nameNumbers : Value) (v_t_filled : Value) (v_t_fault : Value) (v_t_faultPlace : Value) (v_t_draft : Value) (v_t_named : Value) (v_t_end : Value) (v_t_at : Value) (v_t_place : Value) (v_t_value : Value) (t_sort : Int32) (t_code : Int64) (p1 : Int64) (out : Int32) (hm : f_X5_isWord p1 t_sort t_code = some out) : mx_C l yX5_isWord cX5_isWord 3 (some .boolean) rm_X5_isWord G [.ref q_t, .long p1] [xO q_t 5 [v_t_tape, v_t_names, v_t_nameLines, v_t_nameNumbers, v_t_filled, v_t_fault, v_t_faultPlace, v_t_draft, v_t_named, v_t_end, v_t_at, .int t_sort, v_t_place, v_t_value, .long t_code]] (some (.int out)) [xO q_t 5 [v_t_tape, v_t_names, v_t_nameLines, v_t_nameNumbers, v_t_filled, v_t_fault, v_t_faultPlace, v_t_draft, v_t_named, v_t_end, v_t_at, .int t_sort, v_t_place, v_t_value, .long t_code]] := by
  refine mx_enter (own := RX5) (name := "isWord") (lv := [(0, .ref q_t), (1, .long p1)]) (by decide) rfl rfl (Nat.le_of_ble_eq_true rfl) rfl ?_
  intro p e s m args below meth c A ls X hW hl
  obtain ⟨hx, hb, hml, hown, hts, hKN, -⟩ := id X
  unfold f_X5_isWord at hm
  refine lv_aload_n hx hb dX5_isWord_0 rfl (lv_at hl 0 rfl) ?_
  refine mx_get (C := RX5) (T := TX5) (N := 15) (ci := 5) X hW 0 rfl rfl tbc_X5 11 (by decide) kw_182 rfl dX5_isWord_1 ?_
  refine lv_iconst (v := 1) hx hb dX5_isWord_4 (by decide) ?_
  refine lv_icmp_ne (tgt := 21) hx hb dX5_isWord_5 (by decide) (fun c1 => ?_) (fun c1 => ?_)
  · have hm := (if_neg c1).symm.trans hm
    refine lv_iconst (v := 0) hx hb dX5_isWord_21 (by decide) ?_
    obtain rfl := Option.some.inj hm
    exact mx_zret X nb0 hW dX5_isWord_22
  · have hm := (if_pos c1).symm.trans hm
    refine lv_aload_n hx hb dX5_isWord_8 rfl (lv_at hl 0 rfl) ?_
    refine mx_get (C := RX5) (T := TX5) (N := 15) (ci := 5) X hW 0 rfl rfl tbc_X5 14 (by decide) kw_205 rfl dX5_isWord_9 ?_
    refine lv_lload_n hx hb dX5_isWord_12 rfl (lv_at hl 1 rfl) ?_
    refine W.lcmp hx hb dX5_isWord_13 ?_
    refine lv_if_ne (tgt := 21) hx hb dX5_isWord_14 (by decide) (fun c2 => ?_) (fun c2 => ?_)
    · have hm := (if_neg c2).symm.trans hm
      refine lv_iconst (v := 0) hx hb dX5_isWord_21 (by decide) ?_
      obtain rfl := Option.some.inj hm
      exact mx_zret X nb0 hW dX5_isWord_22
    · have hm := (if_pos c2).symm.trans hm
      refine lv_iconst (v := 1) hx hb dX5_isWord_17 (by decide) ?_
      refine lv_goto (tgt := 22) hx hb dX5_isWord_18 (by decide) ?_
      obtain rfl := Option.some.inj hm
      exact mx_zret X nb1 hW dX5_isWord_22

abbrev rm_X5_readWhole : Room := { frames := 2, cells := 0, slots := 0, locals := 40 }
noncomputable def f_X5_readWhole (p1 : Int64) (p2 : Int32) (p3 : Int32) (t_tape : Nat → Int32) (t_fault : Int32) (t_faultPlace : Int32) (t_end : Int32) (t_at : Int32) (t_sort : Int32) (t_place : Int32) (t_value : Int32) (t_code : Int64) : Option (Int32 × Int32 × Int32 × Int32 × Int32 × Int32 × Int32 × Int64) :=
  (f_X5_isWord p1 t_sort t_code).bind fun o1 => (if o1 = 0 then
    (f_X5_fail 1 t_fault t_faultPlace t_place).bind fun o13 => gd (nbl o13.1) <| some (o13.1, o13.2.1, o13.2.2, t_at, t_sort, t_place, t_value, t_code)
  else
    (f_X5_next t_tape t_end t_at t_sort t_place t_value t_code).bind fun o3 => (if o3.2.1 = 2 then
      (if o3.2.2.2.1 < p2 then
        (f_X5_fail 4 t_fault t_faultPlace o3.2.2.1).bind fun o6 => (if o6.1 = 0 then
          some (0, o6.2.1, o6.2.2, o3.1, o3.2.1, o3.2.2.1, o3.2.2.2.1, o3.2.2.2.2)
        else
          some (1, o6.2.1, o6.2.2, o3.1, o3.2.1, o3.2.2.1, o3.2.2.2.1, o3.2.2.2.2))
      else
        (if o3.2.2.2.1 ≤ p3 then
          some (1, t_fault, t_faultPlace, o3.1, o3.2.1, o3.2.2.1, o3.2.2.2.1, o3.2.2.2.2)
        else
          (f_X5_fail 4 t_fault t_faultPlace o3.2.2.1).bind fun o9 => (if o9.1 = 0 then
            some (0, o9.2.1, o9.2.2, o3.1, o3.2.1, o3.2.2.1, o3.2.2.2.1, o3.2.2.2.2)
          else
            some (1, o9.2.1, o9.2.2, o3.1, o3.2.1, o3.2.2.1, o3.2.2.2.1, o3.2.2.2.2))))
    else
      (f_X5_fail 1 t_fault t_faultPlace o3.2.2.1).bind fun o11 => gd (nbl o11.1) <| some (o11.1, o11.2.1, o11.2.2, o3.1, o3.2.1, o3.2.2.1, o3.2.2.2.1, o3.2.2.2.2)))
set_option maxHeartbeats 4000000 in
set_option maxRecDepth 100000 in
theorem c_X5_readWhole (l : Launch) (G : mx_G) (q_t : Nat) (q_t_tape : Nat) (v_t_names : Value) (v_t_nameLines : Value) (v_t_nameNumbers : Value) (v_t_filled : Value) (v_t_draft : Value) (v_t_named : Value) (t_tape : Nat → Int32) (t_fault : Int32) (t_faultPlace : Int32) (t_end : Int32) (t_at : Int32) (t_sort : Int32) (t_place : Int32) (t_value : Int32) (t_code : Int64) (p1 : Int64) (p2 : Int32) (p3 : Int32) (out : Int32 × Int32 × Int32 × Int32 × Int32 × Int32 × Int32 × Int64) (hm : f_X5_readWhole p1 p2 p3 t_tape t_fault t_faultPlace t_end t_at t_sort t_place t_value t_code = some out) : mx_C l yX5_readWhole cX5_readWhole 5 (some .boolean) rm_X5_readWhole G [.ref q_t, .long p1, .int p2, .int p3] [xO q_t 5 [.ref q_t_tape, v_t_names, v_t_nameLines, v_t_nameNumbers, v_t_filled, .int t_fault, .int t_faultPlace, v_t_draft, v_t_named, .int t_end, .int t_at, .int t_sort, .int t_place, .int t_value, .long t_code], xB G q_t_tape 900 t_tape] (some (.int out.1)) [xO q_t 5 [.ref q_t_tape, v_t_names, v_t_nameLines, v_t_nameNumbers, v_t_filled, .int out.2.1, .int out.2.2.1, v_t_draft, v_t_named, .int t_end, .int out.2.2.2.1, .int out.2.2.2.2.1, .int out.2.2.2.2.2.1, .int out.2.2.2.2.2.2.1, .long out.2.2.2.2.2.2.2], xB G q_t_tape 900 t_tape] := by
  refine mx_enter (own := RX5) (name := "readWhole") (lv := [(0, .ref q_t), (1, .long p1), (3, .int p2), (4, .int p3)]) (by decide) rfl rfl (Nat.le_of_ble_eq_true rfl) rfl ?_
  intro p e s m args below meth c A ls X hW hl
  obtain ⟨hx, hb, hml, hown, hts, hKN, -⟩ := id X
  unfold f_X5_readWhole at hm
  refine lv_aload_n hx hb dX5_readWhole_0 rfl (lv_at hl 0 rfl) ?_
  refine lv_lload_n hx hb dX5_readWhole_1 rfl (lv_at hl 1 rfl) ?_
  obtain ⟨o1, ho1, hm⟩ := bd_s hm
  refine mx_callV (C := RX5) (T := TX5) (N := 15) (ci := 5) (n := 1) (As := [.long p1]) (rest := []) (st1 := [.int o1]) (w2 := [xO q_t 5 [.ref q_t_tape, v_t_names, v_t_nameLines, v_t_nameNumbers, v_t_filled, .int t_fault, .int t_faultPlace, v_t_draft, v_t_named, .int t_end, .int t_at, .int t_sort, .int t_place, .int t_value, .long t_code], xB G q_t_tape 900 t_tape]) X hW hl.1 (c_X5_isWord l G q_t (.ref q_t_tape) (v_t_names) (v_t_nameLines) (v_t_nameNumbers) (v_t_filled) (.int t_fault) (.int t_faultPlace) (v_t_draft) (v_t_named) (.int t_end) (.int t_at) (.int t_place) (.int t_value) t_sort t_code p1 o1 ho1) 0 rfl rfl kw_250 kw_251 kw_252 kw_15 kw_253 (by decide +kernel) ⟨rfl, rfl⟩ ⟨by decide, by decide⟩ ⟨Nat.zero_le _, Nat.zero_le _⟩ [0] (by decide) rfl rfl rfl rfl rfl rfl (Nat.le_of_ble_eq_true rfl) rfl dX5_readWhole_2 (fun H locs hW => ?_)
  refine lv_if_ne (tgt := 14) hx hb dX5_readWhole_5 (by decide) (fun c2 => ?_) (fun c2 => ?_)
  · have hm := (if_neg c2).symm.trans hm
    refine lv_aload_n hx hb dX5_readWhole_14 rfl (lv_at hl 0 rfl) ?_
    obtain ⟨o3, ho3, hm⟩ := bd_s hm
    refine mx_callV (C := RX5) (T := TX5) (N := 15) (ci := 5) (n := 0) (As := []) (rest := []) (st1 := []) (w2 := [xO q_t 5 [.ref q_t_tape, v_t_names, v_t_nameLines, v_t_nameNumbers, v_t_filled, .int t_fault, .int t_faultPlace, v_t_draft, v_t_named, .int t_end, .int o3.1, .int o3.2.1, .int o3.2.2.1, .int o3.2.2.2.1, .long o3.2.2.2.2], xB G q_t_tape 900 t_tape]) X hW hl.1 (c_X5_next l G q_t q_t_tape (v_t_names) (v_t_nameLines) (v_t_nameNumbers) (v_t_filled) (.int t_fault) (.int t_faultPlace) (v_t_draft) (v_t_named) t_tape t_end t_at t_sort t_place t_value t_code o3 ho3) 0 rfl rfl kw_196 kw_197 kw_198 kw_15 kw_199 (by decide +kernel) ⟨rfl, rfl⟩ ⟨by decide, by decide⟩ ⟨Nat.zero_le _, Nat.zero_le _⟩ [0, 1] (by decide) rfl rfl rfl rfl rfl rfl (Nat.le_of_ble_eq_true rfl) rfl dX5_readWhole_15 (fun H locs hW => ?_)
    refine lv_aload_n hx hb dX5_readWhole_18 rfl (lv_at hl 0 rfl) ?_
    refine mx_get (C := RX5) (T := TX5) (N := 15) (ci := 5) X hW 0 rfl rfl tbc_X5 11 (by decide) kw_182 rfl dX5_readWhole_19 ?_
    refine lv_iconst (v := 2) hx hb dX5_readWhole_22 (by decide) ?_
    refine lv_icmp_eq (tgt := 32) hx hb dX5_readWhole_23 (by decide) (fun c4 => ?_) (fun c4 => ?_)
    · have hm := (if_pos c4).symm.trans hm
      refine lv_aload_n hx hb dX5_readWhole_32 rfl (lv_at hl 0 rfl) ?_
      refine mx_get (C := RX5) (T := TX5) (N := 15) (ci := 5) X hW 0 rfl rfl tbc_X5 13 (by decide) kw_210 rfl dX5_readWhole_33 ?_
      refine lv_iload_n hx hb dX5_readWhole_36 rfl (lv_at hl 2 rfl) ?_
      refine lv_icmp_lt (tgt := 49) hx hb dX5_readWhole_37 (by decide) (fun c5 => ?_) (fun c5 => ?_)
      · have hm := (if_pos c5).symm.trans hm
        refine lv_aload_n hx hb dX5_readWhole_49 rfl (lv_at hl 0 rfl) ?_
        refine lv_iconst (v := 4) hx hb dX5_readWhole_50 (by decide) ?_
        obtain ⟨o6, ho6, hm⟩ := bd_s hm
        refine mx_callV (C := RX5) (T := TX5) (N := 15) (ci := 5) (n := 1) (As := [.int 4]) (rest := []) (st1 := [.int o6.1]) (w2 := [xO q_t 5 [.ref q_t_tape, v_t_names, v_t_nameLines, v_t_nameNumbers, v_t_filled, .int o6.2.1, .int o6.2.2, v_t_draft, v_t_named, .int t_end, .int o3.1, .int o3.2.1, .int o3.2.2.1, .int o3.2.2.2.1, .long o3.2.2.2.2], xB G q_t_tape 900 t_tape]) X hW hl.1 (c_X5_fail l G q_t (.ref q_t_tape) (v_t_names) (v_t_nameLines) (v_t_nameNumbers) (v_t_filled) (v_t_draft) (v_t_named) (.int t_end) (.int o3.1) (.int o3.2.1) (.int o3.2.2.2.1) (.long o3.2.2.2.2) t_fault t_faultPlace o3.2.2.1 4 o6 ho6) 0 rfl rfl kw_227 kw_228 kw_229 kw_15 kw_230 (by decide +kernel) ⟨rfl, rfl⟩ ⟨by decide, by decide⟩ ⟨Nat.zero_le _, Nat.zero_le _⟩ [0] (by decide) rfl rfl rfl rfl rfl rfl (Nat.le_of_ble_eq_true rfl) rfl dX5_readWhole_51 (fun H locs hW => ?_)
        refine lv_if_eq (tgt := 61) hx hb dX5_readWhole_54 (by decide) (fun c7 => ?_) (fun c7 => ?_)
        · have hm := (if_pos c7).symm.trans hm
          refine lv_iconst (v := 0) hx hb dX5_readWhole_61 (by decide) ?_
          obtain rfl := Option.some.inj hm
          exact mx_zret X nb0 hW dX5_readWhole_62
        · have hm := (if_neg c7).symm.trans hm
          refine lv_iconst (v := 1) hx hb dX5_readWhole_57 (by decide) ?_
          refine lv_goto (tgt := 62) hx hb dX5_readWhole_58 (by decide) ?_
          obtain rfl := Option.some.inj hm
          exact mx_zret X nb1 hW dX5_readWhole_62
      · have hm := (if_neg c5).symm.trans hm
        refine lv_aload_n hx hb dX5_readWhole_40 rfl (lv_at hl 0 rfl) ?_
        refine mx_get (C := RX5) (T := TX5) (N := 15) (ci := 5) X hW 0 rfl rfl tbc_X5 13 (by decide) kw_210 rfl dX5_readWhole_41 ?_
        refine lv_iload hx hb dX5_readWhole_44 (lv_at hl 3 rfl) ?_
        refine lv_icmp_le (tgt := 57) hx hb dX5_readWhole_46 (by decide) (fun c8 => ?_) (fun c8 => ?_)
        · have hm := (if_pos c8).symm.trans hm
          refine lv_iconst (v := 1) hx hb dX5_readWhole_57 (by decide) ?_
          refine lv_goto (tgt := 62) hx hb dX5_readWhole_58 (by decide) ?_
          obtain rfl := Option.some.inj hm
          exact mx_zret X nb1 hW dX5_readWhole_62
        · have hm := (if_neg c8).symm.trans hm
          refine lv_aload_n hx hb dX5_readWhole_49 rfl (lv_at hl 0 rfl) ?_
          refine lv_iconst (v := 4) hx hb dX5_readWhole_50 (by decide) ?_
          obtain ⟨o9, ho9, hm⟩ := bd_s hm
          refine mx_callV (C := RX5) (T := TX5) (N := 15) (ci := 5) (n := 1) (As := [.int 4]) (rest := []) (st1 := [.int o9.1]) (w2 := [xO q_t 5 [.ref q_t_tape, v_t_names, v_t_nameLines, v_t_nameNumbers, v_t_filled, .int o9.2.1, .int o9.2.2, v_t_draft, v_t_named, .int t_end, .int o3.1, .int o3.2.1, .int o3.2.2.1, .int o3.2.2.2.1, .long o3.2.2.2.2], xB G q_t_tape 900 t_tape]) X hW hl.1 (c_X5_fail l G q_t (.ref q_t_tape) (v_t_names) (v_t_nameLines) (v_t_nameNumbers) (v_t_filled) (v_t_draft) (v_t_named) (.int t_end) (.int o3.1) (.int o3.2.1) (.int o3.2.2.2.1) (.long o3.2.2.2.2) t_fault t_faultPlace o3.2.2.1 4 o9 ho9) 0 rfl rfl kw_227 kw_228 kw_229 kw_15 kw_230 (by decide +kernel) ⟨rfl, rfl⟩ ⟨by decide, by decide⟩ ⟨Nat.zero_le _, Nat.zero_le _⟩ [0] (by decide) rfl rfl rfl rfl rfl rfl (Nat.le_of_ble_eq_true rfl) rfl dX5_readWhole_51 (fun H locs hW => ?_)
          refine lv_if_eq (tgt := 61) hx hb dX5_readWhole_54 (by decide) (fun c10 => ?_) (fun c10 => ?_)
          · have hm := (if_pos c10).symm.trans hm
            refine lv_iconst (v := 0) hx hb dX5_readWhole_61 (by decide) ?_
            obtain rfl := Option.some.inj hm
            exact mx_zret X nb0 hW dX5_readWhole_62
          · have hm := (if_neg c10).symm.trans hm
            refine lv_iconst (v := 1) hx hb dX5_readWhole_57 (by decide) ?_
            refine lv_goto (tgt := 62) hx hb dX5_readWhole_58 (by decide) ?_
            obtain rfl := Option.some.inj hm
            exact mx_zret X nb1 hW dX5_readWhole_62
    · have hm := (if_neg c4).symm.trans hm
      refine lv_aload_n hx hb dX5_readWhole_26 rfl (lv_at hl 0 rfl) ?_
      refine lv_iconst (v := 1) hx hb dX5_readWhole_27 (by decide) ?_
      obtain ⟨o11, ho11, hm⟩ := bd_s hm
      refine mx_callV (C := RX5) (T := TX5) (N := 15) (ci := 5) (n := 1) (As := [.int 1]) (rest := []) (st1 := [.int o11.1]) (w2 := [xO q_t 5 [.ref q_t_tape, v_t_names, v_t_nameLines, v_t_nameNumbers, v_t_filled, .int o11.2.1, .int o11.2.2, v_t_draft, v_t_named, .int t_end, .int o3.1, .int o3.2.1, .int o3.2.2.1, .int o3.2.2.2.1, .long o3.2.2.2.2], xB G q_t_tape 900 t_tape]) X hW hl.1 (c_X5_fail l G q_t (.ref q_t_tape) (v_t_names) (v_t_nameLines) (v_t_nameNumbers) (v_t_filled) (v_t_draft) (v_t_named) (.int t_end) (.int o3.1) (.int o3.2.1) (.int o3.2.2.2.1) (.long o3.2.2.2.2) t_fault t_faultPlace o3.2.2.1 1 o11 ho11) 0 rfl rfl kw_227 kw_228 kw_229 kw_15 kw_230 (by decide +kernel) ⟨rfl, rfl⟩ ⟨by decide, by decide⟩ ⟨Nat.zero_le _, Nat.zero_le _⟩ [0] (by decide) rfl rfl rfl rfl rfl rfl (Nat.le_of_ble_eq_true rfl) rfl dX5_readWhole_28 (fun H locs hW => ?_)
      obtain ⟨hg12, hm⟩ := gd_s hm
      obtain rfl := Option.some.inj hm
      exact mx_zret X (nbl_s hg12) hW dX5_readWhole_31
  · have hm := (if_pos c2).symm.trans hm
    refine lv_aload_n hx hb dX5_readWhole_8 rfl (lv_at hl 0 rfl) ?_
    refine lv_iconst (v := 1) hx hb dX5_readWhole_9 (by decide) ?_
    obtain ⟨o13, ho13, hm⟩ := bd_s hm
    refine mx_callV (C := RX5) (T := TX5) (N := 15) (ci := 5) (n := 1) (As := [.int 1]) (rest := []) (st1 := [.int o13.1]) (w2 := [xO q_t 5 [.ref q_t_tape, v_t_names, v_t_nameLines, v_t_nameNumbers, v_t_filled, .int o13.2.1, .int o13.2.2, v_t_draft, v_t_named, .int t_end, .int t_at, .int t_sort, .int t_place, .int t_value, .long t_code], xB G q_t_tape 900 t_tape]) X hW hl.1 (c_X5_fail l G q_t (.ref q_t_tape) (v_t_names) (v_t_nameLines) (v_t_nameNumbers) (v_t_filled) (v_t_draft) (v_t_named) (.int t_end) (.int t_at) (.int t_sort) (.int t_value) (.long t_code) t_fault t_faultPlace t_place 1 o13 ho13) 0 rfl rfl kw_227 kw_228 kw_229 kw_15 kw_230 (by decide +kernel) ⟨rfl, rfl⟩ ⟨by decide, by decide⟩ ⟨Nat.zero_le _, Nat.zero_le _⟩ [0] (by decide) rfl rfl rfl rfl rfl rfl (Nat.le_of_ble_eq_true rfl) rfl dX5_readWhole_10 (fun H locs hW => ?_)
    obtain ⟨hg14, hm⟩ := gd_s hm
    obtain rfl := Option.some.inj hm
    exact mx_zret X (nbl_s hg14) hW dX5_readWhole_13

abbrev rm_X5_readBoat : Room := { frames := 3, cells := 0, slots := 0, locals := 64 }
noncomputable def f_X5_readBoat (t_tape : Nat → Int32) (t_names : Nat → Int64) (t_nameLines : Nat → Int32) (t_nameNumbers : Nat → Int32) (t_fault : Int32) (t_faultPlace : Int32) (t_draft_boats : Int32) (t_draft_boatWide : Nat → Int32) (t_draft_boatDeep : Nat → Int32) (t_named : Int32) (t_end : Int32) (t_at : Int32) (t_sort : Int32) (t_place : Int32) (t_value : Int32) (t_code : Int64) : Option (Int32 × (Nat → Int64) × (Nat → Int32) × (Nat → Int32) × Int32 × Int32 × Int32 × (Nat → Int32) × (Nat → Int32) × Int32 × Int32 × Int32 × Int32 × Int32 × Int64) :=
  (f_X5_readNewName 5 t_draft_boats t_tape t_names t_nameLines t_nameNumbers t_fault t_faultPlace t_named t_end t_at t_sort t_place t_value t_code).bind fun o1 => (if o1.1 = 0 then
    some (0, o1.2.1, o1.2.2.1, o1.2.2.2.1, o1.2.2.2.2.1, o1.2.2.2.2.2.1, t_draft_boats, t_draft_boatWide, t_draft_boatDeep, o1.2.2.2.2.2.2.1, o1.2.2.2.2.2.2.2.1, o1.2.2.2.2.2.2.2.2.1, o1.2.2.2.2.2.2.2.2.2.1, o1.2.2.2.2.2.2.2.2.2.2.1, o1.2.2.2.2.2.2.2.2.2.2.2)
  else
    (f_X5_readWhole 2003395685 1 30 t_tape o1.2.2.2.2.1 o1.2.2.2.2.2.1 t_end o1.2.2.2.2.2.2.2.1 o1.2.2.2.2.2.2.2.2.1 o1.2.2.2.2.2.2.2.2.2.1 o1.2.2.2.2.2.2.2.2.2.2.1 o1.2.2.2.2.2.2.2.2.2.2.2).bind fun o3 => (if o3.1 = 0 then
      some (0, o1.2.1, o1.2.2.1, o1.2.2.2.1, o3.2.1, o3.2.2.1, t_draft_boats, t_draft_boatWide, t_draft_boatDeep, o1.2.2.2.2.2.2.1, o3.2.2.2.1, o3.2.2.2.2.1, o3.2.2.2.2.2.1, o3.2.2.2.2.2.2.1, o3.2.2.2.2.2.2.2)
    else
      gd (inb t_draft_boats 5) <| nm (upd t_draft_boatWide t_draft_boats.toNatClampNeg o3.2.2.2.2.2.2.1) fun r6 => (f_X5_next t_tape t_end o3.2.2.2.1 o3.2.2.2.2.1 o3.2.2.2.2.2.1 o3.2.2.2.2.2.2.1 o3.2.2.2.2.2.2.2).bind fun o7 => (f_X5_readWhole 1684366704 0 60 t_tape o3.2.1 o3.2.2.1 t_end o7.1 o7.2.1 o7.2.2.1 o7.2.2.2.1 o7.2.2.2.2).bind fun o8 => (if o8.1 = 0 then
        some (0, o1.2.1, o1.2.2.1, o1.2.2.2.1, o8.2.1, o8.2.2.1, t_draft_boats, r6, t_draft_boatDeep, o1.2.2.2.2.2.2.1, o8.2.2.2.1, o8.2.2.2.2.1, o8.2.2.2.2.2.1, o8.2.2.2.2.2.2.1, o8.2.2.2.2.2.2.2)
      else
        gd (inb t_draft_boats 5) <| nm (upd t_draft_boatDeep t_draft_boats.toNatClampNeg o8.2.2.2.2.2.2.1) fun r11 => (f_X5_next t_tape t_end o8.2.2.2.1 o8.2.2.2.2.1 o8.2.2.2.2.2.1 o8.2.2.2.2.2.2.1 o8.2.2.2.2.2.2.2).bind fun o12 => nm (t_draft_boats + 1) fun z13 => some (1, o1.2.1, o1.2.2.1, o1.2.2.2.1, o8.2.1, o8.2.2.1, z13, r6, r11, o1.2.2.2.2.2.2.1, o12.1, o12.2.1, o12.2.2.1, o12.2.2.2.1, o12.2.2.2.2))))
set_option maxHeartbeats 4000000 in
set_option maxRecDepth 100000 in
theorem c_X5_readBoat (l : Launch) (G : mx_G) (q_t : Nat) (q_t_tape : Nat) (q_t_names : Nat) (q_t_nameLines : Nat) (q_t_nameNumbers : Nat) (q_t_draft : Nat) (q_t_draft_boatWide : Nat) (q_t_draft_boatDeep : Nat) (v_t_filled : Value) (v_t_draft_flow : Value) (v_t_draft_tape : Value) (v_t_draft_reaches : Value) (v_t_draft_ropes : Value) (v_t_draft_hands : Value) (v_t_draft_muds : Value) (v_t_draft_loose : Value) (v_t_draft_kind : Value) (v_t_draft_wide : Value) (v_t_draft_bank : Value) (v_t_draft_mud : Value) (v_t_draft_ropeAt : Value) (v_t_draft_pulls : Value) (v_t_draft_bears : Value) (v_t_draft_strong : Value) (t_tape : Nat → Int32) (t_names : Nat → Int64) (t_nameLines : Nat → Int32) (t_nameNumbers : Nat → Int32) (t_fault : Int32) (t_faultPlace : Int32) (t_draft_boats : Int32) (t_draft_boatWide : Nat → Int32) (t_draft_boatDeep : Nat → Int32) (t_named : Int32) (t_end : Int32) (t_at : Int32) (t_sort : Int32) (t_place : Int32) (t_value : Int32) (t_code : Int64) (out : Int32 × (Nat → Int64) × (Nat → Int32) × (Nat → Int32) × Int32 × Int32 × Int32 × (Nat → Int32) × (Nat → Int32) × Int32 × Int32 × Int32 × Int32 × Int32 × Int64) (hm : f_X5_readBoat t_tape t_names t_nameLines t_nameNumbers t_fault t_faultPlace t_draft_boats t_draft_boatWide t_draft_boatDeep t_named t_end t_at t_sort t_place t_value t_code = some out) : mx_C l yX5_readBoat cX5_readBoat 2 (some .boolean) rm_X5_readBoat G [.ref q_t] [xO q_t 5 [.ref q_t_tape, .ref q_t_names, .ref q_t_nameLines, .ref q_t_nameNumbers, v_t_filled, .int t_fault, .int t_faultPlace, .ref q_t_draft, .int t_named, .int t_end, .int t_at, .int t_sort, .int t_place, .int t_value, .long t_code], xB G q_t_tape 900 t_tape, xJ G q_t_names 24 t_names, xI G q_t_nameLines 24 t_nameLines, xI G q_t_nameNumbers 24 t_nameNumbers, xO q_t_draft 6 [v_t_draft_flow, v_t_draft_tape, v_t_draft_reaches, v_t_draft_ropes, v_t_draft_hands, .int t_draft_boats, v_t_draft_muds, v_t_draft_loose, v_t_draft_kind, v_t_draft_wide, v_t_draft_bank, v_t_draft_mud, v_t_draft_ropeAt, v_t_draft_pulls, v_t_draft_bears, v_t_draft_strong, .ref q_t_draft_boatWide, .ref q_t_draft_boatDeep], xI G q_t_draft_boatWide 5 t_draft_boatWide, xI G q_t_draft_boatDeep 5 t_draft_boatDeep] (some (.int out.1)) [xO q_t 5 [.ref q_t_tape, .ref q_t_names, .ref q_t_nameLines, .ref q_t_nameNumbers, v_t_filled, .int out.2.2.2.2.1, .int out.2.2.2.2.2.1, .ref q_t_draft, .int out.2.2.2.2.2.2.2.2.2.1, .int t_end, .int out.2.2.2.2.2.2.2.2.2.2.1, .int out.2.2.2.2.2.2.2.2.2.2.2.1, .int out.2.2.2.2.2.2.2.2.2.2.2.2.1, .int out.2.2.2.2.2.2.2.2.2.2.2.2.2.1, .long out.2.2.2.2.2.2.2.2.2.2.2.2.2.2], xB G q_t_tape 900 t_tape, xJ G q_t_names 24 out.2.1, xI G q_t_nameLines 24 out.2.2.1, xI G q_t_nameNumbers 24 out.2.2.2.1, xO q_t_draft 6 [v_t_draft_flow, v_t_draft_tape, v_t_draft_reaches, v_t_draft_ropes, v_t_draft_hands, .int out.2.2.2.2.2.2.1, v_t_draft_muds, v_t_draft_loose, v_t_draft_kind, v_t_draft_wide, v_t_draft_bank, v_t_draft_mud, v_t_draft_ropeAt, v_t_draft_pulls, v_t_draft_bears, v_t_draft_strong, .ref q_t_draft_boatWide, .ref q_t_draft_boatDeep], xI G q_t_draft_boatWide 5 out.2.2.2.2.2.2.2.1, xI G q_t_draft_boatDeep 5 out.2.2.2.2.2.2.2.2.1] := by
  refine mx_enter (own := RX5) (name := "readBoat") (lv := [(0, .ref q_t)]) (by decide) rfl rfl (Nat.le_of_ble_eq_true rfl) rfl ?_
  intro p e s m args below meth c A ls X hW hl
  obtain ⟨hx, hb, hml, hown, hts, hKN, -⟩ := id X
  unfold f_X5_readBoat at hm
  refine lv_aload_n hx hb dX5_readBoat_0 rfl (lv_at hl 0 rfl) ?_
  refine mx_get (C := RX5) (T := TX5) (N := 15) (ci := 5) X hW 0 rfl rfl tbc_X5 7 (by decide) kw_64 rfl dX5_readBoat_1 ?_
  refine mx_get (C := RX6) (T := TX6) (N := 18) (ci := 6) X hW 5 rfl rfl tbc_X6 5 (by decide) kw_238 rfl dX5_readBoat_4 ?_
  refine lv_istore_n (lv' := [(1, .int t_draft_boats), (0, .ref q_t)]) hx hb dX5_readBoat_7 rfl hl (by decide) rfl (fun ls hl => ?_)
  refine lv_aload_n hx hb dX5_readBoat_8 rfl (lv_at hl 1 rfl) ?_
  refine lv_iconst (v := 5) hx hb dX5_readBoat_9 (by decide) ?_
  refine lv_iload_n hx hb dX5_readBoat_10 rfl (lv_at hl 0 rfl) ?_
  obtain ⟨o1, ho1, hm⟩ := bd_s hm
  refine mx_callV (C := RX5) (T := TX5) (N := 15) (ci := 5) (n := 2) (As := [.int 5, .int t_draft_boats]) (rest := []) (st1 := [.int o1.1]) (w2 := [xO q_t 5 [.ref q_t_tape, .ref q_t_names, .ref q_t_nameLines, .ref q_t_nameNumbers, v_t_filled, .int o1.2.2.2.2.1, .int o1.2.2.2.2.2.1, .ref q_t_draft, .int o1.2.2.2.2.2.2.1, .int t_end, .int o1.2.2.2.2.2.2.2.1, .int o1.2.2.2.2.2.2.2.2.1, .int o1.2.2.2.2.2.2.2.2.2.1, .int o1.2.2.2.2.2.2.2.2.2.2.1, .long o1.2.2.2.2.2.2.2.2.2.2.2], xB G q_t_tape 900 t_tape, xJ G q_t_names 24 o1.2.1, xI G q_t_nameLines 24 o1.2.2.1, xI G q_t_nameNumbers 24 o1.2.2.2.1, xO q_t_draft 6 [v_t_draft_flow, v_t_draft_tape, v_t_draft_reaches, v_t_draft_ropes, v_t_draft_hands, .int t_draft_boats, v_t_draft_muds, v_t_draft_loose, v_t_draft_kind, v_t_draft_wide, v_t_draft_bank, v_t_draft_mud, v_t_draft_ropeAt, v_t_draft_pulls, v_t_draft_bears, v_t_draft_strong, .ref q_t_draft_boatWide, .ref q_t_draft_boatDeep], xI G q_t_draft_boatWide 5 t_draft_boatWide, xI G q_t_draft_boatDeep 5 t_draft_boatDeep]) X hW hl.1 (c_X5_readNewName l G q_t q_t_tape q_t_names q_t_nameLines q_t_nameNumbers (v_t_filled) (.ref q_t_draft) t_tape t_names t_nameLines t_nameNumbers t_fault t_faultPlace t_named t_end t_at t_sort t_place t_value t_code 5 t_draft_boats o1 ho1) 0 rfl rfl kw_263 kw_264 kw_265 kw_15 kw_266 (by decide +kernel) ⟨rfl, rfl⟩ ⟨by decide, by decide⟩ ⟨Nat.zero_le _, Nat.zero_le _⟩ [0, 1, 2, 3, 4] (by decide) rfl rfl rfl rfl rfl rfl (Nat.le_of_ble_eq_true rfl) rfl dX5_readBoat_11 (fun H locs hW => ?_)
  refine lv_if_eq (tgt := 30) hx hb dX5_readBoat_14 (by decide) (fun c2 => ?_) (fun c2 => ?_)
  · have hm := (if_pos c2).symm.trans hm
    refine lv_iconst (v := 0) hx hb dX5_readBoat_30 (by decide) ?_
    obtain rfl := Option.some.inj hm
    exact mx_zret X nb0 hW dX5_readBoat_31
  · have hm := (if_neg c2).symm.trans hm
    refine lv_aload_n hx hb dX5_readBoat_17 rfl (lv_at hl 1 rfl) ?_
    refine lv_ldc2 (v := 2003395685) hx hb hown (hts _ kw_259) dX5_readBoat_18 ?_
    refine lv_iconst (v := 1) hx hb dX5_readBoat_21 (by decide) ?_
    refine lv_bipush (v := 30) hx hb dX5_readBoat_22 (by decide) ?_
    obtain ⟨o3, ho3, hm⟩ := bd_s hm
    refine mx_callV (C := RX5) (T := TX5) (N := 15) (ci := 5) (n := 3) (As := [.long 2003395685, .int 1, .int 30]) (rest := []) (st1 := [.int o3.1]) (w2 := [xO q_t 5 [.ref q_t_tape, .ref q_t_names, .ref q_t_nameLines, .ref q_t_nameNumbers, v_t_filled, .int o3.2.1, .int o3.2.2.1, .ref q_t_draft, .int o1.2.2.2.2.2.2.1, .int t_end, .int o3.2.2.2.1, .int o3.2.2.2.2.1, .int o3.2.2.2.2.2.1, .int o3.2.2.2.2.2.2.1, .long o3.2.2.2.2.2.2.2], xB G q_t_tape 900 t_tape, xJ G q_t_names 24 o1.2.1, xI G q_t_nameLines 24 o1.2.2.1, xI G q_t_nameNumbers 24 o1.2.2.2.1, xO q_t_draft 6 [v_t_draft_flow, v_t_draft_tape, v_t_draft_reaches, v_t_draft_ropes, v_t_draft_hands, .int t_draft_boats, v_t_draft_muds, v_t_draft_loose, v_t_draft_kind, v_t_draft_wide, v_t_draft_bank, v_t_draft_mud, v_t_draft_ropeAt, v_t_draft_pulls, v_t_draft_bears, v_t_draft_strong, .ref q_t_draft_boatWide, .ref q_t_draft_boatDeep], xI G q_t_draft_boatWide 5 t_draft_boatWide, xI G q_t_draft_boatDeep 5 t_draft_boatDeep]) X hW hl.1 (c_X5_readWhole l G q_t q_t_tape (.ref q_t_names) (.ref q_t_nameLines) (.ref q_t_nameNumbers) (v_t_filled) (.ref q_t_draft) (.int o1.2.2.2.2.2.2.1) t_tape o1.2.2.2.2.1 o1.2.2.2.2.2.1 t_end o1.2.2.2.2.2.2.2.1 o1.2.2.2.2.2.2.2.2.1 o1.2.2.2.2.2.2.2.2.2.1 o1.2.2.2.2.2.2.2.2.2.2.1 o1.2.2.2.2.2.2.2.2.2.2.2 2003395685 1 30 o3 ho3) 0 rfl rfl kw_246 kw_247 kw_248 kw_15 kw_249 (by decide +kernel) ⟨rfl, rfl⟩ ⟨by decide, by decide⟩ ⟨Nat.zero_le _, Nat.zero_le _⟩ [0, 1] (by decide) rfl rfl rfl rfl rfl rfl (Nat.le_of_ble_eq_true rfl) rfl dX5_readBoat_24 (fun H locs hW => ?_)
    refine lv_if_ne (tgt := 32) hx hb dX5_readBoat_27 (by decide) (fun c4 => ?_) (fun c4 => ?_)
    · have hm := (if_neg c4).symm.trans hm
      refine lv_aload_n hx hb dX5_readBoat_32 rfl (lv_at hl 1 rfl) ?_
      refine mx_get (C := RX5) (T := TX5) (N := 15) (ci := 5) X hW 0 rfl rfl tbc_X5 7 (by decide) kw_64 rfl dX5_readBoat_33 ?_
      refine mx_get (C := RX6) (T := TX6) (N := 18) (ci := 6) X hW 5 rfl rfl tbc_X6 16 (by decide) kw_314 rfl dX5_readBoat_36 ?_
      refine lv_iload_n hx hb dX5_readBoat_39 rfl (lv_at hl 0 rfl) ?_
      refine lv_aload_n hx hb dX5_readBoat_40 rfl (lv_at hl 1 rfl) ?_
      refine mx_get (C := RX5) (T := TX5) (N := 15) (ci := 5) X hW 0 rfl rfl tbc_X5 13 (by decide) kw_210 rfl dX5_readBoat_41 ?_
      obtain ⟨hg5, hm⟩ := gd_s hm
      refine mx_iast (w2 := [xO q_t 5 [.ref q_t_tape, .ref q_t_names, .ref q_t_nameLines, .ref q_t_nameNumbers, v_t_filled, .int o3.2.1, .int o3.2.2.1, .ref q_t_draft, .int o1.2.2.2.2.2.2.1, .int t_end, .int o3.2.2.2.1, .int o3.2.2.2.2.1, .int o3.2.2.2.2.2.1, .int o3.2.2.2.2.2.2.1, .long o3.2.2.2.2.2.2.2], xB G q_t_tape 900 t_tape, xJ G q_t_names 24 o1.2.1, xI G q_t_nameLines 24 o1.2.2.1, xI G q_t_nameNumbers 24 o1.2.2.2.1, xO q_t_draft 6 [v_t_draft_flow, v_t_draft_tape, v_t_draft_reaches, v_t_draft_ropes, v_t_draft_hands, .int t_draft_boats, v_t_draft_muds, v_t_draft_loose, v_t_draft_kind, v_t_draft_wide, v_t_draft_bank, v_t_draft_mud, v_t_draft_ropeAt, v_t_draft_pulls, v_t_draft_bears, v_t_draft_strong, .ref q_t_draft_boatWide, .ref q_t_draft_boatDeep], xI G q_t_draft_boatWide 5 (upd t_draft_boatWide t_draft_boats.toNatClampNeg o3.2.2.2.2.2.2.1), xI G q_t_draft_boatDeep 5 t_draft_boatDeep]) X hW 6 rfl (inb_s hg5) rfl dX5_readBoat_44 (fun H locs hW => ?_)
      obtain ⟨r6, er6⟩ : ∃ z, z = upd t_draft_boatWide t_draft_boats.toNatClampNeg o3.2.2.2.2.2.2.1 := ⟨_, rfl⟩
      have hm := nm_s er6 hm
      have hW : mx_W G s A [xO q_t 5 [.ref q_t_tape, .ref q_t_names, .ref q_t_nameLines, .ref q_t_nameNumbers, v_t_filled, .int o3.2.1, .int o3.2.2.1, .ref q_t_draft, .int o1.2.2.2.2.2.2.1, .int t_end, .int o3.2.2.2.1, .int o3.2.2.2.2.1, .int o3.2.2.2.2.2.1, .int o3.2.2.2.2.2.2.1, .long o3.2.2.2.2.2.2.2], xB G q_t_tape 900 t_tape, xJ G q_t_names 24 o1.2.1, xI G q_t_nameLines 24 o1.2.2.1, xI G q_t_nameNumbers 24 o1.2.2.2.1, xO q_t_draft 6 [v_t_draft_flow, v_t_draft_tape, v_t_draft_reaches, v_t_draft_ropes, v_t_draft_hands, .int t_draft_boats, v_t_draft_muds, v_t_draft_loose, v_t_draft_kind, v_t_draft_wide, v_t_draft_bank, v_t_draft_mud, v_t_draft_ropeAt, v_t_draft_pulls, v_t_draft_bears, v_t_draft_strong, .ref q_t_draft_boatWide, .ref q_t_draft_boatDeep], xI G q_t_draft_boatWide 5 r6, xI G q_t_draft_boatDeep 5 t_draft_boatDeep] H locs := by rw [er6]; exact hW
      refine lv_aload_n hx hb dX5_readBoat_45 rfl (lv_at hl 1 rfl) ?_
      obtain ⟨o7, ho7, hm⟩ := bd_s hm
      refine mx_callV (C := RX5) (T := TX5) (N := 15) (ci := 5) (n := 0) (As := []) (rest := []) (st1 := []) (w2 := [xO q_t 5 [.ref q_t_tape, .ref q_t_names, .ref q_t_nameLines, .ref q_t_nameNumbers, v_t_filled, .int o3.2.1, .int o3.2.2.1, .ref q_t_draft, .int o1.2.2.2.2.2.2.1, .int t_end, .int o7.1, .int o7.2.1, .int o7.2.2.1, .int o7.2.2.2.1, .long o7.2.2.2.2], xB G q_t_tape 900 t_tape, xJ G q_t_names 24 o1.2.1, xI G q_t_nameLines 24 o1.2.2.1, xI G q_t_nameNumbers 24 o1.2.2.2.1, xO q_t_draft 6 [v_t_draft_flow, v_t_draft_tape, v_t_draft_reaches, v_t_draft_ropes, v_t_draft_hands, .int t_draft_boats, v_t_draft_muds, v_t_draft_loose, v_t_draft_kind, v_t_draft_wide, v_t_draft_bank, v_t_draft_mud, v_t_draft_ropeAt, v_t_draft_pulls, v_t_draft_bears, v_t_draft_strong, .ref q_t_draft_boatWide, .ref q_t_draft_boatDeep], xI G q_t_draft_boatWide 5 r6, xI G q_t_draft_boatDeep 5 t_draft_boatDeep]) X hW hl.1 (c_X5_next l G q_t q_t_tape (.ref q_t_names) (.ref q_t_nameLines) (.ref q_t_nameNumbers) (v_t_filled) (.int o3.2.1) (.int o3.2.2.1) (.ref q_t_draft) (.int o1.2.2.2.2.2.2.1) t_tape t_end o3.2.2.2.1 o3.2.2.2.2.1 o3.2.2.2.2.2.1 o3.2.2.2.2.2.2.1 o3.2.2.2.2.2.2.2 o7 ho7) 0 rfl rfl kw_196 kw_197 kw_198 kw_15 kw_199 (by decide +kernel) ⟨rfl, rfl⟩ ⟨by decide, by decide⟩ ⟨Nat.zero_le _, Nat.zero_le _⟩ [0, 1] (by decide) rfl rfl rfl rfl rfl rfl (Nat.le_of_ble_eq_true rfl) rfl dX5_readBoat_46 (fun H locs hW => ?_)
      refine lv_aload_n hx hb dX5_readBoat_49 rfl (lv_at hl 1 rfl) ?_
      refine lv_ldc2 (v := 1684366704) hx hb hown (hts _ kw_315) dX5_readBoat_50 ?_
      refine lv_iconst (v := 0) hx hb dX5_readBoat_53 (by decide) ?_
      refine lv_bipush (v := 60) hx hb dX5_readBoat_54 (by decide) ?_
      obtain ⟨o8, ho8, hm⟩ := bd_s hm
      refine mx_callV (C := RX5) (T := TX5) (N := 15) (ci := 5) (n := 3) (As := [.long 1684366704, .int 0, .int 60]) (rest := []) (st1 := [.int o8.1]) (w2 := [xO q_t 5 [.ref q_t_tape, .ref q_t_names, .ref q_t_nameLines, .ref q_t_nameNumbers, v_t_filled, .int o8.2.1, .int o8.2.2.1, .ref q_t_draft, .int o1.2.2.2.2.2.2.1, .int t_end, .int o8.2.2.2.1, .int o8.2.2.2.2.1, .int o8.2.2.2.2.2.1, .int o8.2.2.2.2.2.2.1, .long o8.2.2.2.2.2.2.2], xB G q_t_tape 900 t_tape, xJ G q_t_names 24 o1.2.1, xI G q_t_nameLines 24 o1.2.2.1, xI G q_t_nameNumbers 24 o1.2.2.2.1, xO q_t_draft 6 [v_t_draft_flow, v_t_draft_tape, v_t_draft_reaches, v_t_draft_ropes, v_t_draft_hands, .int t_draft_boats, v_t_draft_muds, v_t_draft_loose, v_t_draft_kind, v_t_draft_wide, v_t_draft_bank, v_t_draft_mud, v_t_draft_ropeAt, v_t_draft_pulls, v_t_draft_bears, v_t_draft_strong, .ref q_t_draft_boatWide, .ref q_t_draft_boatDeep], xI G q_t_draft_boatWide 5 r6, xI G q_t_draft_boatDeep 5 t_draft_boatDeep]) X hW hl.1 (c_X5_readWhole l G q_t q_t_tape (.ref q_t_names) (.ref q_t_nameLines) (.ref q_t_nameNumbers) (v_t_filled) (.ref q_t_draft) (.int o1.2.2.2.2.2.2.1) t_tape o3.2.1 o3.2.2.1 t_end o7.1 o7.2.1 o7.2.2.1 o7.2.2.2.1 o7.2.2.2.2 1684366704 0 60 o8 ho8) 0 rfl rfl kw_246 kw_247 kw_248 kw_15 kw_249 (by decide +kernel) ⟨rfl, rfl⟩ ⟨by decide, by decide⟩ ⟨Nat.zero_le _, Nat.zero_le _⟩ [0, 1] (by decide) rfl rfl rfl rfl rfl rfl (Nat.le_of_ble_eq_true rfl) rfl dX5_readBoat_56 (fun H locs hW => ?_)
      refine lv_if_ne (tgt := 64) hx hb dX5_readBoat_59 (by decide) (fun c9 => ?_) (fun c9 => ?_)
      · have hm := (if_neg c9).symm.trans hm
        refine lv_aload_n hx hb dX5_readBoat_64 rfl (lv_at hl 1 rfl) ?_
        refine mx_get (C := RX5) (T := TX5) (N := 15) (ci := 5) X hW 0 rfl rfl tbc_X5 7 (by decide) kw_64 rfl dX5_readBoat_65 ?_
        refine mx_get (C := RX6) (T := TX6) (N := 18) (ci := 6) X hW 5 rfl rfl tbc_X6 17 (by decide) kw_316 rfl dX5_readBoat_68 ?_
        refine lv_iload_n hx hb dX5_readBoat_71 rfl (lv_at hl 0 rfl) ?_
        refine lv_aload_n hx hb dX5_readBoat_72 rfl (lv_at hl 1 rfl) ?_
        refine mx_get (C := RX5) (T := TX5) (N := 15) (ci := 5) X hW 0 rfl rfl tbc_X5 13 (by decide) kw_210 rfl dX5_readBoat_73 ?_
        obtain ⟨hg10, hm⟩ := gd_s hm
        refine mx_iast (w2 := [xO q_t 5 [.ref q_t_tape, .ref q_t_names, .ref q_t_nameLines, .ref q_t_nameNumbers, v_t_filled, .int o8.2.1, .int o8.2.2.1, .ref q_t_draft, .int o1.2.2.2.2.2.2.1, .int t_end, .int o8.2.2.2.1, .int o8.2.2.2.2.1, .int o8.2.2.2.2.2.1, .int o8.2.2.2.2.2.2.1, .long o8.2.2.2.2.2.2.2], xB G q_t_tape 900 t_tape, xJ G q_t_names 24 o1.2.1, xI G q_t_nameLines 24 o1.2.2.1, xI G q_t_nameNumbers 24 o1.2.2.2.1, xO q_t_draft 6 [v_t_draft_flow, v_t_draft_tape, v_t_draft_reaches, v_t_draft_ropes, v_t_draft_hands, .int t_draft_boats, v_t_draft_muds, v_t_draft_loose, v_t_draft_kind, v_t_draft_wide, v_t_draft_bank, v_t_draft_mud, v_t_draft_ropeAt, v_t_draft_pulls, v_t_draft_bears, v_t_draft_strong, .ref q_t_draft_boatWide, .ref q_t_draft_boatDeep], xI G q_t_draft_boatWide 5 r6, xI G q_t_draft_boatDeep 5 (upd t_draft_boatDeep t_draft_boats.toNatClampNeg o8.2.2.2.2.2.2.1)]) X hW 7 rfl (inb_s hg10) rfl dX5_readBoat_76 (fun H locs hW => ?_)
        obtain ⟨r11, er11⟩ : ∃ z, z = upd t_draft_boatDeep t_draft_boats.toNatClampNeg o8.2.2.2.2.2.2.1 := ⟨_, rfl⟩
        have hm := nm_s er11 hm
        have hW : mx_W G s A [xO q_t 5 [.ref q_t_tape, .ref q_t_names, .ref q_t_nameLines, .ref q_t_nameNumbers, v_t_filled, .int o8.2.1, .int o8.2.2.1, .ref q_t_draft, .int o1.2.2.2.2.2.2.1, .int t_end, .int o8.2.2.2.1, .int o8.2.2.2.2.1, .int o8.2.2.2.2.2.1, .int o8.2.2.2.2.2.2.1, .long o8.2.2.2.2.2.2.2], xB G q_t_tape 900 t_tape, xJ G q_t_names 24 o1.2.1, xI G q_t_nameLines 24 o1.2.2.1, xI G q_t_nameNumbers 24 o1.2.2.2.1, xO q_t_draft 6 [v_t_draft_flow, v_t_draft_tape, v_t_draft_reaches, v_t_draft_ropes, v_t_draft_hands, .int t_draft_boats, v_t_draft_muds, v_t_draft_loose, v_t_draft_kind, v_t_draft_wide, v_t_draft_bank, v_t_draft_mud, v_t_draft_ropeAt, v_t_draft_pulls, v_t_draft_bears, v_t_draft_strong, .ref q_t_draft_boatWide, .ref q_t_draft_boatDeep], xI G q_t_draft_boatWide 5 r6, xI G q_t_draft_boatDeep 5 r11] H locs := by rw [er11]; exact hW
        refine lv_aload_n hx hb dX5_readBoat_77 rfl (lv_at hl 1 rfl) ?_
        obtain ⟨o12, ho12, hm⟩ := bd_s hm
        refine mx_callV (C := RX5) (T := TX5) (N := 15) (ci := 5) (n := 0) (As := []) (rest := []) (st1 := []) (w2 := [xO q_t 5 [.ref q_t_tape, .ref q_t_names, .ref q_t_nameLines, .ref q_t_nameNumbers, v_t_filled, .int o8.2.1, .int o8.2.2.1, .ref q_t_draft, .int o1.2.2.2.2.2.2.1, .int t_end, .int o12.1, .int o12.2.1, .int o12.2.2.1, .int o12.2.2.2.1, .long o12.2.2.2.2], xB G q_t_tape 900 t_tape, xJ G q_t_names 24 o1.2.1, xI G q_t_nameLines 24 o1.2.2.1, xI G q_t_nameNumbers 24 o1.2.2.2.1, xO q_t_draft 6 [v_t_draft_flow, v_t_draft_tape, v_t_draft_reaches, v_t_draft_ropes, v_t_draft_hands, .int t_draft_boats, v_t_draft_muds, v_t_draft_loose, v_t_draft_kind, v_t_draft_wide, v_t_draft_bank, v_t_draft_mud, v_t_draft_ropeAt, v_t_draft_pulls, v_t_draft_bears, v_t_draft_strong, .ref q_t_draft_boatWide, .ref q_t_draft_boatDeep], xI G q_t_draft_boatWide 5 r6, xI G q_t_draft_boatDeep 5 r11]) X hW hl.1 (c_X5_next l G q_t q_t_tape (.ref q_t_names) (.ref q_t_nameLines) (.ref q_t_nameNumbers) (v_t_filled) (.int o8.2.1) (.int o8.2.2.1) (.ref q_t_draft) (.int o1.2.2.2.2.2.2.1) t_tape t_end o8.2.2.2.1 o8.2.2.2.2.1 o8.2.2.2.2.2.1 o8.2.2.2.2.2.2.1 o8.2.2.2.2.2.2.2 o12 ho12) 0 rfl rfl kw_196 kw_197 kw_198 kw_15 kw_199 (by decide +kernel) ⟨rfl, rfl⟩ ⟨by decide, by decide⟩ ⟨Nat.zero_le _, Nat.zero_le _⟩ [0, 1] (by decide) rfl rfl rfl rfl rfl rfl (Nat.le_of_ble_eq_true rfl) rfl dX5_readBoat_78 (fun H locs hW => ?_)
        refine lv_aload_n hx hb dX5_readBoat_81 rfl (lv_at hl 1 rfl) ?_
        refine mx_get (C := RX5) (T := TX5) (N := 15) (ci := 5) X hW 0 rfl rfl tbc_X5 7 (by decide) kw_64 rfl dX5_readBoat_82 ?_
        refine lv_dup hx hb dX5_readBoat_85 rfl ?_
        refine mx_get (C := RX6) (T := TX6) (N := 18) (ci := 6) X hW 5 rfl rfl tbc_X6 5 (by decide) kw_238 rfl dX5_readBoat_86 ?_
        refine lv_iconst (v := 1) hx hb dX5_readBoat_89 (by decide) ?_
        refine lv_iadd hx hb dX5_readBoat_90 ?_
        refine lv_topi (fun z13 ez13 => ?_)
        have hm := nm_s ez13 hm
        refine mx_put (C := RX6) (T := TX6) (N := 18) (ci := 6) (w2 := [xO q_t 5 [.ref q_t_tape, .ref q_t_names, .ref q_t_nameLines, .ref q_t_nameNumbers, v_t_filled, .int o8.2.1, .int o8.2.2.1, .ref q_t_draft, .int o1.2.2.2.2.2.2.1, .int t_end, .int o12.1, .int o12.2.1, .int o12.2.2.1, .int o12.2.2.2.1, .long o12.2.2.2.2], xB G q_t_tape 900 t_tape, xJ G q_t_names 24 o1.2.1, xI G q_t_nameLines 24 o1.2.2.1, xI G q_t_nameNumbers 24 o1.2.2.2.1, xO q_t_draft 6 [v_t_draft_flow, v_t_draft_tape, v_t_draft_reaches, v_t_draft_ropes, v_t_draft_hands, .int z13, v_t_draft_muds, v_t_draft_loose, v_t_draft_kind, v_t_draft_wide, v_t_draft_bank, v_t_draft_mud, v_t_draft_ropeAt, v_t_draft_pulls, v_t_draft_bears, v_t_draft_strong, .ref q_t_draft_boatWide, .ref q_t_draft_boatDeep], xI G q_t_draft_boatWide 5 r6, xI G q_t_draft_boatDeep 5 r11]) X hW 5 rfl rfl tbc_X6 tyX6 tyX6_ok nmX6 5 (by decide) kw_238 rfl rfl rfl rfl (Nat.le_of_ble_eq_true rfl) rfl dX5_readBoat_91 (fun H locs hW => ?_)
        refine lv_iconst (v := 1) hx hb dX5_readBoat_94 (by decide) ?_
        obtain rfl := Option.some.inj hm
        exact mx_zret X nb1 hW dX5_readBoat_95
      · have hm := (if_pos c9).symm.trans hm
        refine lv_iconst (v := 0) hx hb dX5_readBoat_62 (by decide) ?_
        obtain rfl := Option.some.inj hm
        exact mx_zret X nb0 hW dX5_readBoat_63
    · have hm := (if_pos c4).symm.trans hm
      refine lv_iconst (v := 0) hx hb dX5_readBoat_30 (by decide) ?_
      obtain rfl := Option.some.inj hm
      exact mx_zret X nb0 hW dX5_readBoat_31

abbrev rm_X5_readHand : Room := { frames := 3, cells := 0, slots := 0, locals := 64 }
noncomputable def f_X5_readHand (t_tape : Nat → Int32) (t_names : Nat → Int64) (t_nameLines : Nat → Int32) (t_nameNumbers : Nat → Int32) (t_fault : Int32) (t_faultPlace : Int32) (t_draft_hands : Int32) (t_draft_strong : Nat → Int32) (t_named : Int32) (t_end : Int32) (t_at : Int32) (t_sort : Int32) (t_place : Int32) (t_value : Int32) (t_code : Int64) : Option (Int32 × (Nat → Int64) × (Nat → Int32) × (Nat → Int32) × Int32 × Int32 × Int32 × (Nat → Int32) × Int32 × Int32 × Int32 × Int32 × Int32 × Int64) :=
  (f_X5_readNewName 4 t_draft_hands t_tape t_names t_nameLines t_nameNumbers t_fault t_faultPlace t_named t_end t_at t_sort t_place t_value t_code).bind fun o1 => (if o1.1 = 0 then
    some (0, o1.2.1, o1.2.2.1, o1.2.2.2.1, o1.2.2.2.2.1, o1.2.2.2.2.2.1, t_draft_hands, t_draft_strong, o1.2.2.2.2.2.2.1, o1.2.2.2.2.2.2.2.1, o1.2.2.2.2.2.2.2.2.1, o1.2.2.2.2.2.2.2.2.2.1, o1.2.2.2.2.2.2.2.2.2.2.1, o1.2.2.2.2.2.2.2.2.2.2.2)
  else
    (f_X5_readWhole 126943973305959 1 99 t_tape o1.2.2.2.2.1 o1.2.2.2.2.2.1 t_end o1.2.2.2.2.2.2.2.1 o1.2.2.2.2.2.2.2.2.1 o1.2.2.2.2.2.2.2.2.2.1 o1.2.2.2.2.2.2.2.2.2.2.1 o1.2.2.2.2.2.2.2.2.2.2.2).bind fun o3 => (if o3.1 = 0 then
      some (0, o1.2.1, o1.2.2.1, o1.2.2.2.1, o3.2.1, o3.2.2.1, t_draft_hands, t_draft_strong, o1.2.2.2.2.2.2.1, o3.2.2.2.1, o3.2.2.2.2.1, o3.2.2.2.2.2.1, o3.2.2.2.2.2.2.1, o3.2.2.2.2.2.2.2)
    else
      gd (inb t_draft_hands 6) <| nm (upd t_draft_strong t_draft_hands.toNatClampNeg o3.2.2.2.2.2.2.1) fun r6 => (f_X5_next t_tape t_end o3.2.2.2.1 o3.2.2.2.2.1 o3.2.2.2.2.2.1 o3.2.2.2.2.2.2.1 o3.2.2.2.2.2.2.2).bind fun o7 => nm (t_draft_hands + 1) fun z8 => some (1, o1.2.1, o1.2.2.1, o1.2.2.2.1, o3.2.1, o3.2.2.1, z8, r6, o1.2.2.2.2.2.2.1, o7.1, o7.2.1, o7.2.2.1, o7.2.2.2.1, o7.2.2.2.2)))
set_option maxHeartbeats 4000000 in
set_option maxRecDepth 100000 in
theorem c_X5_readHand (l : Launch) (G : mx_G) (q_t : Nat) (q_t_tape : Nat) (q_t_names : Nat) (q_t_nameLines : Nat) (q_t_nameNumbers : Nat) (q_t_draft : Nat) (q_t_draft_strong : Nat) (v_t_filled : Value) (v_t_draft_flow : Value) (v_t_draft_tape : Value) (v_t_draft_reaches : Value) (v_t_draft_ropes : Value) (v_t_draft_boats : Value) (v_t_draft_muds : Value) (v_t_draft_loose : Value) (v_t_draft_kind : Value) (v_t_draft_wide : Value) (v_t_draft_bank : Value) (v_t_draft_mud : Value) (v_t_draft_ropeAt : Value) (v_t_draft_pulls : Value) (v_t_draft_bears : Value) (v_t_draft_boatWide : Value) (v_t_draft_boatDeep : Value) (t_tape : Nat → Int32) (t_names : Nat → Int64) (t_nameLines : Nat → Int32) (t_nameNumbers : Nat → Int32) (t_fault : Int32) (t_faultPlace : Int32) (t_draft_hands : Int32) (t_draft_strong : Nat → Int32) (t_named : Int32) (t_end : Int32) (t_at : Int32) (t_sort : Int32) (t_place : Int32) (t_value : Int32) (t_code : Int64) (out : Int32 × (Nat → Int64) × (Nat → Int32) × (Nat → Int32) × Int32 × Int32 × Int32 × (Nat → Int32) × Int32 × Int32 × Int32 × Int32 × Int32 × Int64) (hm : f_X5_readHand t_tape t_names t_nameLines t_nameNumbers t_fault t_faultPlace t_draft_hands t_draft_strong t_named t_end t_at t_sort t_place t_value t_code = some out) : mx_C l yX5_readHand cX5_readHand 2 (some .boolean) rm_X5_readHand G [.ref q_t] [xO q_t 5 [.ref q_t_tape, .ref q_t_names, .ref q_t_nameLines, .ref q_t_nameNumbers, v_t_filled, .int t_fault, .int t_faultPlace, .ref q_t_draft, .int t_named, .int t_end, .int t_at, .int t_sort, .int t_place, .int t_value, .long t_code], xB G q_t_tape 900 t_tape, xJ G q_t_names 24 t_names, xI G q_t_nameLines 24 t_nameLines, xI G q_t_nameNumbers 24 t_nameNumbers, xO q_t_draft 6 [v_t_draft_flow, v_t_draft_tape, v_t_draft_reaches, v_t_draft_ropes, .int t_draft_hands, v_t_draft_boats, v_t_draft_muds, v_t_draft_loose, v_t_draft_kind, v_t_draft_wide, v_t_draft_bank, v_t_draft_mud, v_t_draft_ropeAt, v_t_draft_pulls, v_t_draft_bears, .ref q_t_draft_strong, v_t_draft_boatWide, v_t_draft_boatDeep], xI G q_t_draft_strong 6 t_draft_strong] (some (.int out.1)) [xO q_t 5 [.ref q_t_tape, .ref q_t_names, .ref q_t_nameLines, .ref q_t_nameNumbers, v_t_filled, .int out.2.2.2.2.1, .int out.2.2.2.2.2.1, .ref q_t_draft, .int out.2.2.2.2.2.2.2.2.1, .int t_end, .int out.2.2.2.2.2.2.2.2.2.1, .int out.2.2.2.2.2.2.2.2.2.2.1, .int out.2.2.2.2.2.2.2.2.2.2.2.1, .int out.2.2.2.2.2.2.2.2.2.2.2.2.1, .long out.2.2.2.2.2.2.2.2.2.2.2.2.2], xB G q_t_tape 900 t_tape, xJ G q_t_names 24 out.2.1, xI G q_t_nameLines 24 out.2.2.1, xI G q_t_nameNumbers 24 out.2.2.2.1, xO q_t_draft 6 [v_t_draft_flow, v_t_draft_tape, v_t_draft_reaches, v_t_draft_ropes, .int out.2.2.2.2.2.2.1, v_t_draft_boats, v_t_draft_muds, v_t_draft_loose, v_t_draft_kind, v_t_draft_wide, v_t_draft_bank, v_t_draft_mud, v_t_draft_ropeAt, v_t_draft_pulls, v_t_draft_bears, .ref q_t_draft_strong, v_t_draft_boatWide, v_t_draft_boatDeep], xI G q_t_draft_strong 6 out.2.2.2.2.2.2.2.1] := by
  refine mx_enter (own := RX5) (name := "readHand") (lv := [(0, .ref q_t)]) (by decide) rfl rfl (Nat.le_of_ble_eq_true rfl) rfl ?_
  intro p e s m args below meth c A ls X hW hl
  obtain ⟨hx, hb, hml, hown, hts, hKN, -⟩ := id X
  unfold f_X5_readHand at hm
  refine lv_aload_n hx hb dX5_readHand_0 rfl (lv_at hl 0 rfl) ?_
  refine mx_get (C := RX5) (T := TX5) (N := 15) (ci := 5) X hW 0 rfl rfl tbc_X5 7 (by decide) kw_64 rfl dX5_readHand_1 ?_
  refine mx_get (C := RX6) (T := TX6) (N := 18) (ci := 6) X hW 5 rfl rfl tbc_X6 4 (by decide) kw_237 rfl dX5_readHand_4 ?_
  refine lv_istore_n (lv' := [(1, .int t_draft_hands), (0, .ref q_t)]) hx hb dX5_readHand_7 rfl hl (by decide) rfl (fun ls hl => ?_)
  refine lv_aload_n hx hb dX5_readHand_8 rfl (lv_at hl 1 rfl) ?_
  refine lv_iconst (v := 4) hx hb dX5_readHand_9 (by decide) ?_
  refine lv_iload_n hx hb dX5_readHand_10 rfl (lv_at hl 0 rfl) ?_
  obtain ⟨o1, ho1, hm⟩ := bd_s hm
  refine mx_callV (C := RX5) (T := TX5) (N := 15) (ci := 5) (n := 2) (As := [.int 4, .int t_draft_hands]) (rest := []) (st1 := [.int o1.1]) (w2 := [xO q_t 5 [.ref q_t_tape, .ref q_t_names, .ref q_t_nameLines, .ref q_t_nameNumbers, v_t_filled, .int o1.2.2.2.2.1, .int o1.2.2.2.2.2.1, .ref q_t_draft, .int o1.2.2.2.2.2.2.1, .int t_end, .int o1.2.2.2.2.2.2.2.1, .int o1.2.2.2.2.2.2.2.2.1, .int o1.2.2.2.2.2.2.2.2.2.1, .int o1.2.2.2.2.2.2.2.2.2.2.1, .long o1.2.2.2.2.2.2.2.2.2.2.2], xB G q_t_tape 900 t_tape, xJ G q_t_names 24 o1.2.1, xI G q_t_nameLines 24 o1.2.2.1, xI G q_t_nameNumbers 24 o1.2.2.2.1, xO q_t_draft 6 [v_t_draft_flow, v_t_draft_tape, v_t_draft_reaches, v_t_draft_ropes, .int t_draft_hands, v_t_draft_boats, v_t_draft_muds, v_t_draft_loose, v_t_draft_kind, v_t_draft_wide, v_t_draft_bank, v_t_draft_mud, v_t_draft_ropeAt, v_t_draft_pulls, v_t_draft_bears, .ref q_t_draft_strong, v_t_draft_boatWide, v_t_draft_boatDeep], xI G q_t_draft_strong 6 t_draft_strong]) X hW hl.1 (c_X5_readNewName l G q_t q_t_tape q_t_names q_t_nameLines q_t_nameNumbers (v_t_filled) (.ref q_t_draft) t_tape t_names t_nameLines t_nameNumbers t_fault t_faultPlace t_named t_end t_at t_sort t_place t_value t_code 4 t_draft_hands o1 ho1) 0 rfl rfl kw_263 kw_264 kw_265 kw_15 kw_266 (by decide +kernel) ⟨rfl, rfl⟩ ⟨by decide, by decide⟩ ⟨Nat.zero_le _, Nat.zero_le _⟩ [0, 1, 2, 3, 4] (by decide) rfl rfl rfl rfl rfl rfl (Nat.le_of_ble_eq_true rfl) rfl dX5_readHand_11 (fun H locs hW => ?_)
  refine lv_if_eq (tgt := 30) hx hb dX5_readHand_14 (by decide) (fun c2 => ?_) (fun c2 => ?_)
  · have hm := (if_pos c2).symm.trans hm
    refine lv_iconst (v := 0) hx hb dX5_readHand_30 (by decide) ?_
    obtain rfl := Option.some.inj hm
    exact mx_zret X nb0 hW dX5_readHand_31
  · have hm := (if_neg c2).symm.trans hm
    refine lv_aload_n hx hb dX5_readHand_17 rfl (lv_at hl 1 rfl) ?_
    refine lv_ldc2 (v := 126943973305959) hx hb hown (hts _ kw_308) dX5_readHand_18 ?_
    refine lv_iconst (v := 1) hx hb dX5_readHand_21 (by decide) ?_
    refine lv_bipush (v := 99) hx hb dX5_readHand_22 (by decide) ?_
    obtain ⟨o3, ho3, hm⟩ := bd_s hm
    refine mx_callV (C := RX5) (T := TX5) (N := 15) (ci := 5) (n := 3) (As := [.long 126943973305959, .int 1, .int 99]) (rest := []) (st1 := [.int o3.1]) (w2 := [xO q_t 5 [.ref q_t_tape, .ref q_t_names, .ref q_t_nameLines, .ref q_t_nameNumbers, v_t_filled, .int o3.2.1, .int o3.2.2.1, .ref q_t_draft, .int o1.2.2.2.2.2.2.1, .int t_end, .int o3.2.2.2.1, .int o3.2.2.2.2.1, .int o3.2.2.2.2.2.1, .int o3.2.2.2.2.2.2.1, .long o3.2.2.2.2.2.2.2], xB G q_t_tape 900 t_tape, xJ G q_t_names 24 o1.2.1, xI G q_t_nameLines 24 o1.2.2.1, xI G q_t_nameNumbers 24 o1.2.2.2.1, xO q_t_draft 6 [v_t_draft_flow, v_t_draft_tape, v_t_draft_reaches, v_t_draft_ropes, .int t_draft_hands, v_t_draft_boats, v_t_draft_muds, v_t_draft_loose, v_t_draft_kind, v_t_draft_wide, v_t_draft_bank, v_t_draft_mud, v_t_draft_ropeAt, v_t_draft_pulls, v_t_draft_bears, .ref q_t_draft_strong, v_t_draft_boatWide, v_t_draft_boatDeep], xI G q_t_draft_strong 6 t_draft_strong]) X hW hl.1 (c_X5_readWhole l G q_t q_t_tape (.ref q_t_names) (.ref q_t_nameLines) (.ref q_t_nameNumbers) (v_t_filled) (.ref q_t_draft) (.int o1.2.2.2.2.2.2.1) t_tape o1.2.2.2.2.1 o1.2.2.2.2.2.1 t_end o1.2.2.2.2.2.2.2.1 o1.2.2.2.2.2.2.2.2.1 o1.2.2.2.2.2.2.2.2.2.1 o1.2.2.2.2.2.2.2.2.2.2.1 o1.2.2.2.2.2.2.2.2.2.2.2 126943973305959 1 99 o3 ho3) 0 rfl rfl kw_246 kw_247 kw_248 kw_15 kw_249 (by decide +kernel) ⟨rfl, rfl⟩ ⟨by decide, by decide⟩ ⟨Nat.zero_le _, Nat.zero_le _⟩ [0, 1] (by decide) rfl rfl rfl rfl rfl rfl (Nat.le_of_ble_eq_true rfl) rfl dX5_readHand_24 (fun H locs hW => ?_)
    refine lv_if_ne (tgt := 32) hx hb dX5_readHand_27 (by decide) (fun c4 => ?_) (fun c4 => ?_)
    · have hm := (if_neg c4).symm.trans hm
      refine lv_aload_n hx hb dX5_readHand_32 rfl (lv_at hl 1 rfl) ?_
      refine mx_get (C := RX5) (T := TX5) (N := 15) (ci := 5) X hW 0 rfl rfl tbc_X5 7 (by decide) kw_64 rfl dX5_readHand_33 ?_
      refine mx_get (C := RX6) (T := TX6) (N := 18) (ci := 6) X hW 5 rfl rfl tbc_X6 15 (by decide) kw_309 rfl dX5_readHand_36 ?_
      refine lv_iload_n hx hb dX5_readHand_39 rfl (lv_at hl 0 rfl) ?_
      refine lv_aload_n hx hb dX5_readHand_40 rfl (lv_at hl 1 rfl) ?_
      refine mx_get (C := RX5) (T := TX5) (N := 15) (ci := 5) X hW 0 rfl rfl tbc_X5 13 (by decide) kw_210 rfl dX5_readHand_41 ?_
      obtain ⟨hg5, hm⟩ := gd_s hm
      refine mx_iast (w2 := [xO q_t 5 [.ref q_t_tape, .ref q_t_names, .ref q_t_nameLines, .ref q_t_nameNumbers, v_t_filled, .int o3.2.1, .int o3.2.2.1, .ref q_t_draft, .int o1.2.2.2.2.2.2.1, .int t_end, .int o3.2.2.2.1, .int o3.2.2.2.2.1, .int o3.2.2.2.2.2.1, .int o3.2.2.2.2.2.2.1, .long o3.2.2.2.2.2.2.2], xB G q_t_tape 900 t_tape, xJ G q_t_names 24 o1.2.1, xI G q_t_nameLines 24 o1.2.2.1, xI G q_t_nameNumbers 24 o1.2.2.2.1, xO q_t_draft 6 [v_t_draft_flow, v_t_draft_tape, v_t_draft_reaches, v_t_draft_ropes, .int t_draft_hands, v_t_draft_boats, v_t_draft_muds, v_t_draft_loose, v_t_draft_kind, v_t_draft_wide, v_t_draft_bank, v_t_draft_mud, v_t_draft_ropeAt, v_t_draft_pulls, v_t_draft_bears, .ref q_t_draft_strong, v_t_draft_boatWide, v_t_draft_boatDeep], xI G q_t_draft_strong 6 (upd t_draft_strong t_draft_hands.toNatClampNeg o3.2.2.2.2.2.2.1)]) X hW 6 rfl (inb_s hg5) rfl dX5_readHand_44 (fun H locs hW => ?_)
      obtain ⟨r6, er6⟩ : ∃ z, z = upd t_draft_strong t_draft_hands.toNatClampNeg o3.2.2.2.2.2.2.1 := ⟨_, rfl⟩
      have hm := nm_s er6 hm
      have hW : mx_W G s A [xO q_t 5 [.ref q_t_tape, .ref q_t_names, .ref q_t_nameLines, .ref q_t_nameNumbers, v_t_filled, .int o3.2.1, .int o3.2.2.1, .ref q_t_draft, .int o1.2.2.2.2.2.2.1, .int t_end, .int o3.2.2.2.1, .int o3.2.2.2.2.1, .int o3.2.2.2.2.2.1, .int o3.2.2.2.2.2.2.1, .long o3.2.2.2.2.2.2.2], xB G q_t_tape 900 t_tape, xJ G q_t_names 24 o1.2.1, xI G q_t_nameLines 24 o1.2.2.1, xI G q_t_nameNumbers 24 o1.2.2.2.1, xO q_t_draft 6 [v_t_draft_flow, v_t_draft_tape, v_t_draft_reaches, v_t_draft_ropes, .int t_draft_hands, v_t_draft_boats, v_t_draft_muds, v_t_draft_loose, v_t_draft_kind, v_t_draft_wide, v_t_draft_bank, v_t_draft_mud, v_t_draft_ropeAt, v_t_draft_pulls, v_t_draft_bears, .ref q_t_draft_strong, v_t_draft_boatWide, v_t_draft_boatDeep], xI G q_t_draft_strong 6 r6] H locs := by rw [er6]; exact hW
      refine lv_aload_n hx hb dX5_readHand_45 rfl (lv_at hl 1 rfl) ?_
      obtain ⟨o7, ho7, hm⟩ := bd_s hm
      refine mx_callV (C := RX5) (T := TX5) (N := 15) (ci := 5) (n := 0) (As := []) (rest := []) (st1 := []) (w2 := [xO q_t 5 [.ref q_t_tape, .ref q_t_names, .ref q_t_nameLines, .ref q_t_nameNumbers, v_t_filled, .int o3.2.1, .int o3.2.2.1, .ref q_t_draft, .int o1.2.2.2.2.2.2.1, .int t_end, .int o7.1, .int o7.2.1, .int o7.2.2.1, .int o7.2.2.2.1, .long o7.2.2.2.2], xB G q_t_tape 900 t_tape, xJ G q_t_names 24 o1.2.1, xI G q_t_nameLines 24 o1.2.2.1, xI G q_t_nameNumbers 24 o1.2.2.2.1, xO q_t_draft 6 [v_t_draft_flow, v_t_draft_tape, v_t_draft_reaches, v_t_draft_ropes, .int t_draft_hands, v_t_draft_boats, v_t_draft_muds, v_t_draft_loose, v_t_draft_kind, v_t_draft_wide, v_t_draft_bank, v_t_draft_mud, v_t_draft_ropeAt, v_t_draft_pulls, v_t_draft_bears, .ref q_t_draft_strong, v_t_draft_boatWide, v_t_draft_boatDeep], xI G q_t_draft_strong 6 r6]) X hW hl.1 (c_X5_next l G q_t q_t_tape (.ref q_t_names) (.ref q_t_nameLines) (.ref q_t_nameNumbers) (v_t_filled) (.int o3.2.1) (.int o3.2.2.1) (.ref q_t_draft) (.int o1.2.2.2.2.2.2.1) t_tape t_end o3.2.2.2.1 o3.2.2.2.2.1 o3.2.2.2.2.2.1 o3.2.2.2.2.2.2.1 o3.2.2.2.2.2.2.2 o7 ho7) 0 rfl rfl kw_196 kw_197 kw_198 kw_15 kw_199 (by decide +kernel) ⟨rfl, rfl⟩ ⟨by decide, by decide⟩ ⟨Nat.zero_le _, Nat.zero_le _⟩ [0, 1] (by decide) rfl rfl rfl rfl rfl rfl (Nat.le_of_ble_eq_true rfl) rfl dX5_readHand_46 (fun H locs hW => ?_)
      refine lv_aload_n hx hb dX5_readHand_49 rfl (lv_at hl 1 rfl) ?_
      refine mx_get (C := RX5) (T := TX5) (N := 15) (ci := 5) X hW 0 rfl rfl tbc_X5 7 (by decide) kw_64 rfl dX5_readHand_50 ?_
      refine lv_dup hx hb dX5_readHand_53 rfl ?_
      refine mx_get (C := RX6) (T := TX6) (N := 18) (ci := 6) X hW 5 rfl rfl tbc_X6 4 (by decide) kw_237 rfl dX5_readHand_54 ?_
      refine lv_iconst (v := 1) hx hb dX5_readHand_57 (by decide) ?_
      refine lv_iadd hx hb dX5_readHand_58 ?_
      refine lv_topi (fun z8 ez8 => ?_)
      have hm := nm_s ez8 hm
      refine mx_put (C := RX6) (T := TX6) (N := 18) (ci := 6) (w2 := [xO q_t 5 [.ref q_t_tape, .ref q_t_names, .ref q_t_nameLines, .ref q_t_nameNumbers, v_t_filled, .int o3.2.1, .int o3.2.2.1, .ref q_t_draft, .int o1.2.2.2.2.2.2.1, .int t_end, .int o7.1, .int o7.2.1, .int o7.2.2.1, .int o7.2.2.2.1, .long o7.2.2.2.2], xB G q_t_tape 900 t_tape, xJ G q_t_names 24 o1.2.1, xI G q_t_nameLines 24 o1.2.2.1, xI G q_t_nameNumbers 24 o1.2.2.2.1, xO q_t_draft 6 [v_t_draft_flow, v_t_draft_tape, v_t_draft_reaches, v_t_draft_ropes, .int z8, v_t_draft_boats, v_t_draft_muds, v_t_draft_loose, v_t_draft_kind, v_t_draft_wide, v_t_draft_bank, v_t_draft_mud, v_t_draft_ropeAt, v_t_draft_pulls, v_t_draft_bears, .ref q_t_draft_strong, v_t_draft_boatWide, v_t_draft_boatDeep], xI G q_t_draft_strong 6 r6]) X hW 5 rfl rfl tbc_X6 tyX6 tyX6_ok nmX6 4 (by decide) kw_237 rfl rfl rfl rfl (Nat.le_of_ble_eq_true rfl) rfl dX5_readHand_59 (fun H locs hW => ?_)
      refine lv_iconst (v := 1) hx hb dX5_readHand_62 (by decide) ?_
      obtain rfl := Option.some.inj hm
      exact mx_zret X nb1 hW dX5_readHand_63
    · have hm := (if_pos c4).symm.trans hm
      refine lv_iconst (v := 0) hx hb dX5_readHand_30 (by decide) ?_
      obtain rfl := Option.some.inj hm
      exact mx_zret X nb0 hW dX5_readHand_31

abbrev rm_X5_usedName : Room := { frames := 2, cells := 0, slots := 0, locals := 40 }
noncomputable def f_X5_usedName (p1 : Int32) (t_names : Nat → Int64) (t_nameLines : Nat → Int32) (t_nameNumbers : Nat → Int32) (t_fault : Int32) (t_faultPlace : Int32) (t_named : Int32) (t_sort : Int32) (t_place : Int32) (t_code : Int64) : Option (Int32 × Int32 × Int32) :=
  (f_X5_isName t_sort t_code).bind fun o1 => (if o1 = 0 then
    (f_X5_fail 1 t_fault t_faultPlace t_place).bind fun o10 => some ((-1), o10.2.1, o10.2.2)
  else
    (f_X5_nameIndex t_names t_named t_code).bind fun o3 => (if o3 = ((-1)) then
      (f_X5_fail 2 t_fault t_faultPlace t_place).bind fun o5 => some ((-1), o5.2.1, o5.2.2)
    else
      gd (inb o3 24) <| (if (t_nameLines o3.toNatClampNeg) = p1 then
        gd (inb o3 24) <| some (t_nameNumbers o3.toNatClampNeg, t_fault, t_faultPlace)
      else
        (f_X5_fail 2 t_fault t_faultPlace t_place).bind fun o9 => some ((-1), o9.2.1, o9.2.2))))
set_option maxHeartbeats 4000000 in
set_option maxRecDepth 100000 in
theorem c_X5_usedName (l : Launch) (G : mx_G) (q_t : Nat) (q_t_names : Nat) (q_t_nameLines : Nat) (q_t_nameNumbers : Nat) (v_t_tape : Value) (v_t_filled : Value) (v_t_draft : Value) (v_t_end : Value) (v_t_at : Value) (v_t_value : Value) (t_names : Nat → Int64) (t_nameLines : Nat → Int32) (t_nameNumbers : Nat → Int32) (t_fault : Int32) (t_faultPlace : Int32) (t_named : Int32) (t_sort : Int32) (t_place : Int32) (t_code : Int64) (p1 : Int32) (out : Int32 × Int32 × Int32) (hm : f_X5_usedName p1 t_names t_nameLines t_nameNumbers t_fault t_faultPlace t_named t_sort t_place t_code = some out) : mx_C l yX5_usedName cX5_usedName 3 (some .int) rm_X5_usedName G [.ref q_t, .int p1] [xO q_t 5 [v_t_tape, .ref q_t_names, .ref q_t_nameLines, .ref q_t_nameNumbers, v_t_filled, .int t_fault, .int t_faultPlace, v_t_draft, .int t_named, v_t_end, v_t_at, .int t_sort, .int t_place, v_t_value, .long t_code], xJ G q_t_names 24 t_names, xI G q_t_nameLines 24 t_nameLines, xI G q_t_nameNumbers 24 t_nameNumbers] (some (.int out.1)) [xO q_t 5 [v_t_tape, .ref q_t_names, .ref q_t_nameLines, .ref q_t_nameNumbers, v_t_filled, .int out.2.1, .int out.2.2, v_t_draft, .int t_named, v_t_end, v_t_at, .int t_sort, .int t_place, v_t_value, .long t_code], xJ G q_t_names 24 t_names, xI G q_t_nameLines 24 t_nameLines, xI G q_t_nameNumbers 24 t_nameNumbers] := by
  refine mx_enter (own := RX5) (name := "usedName") (lv := [(0, .ref q_t), (1, .int p1)]) (by decide) rfl rfl (Nat.le_of_ble_eq_true rfl) rfl ?_
  intro p e s m args below meth c A ls X hW hl
  obtain ⟨hx, hb, hml, hown, hts, hKN, -⟩ := id X
  unfold f_X5_usedName at hm
  refine lv_aload_n hx hb dX5_usedName_0 rfl (lv_at hl 0 rfl) ?_
  obtain ⟨o1, ho1, hm⟩ := bd_s hm
  refine mx_callV (C := RX5) (T := TX5) (N := 15) (ci := 5) (n := 0) (As := []) (rest := []) (st1 := [.int o1]) (w2 := [xO q_t 5 [v_t_tape, .ref q_t_names, .ref q_t_nameLines, .ref q_t_nameNumbers, v_t_filled, .int t_fault, .int t_faultPlace, v_t_draft, .int t_named, v_t_end, v_t_at, .int t_sort, .int t_place, v_t_value, .long t_code], xJ G q_t_names 24 t_names, xI G q_t_nameLines 24 t_nameLines, xI G q_t_nameNumbers 24 t_nameNumbers]) X hW hl.1 (c_X5_isName l G q_t (v_t_tape) (.ref q_t_names) (.ref q_t_nameLines) (.ref q_t_nameNumbers) (v_t_filled) (.int t_fault) (.int t_faultPlace) (v_t_draft) (.int t_named) (v_t_end) (v_t_at) (.int t_place) (v_t_value) t_sort t_code o1 ho1) 0 rfl rfl kw_267 kw_268 kw_269 kw_15 kw_270 (by decide +kernel) ⟨rfl, rfl⟩ ⟨by decide, by decide⟩ ⟨Nat.zero_le _, Nat.zero_le _⟩ [0] (by decide) rfl rfl rfl rfl rfl rfl (Nat.le_of_ble_eq_true rfl) rfl dX5_usedName_1 (fun H locs hW => ?_)
  refine lv_if_ne (tgt := 15) hx hb dX5_usedName_4 (by decide) (fun c2 => ?_) (fun c2 => ?_)
  · have hm := (if_neg c2).symm.trans hm
    refine lv_aload_n hx hb dX5_usedName_15 rfl (lv_at hl 0 rfl) ?_
    obtain ⟨o3, ho3, hm⟩ := bd_s hm
    refine mx_callV (C := RX5) (T := TX5) (N := 15) (ci := 5) (n := 0) (As := []) (rest := []) (st1 := [.int o3]) (w2 := [xO q_t 5 [v_t_tape, .ref q_t_names, .ref q_t_nameLines, .ref q_t_nameNumbers, v_t_filled, .int t_fault, .int t_faultPlace, v_t_draft, .int t_named, v_t_end, v_t_at, .int t_sort, .int t_place, v_t_value, .long t_code], xJ G q_t_names 24 t_names, xI G q_t_nameLines 24 t_nameLines, xI G q_t_nameNumbers 24 t_nameNumbers]) X hW hl.1 (c_X5_nameIndex l G q_t q_t_names (v_t_tape) (.ref q_t_nameLines) (.ref q_t_nameNumbers) (v_t_filled) (.int t_fault) (.int t_faultPlace) (v_t_draft) (v_t_end) (v_t_at) (.int t_sort) (.int t_place) (v_t_value) t_names t_named t_code o3 ho3) 0 rfl rfl kw_271 kw_272 kw_273 kw_15 kw_274 (by decide +kernel) ⟨rfl, rfl⟩ ⟨by decide, by decide⟩ ⟨Nat.zero_le _, Nat.zero_le _⟩ [0, 1] (by decide) rfl rfl rfl rfl rfl rfl (Nat.le_of_ble_eq_true rfl) rfl dX5_usedName_16 (fun H locs hW => ?_)
    refine lv_istore_n (lv' := [(2, .int o3), (0, .ref q_t), (1, .int p1)]) hx hb dX5_usedName_19 rfl hl (by decide) rfl (fun ls hl => ?_)
    refine lv_iload_n hx hb dX5_usedName_20 rfl (lv_at hl 0 rfl) ?_
    refine lv_iconst (v := (-1)) hx hb dX5_usedName_21 (by decide) ?_
    refine lv_icmp_eq (tgt := 35) hx hb dX5_usedName_22 (by decide) (fun c4 => ?_) (fun c4 => ?_)
    · have hm := (if_pos c4).symm.trans hm
      refine lv_aload_n hx hb dX5_usedName_35 rfl (lv_at hl 1 rfl) ?_
      refine lv_iconst (v := 2) hx hb dX5_usedName_36 (by decide) ?_
      obtain ⟨o5, ho5, hm⟩ := bd_s hm
      refine mx_callV (C := RX5) (T := TX5) (N := 15) (ci := 5) (n := 1) (As := [.int 2]) (rest := []) (st1 := [.int o5.1]) (w2 := [xO q_t 5 [v_t_tape, .ref q_t_names, .ref q_t_nameLines, .ref q_t_nameNumbers, v_t_filled, .int o5.2.1, .int o5.2.2, v_t_draft, .int t_named, v_t_end, v_t_at, .int t_sort, .int t_place, v_t_value, .long t_code], xJ G q_t_names 24 t_names, xI G q_t_nameLines 24 t_nameLines, xI G q_t_nameNumbers 24 t_nameNumbers]) X hW hl.1 (c_X5_fail l G q_t (v_t_tape) (.ref q_t_names) (.ref q_t_nameLines) (.ref q_t_nameNumbers) (v_t_filled) (v_t_draft) (.int t_named) (v_t_end) (v_t_at) (.int t_sort) (v_t_value) (.long t_code) t_fault t_faultPlace t_place 2 o5 ho5) 0 rfl rfl kw_227 kw_228 kw_229 kw_15 kw_230 (by decide +kernel) ⟨rfl, rfl⟩ ⟨by decide, by decide⟩ ⟨Nat.zero_le _, Nat.zero_le _⟩ [0] (by decide) rfl rfl rfl rfl rfl rfl (Nat.le_of_ble_eq_true rfl) rfl dX5_usedName_37 (fun H locs hW => ?_)
      refine lv_pop hx hb dX5_usedName_40 rfl ?_
      refine lv_iconst (v := (-1)) hx hb dX5_usedName_41 (by decide) ?_
      obtain rfl := Option.some.inj hm
      exact mx_iret X hW dX5_usedName_42
    · have hm := (if_neg c4).symm.trans hm
      refine lv_aload_n hx hb dX5_usedName_25 rfl (lv_at hl 1 rfl) ?_
      refine mx_get (C := RX5) (T := TX5) (N := 15) (ci := 5) X hW 0 rfl rfl tbc_X5 2 (by decide) kw_61 rfl dX5_usedName_26 ?_
      refine lv_iload_n hx hb dX5_usedName_29 rfl (lv_at hl 0 rfl) ?_
      obtain ⟨hg6, hm⟩ := gd_s hm
      refine mx_iald X hW 2 rfl (inb_s hg6) dX5_usedName_30 ?_
      refine lv_iload_n hx hb dX5_usedName_31 rfl (lv_at hl 2 rfl) ?_
      refine lv_icmp_eq (tgt := 43) hx hb dX5_usedName_32 (by decide) (fun c7 => ?_) (fun c7 => ?_)
      · have hm := (if_pos c7).symm.trans hm
        refine lv_aload_n hx hb dX5_usedName_43 rfl (lv_at hl 1 rfl) ?_
        refine mx_get (C := RX5) (T := TX5) (N := 15) (ci := 5) X hW 0 rfl rfl tbc_X5 3 (by decide) kw_62 rfl dX5_usedName_44 ?_
        refine lv_iload_n hx hb dX5_usedName_47 rfl (lv_at hl 0 rfl) ?_
        obtain ⟨hg8, hm⟩ := gd_s hm
        refine mx_iald X hW 3 rfl (inb_s hg8) dX5_usedName_48 ?_
        obtain rfl := Option.some.inj hm
        exact mx_iret X hW dX5_usedName_49
      · have hm := (if_neg c7).symm.trans hm
        refine lv_aload_n hx hb dX5_usedName_35 rfl (lv_at hl 1 rfl) ?_
        refine lv_iconst (v := 2) hx hb dX5_usedName_36 (by decide) ?_
        obtain ⟨o9, ho9, hm⟩ := bd_s hm
        refine mx_callV (C := RX5) (T := TX5) (N := 15) (ci := 5) (n := 1) (As := [.int 2]) (rest := []) (st1 := [.int o9.1]) (w2 := [xO q_t 5 [v_t_tape, .ref q_t_names, .ref q_t_nameLines, .ref q_t_nameNumbers, v_t_filled, .int o9.2.1, .int o9.2.2, v_t_draft, .int t_named, v_t_end, v_t_at, .int t_sort, .int t_place, v_t_value, .long t_code], xJ G q_t_names 24 t_names, xI G q_t_nameLines 24 t_nameLines, xI G q_t_nameNumbers 24 t_nameNumbers]) X hW hl.1 (c_X5_fail l G q_t (v_t_tape) (.ref q_t_names) (.ref q_t_nameLines) (.ref q_t_nameNumbers) (v_t_filled) (v_t_draft) (.int t_named) (v_t_end) (v_t_at) (.int t_sort) (v_t_value) (.long t_code) t_fault t_faultPlace t_place 2 o9 ho9) 0 rfl rfl kw_227 kw_228 kw_229 kw_15 kw_230 (by decide +kernel) ⟨rfl, rfl⟩ ⟨by decide, by decide⟩ ⟨Nat.zero_le _, Nat.zero_le _⟩ [0] (by decide) rfl rfl rfl rfl rfl rfl (Nat.le_of_ble_eq_true rfl) rfl dX5_usedName_37 (fun H locs hW => ?_)
        refine lv_pop hx hb dX5_usedName_40 rfl ?_
        refine lv_iconst (v := (-1)) hx hb dX5_usedName_41 (by decide) ?_
        obtain rfl := Option.some.inj hm
        exact mx_iret X hW dX5_usedName_42
  · have hm := (if_pos c2).symm.trans hm
    refine lv_aload_n hx hb dX5_usedName_7 rfl (lv_at hl 0 rfl) ?_
    refine lv_iconst (v := 1) hx hb dX5_usedName_8 (by decide) ?_
    obtain ⟨o10, ho10, hm⟩ := bd_s hm
    refine mx_callV (C := RX5) (T := TX5) (N := 15) (ci := 5) (n := 1) (As := [.int 1]) (rest := []) (st1 := [.int o10.1]) (w2 := [xO q_t 5 [v_t_tape, .ref q_t_names, .ref q_t_nameLines, .ref q_t_nameNumbers, v_t_filled, .int o10.2.1, .int o10.2.2, v_t_draft, .int t_named, v_t_end, v_t_at, .int t_sort, .int t_place, v_t_value, .long t_code], xJ G q_t_names 24 t_names, xI G q_t_nameLines 24 t_nameLines, xI G q_t_nameNumbers 24 t_nameNumbers]) X hW hl.1 (c_X5_fail l G q_t (v_t_tape) (.ref q_t_names) (.ref q_t_nameLines) (.ref q_t_nameNumbers) (v_t_filled) (v_t_draft) (.int t_named) (v_t_end) (v_t_at) (.int t_sort) (v_t_value) (.long t_code) t_fault t_faultPlace t_place 1 o10 ho10) 0 rfl rfl kw_227 kw_228 kw_229 kw_15 kw_230 (by decide +kernel) ⟨rfl, rfl⟩ ⟨by decide, by decide⟩ ⟨Nat.zero_le _, Nat.zero_le _⟩ [0] (by decide) rfl rfl rfl rfl rfl rfl (Nat.le_of_ble_eq_true rfl) rfl dX5_usedName_9 (fun H locs hW => ?_)
    refine lv_pop hx hb dX5_usedName_12 rfl ?_
    refine lv_iconst (v := (-1)) hx hb dX5_usedName_13 (by decide) ?_
    obtain rfl := Option.some.inj hm
    exact mx_iret X hW dX5_usedName_14

abbrev rm_X5_readLoose : Room := { frames := 3, cells := 0, slots := 0, locals := 62 }
noncomputable def f_X5_readLoose (t_tape : Nat → Int32) (t_names : Nat → Int64) (t_nameLines : Nat → Int32) (t_nameNumbers : Nat → Int32) (t_fault : Int32) (t_faultPlace : Int32) (t_draft_loose : Int32) (t_named : Int32) (t_end : Int32) (t_at : Int32) (t_sort : Int32) (t_place : Int32) (t_value : Int32) (t_code : Int64) : Option (Int32 × Int32 × Int32 × Int32 × Int32 × Int32 × Int32 × Int32 × Int64) :=
  (f_X5_usedName 2 t_names t_nameLines t_nameNumbers t_fault t_faultPlace t_named t_sort t_place t_code).bind fun o1 => (if o1.1 = ((-1)) then
    some (0, o1.2.1, o1.2.2, t_draft_loose, t_at, t_sort, t_place, t_value, t_code)
  else
    (f_X10_isIn t_draft_loose o1.1).bind fun o3 => (if o3 = 0 then
      nm (t_draft_loose ||| (1 <<< (o1.1 &&& 31))) fun z5 => (f_X5_next t_tape t_end t_at t_sort t_place t_value t_code).bind fun o6 => some (1, o1.2.1, o1.2.2, z5, o6.1, o6.2.1, o6.2.2.1, o6.2.2.2.1, o6.2.2.2.2)
    else
      (f_X5_fail 3 o1.2.1 o1.2.2 t_place).bind fun o7 => gd (nbl o7.1) <| some (o7.1, o7.2.1, o7.2.2, t_draft_loose, t_at, t_sort, t_place, t_value, t_code)))
set_option maxHeartbeats 4000000 in
set_option maxRecDepth 100000 in
theorem c_X5_readLoose (l : Launch) (G : mx_G) (q_t : Nat) (q_t_tape : Nat) (q_t_names : Nat) (q_t_nameLines : Nat) (q_t_nameNumbers : Nat) (q_t_draft : Nat) (v_t_filled : Value) (v_t_draft_flow : Value) (v_t_draft_tape : Value) (v_t_draft_reaches : Value) (v_t_draft_ropes : Value) (v_t_draft_hands : Value) (v_t_draft_boats : Value) (v_t_draft_muds : Value) (v_t_draft_kind : Value) (v_t_draft_wide : Value) (v_t_draft_bank : Value) (v_t_draft_mud : Value) (v_t_draft_ropeAt : Value) (v_t_draft_pulls : Value) (v_t_draft_bears : Value) (v_t_draft_strong : Value) (v_t_draft_boatWide : Value) (v_t_draft_boatDeep : Value) (t_tape : Nat → Int32) (t_names : Nat → Int64) (t_nameLines : Nat → Int32) (t_nameNumbers : Nat → Int32) (t_fault : Int32) (t_faultPlace : Int32) (t_draft_loose : Int32) (t_named : Int32) (t_end : Int32) (t_at : Int32) (t_sort : Int32) (t_place : Int32) (t_value : Int32) (t_code : Int64) (out : Int32 × Int32 × Int32 × Int32 × Int32 × Int32 × Int32 × Int32 × Int64) (hm : f_X5_readLoose t_tape t_names t_nameLines t_nameNumbers t_fault t_faultPlace t_draft_loose t_named t_end t_at t_sort t_place t_value t_code = some out) : mx_C l yX5_readLoose cX5_readLoose 2 (some .boolean) rm_X5_readLoose G [.ref q_t] [xO q_t 5 [.ref q_t_tape, .ref q_t_names, .ref q_t_nameLines, .ref q_t_nameNumbers, v_t_filled, .int t_fault, .int t_faultPlace, .ref q_t_draft, .int t_named, .int t_end, .int t_at, .int t_sort, .int t_place, .int t_value, .long t_code], xB G q_t_tape 900 t_tape, xJ G q_t_names 24 t_names, xI G q_t_nameLines 24 t_nameLines, xI G q_t_nameNumbers 24 t_nameNumbers, xO q_t_draft 6 [v_t_draft_flow, v_t_draft_tape, v_t_draft_reaches, v_t_draft_ropes, v_t_draft_hands, v_t_draft_boats, v_t_draft_muds, .int t_draft_loose, v_t_draft_kind, v_t_draft_wide, v_t_draft_bank, v_t_draft_mud, v_t_draft_ropeAt, v_t_draft_pulls, v_t_draft_bears, v_t_draft_strong, v_t_draft_boatWide, v_t_draft_boatDeep]] (some (.int out.1)) [xO q_t 5 [.ref q_t_tape, .ref q_t_names, .ref q_t_nameLines, .ref q_t_nameNumbers, v_t_filled, .int out.2.1, .int out.2.2.1, .ref q_t_draft, .int t_named, .int t_end, .int out.2.2.2.2.1, .int out.2.2.2.2.2.1, .int out.2.2.2.2.2.2.1, .int out.2.2.2.2.2.2.2.1, .long out.2.2.2.2.2.2.2.2], xB G q_t_tape 900 t_tape, xJ G q_t_names 24 t_names, xI G q_t_nameLines 24 t_nameLines, xI G q_t_nameNumbers 24 t_nameNumbers, xO q_t_draft 6 [v_t_draft_flow, v_t_draft_tape, v_t_draft_reaches, v_t_draft_ropes, v_t_draft_hands, v_t_draft_boats, v_t_draft_muds, .int out.2.2.2.1, v_t_draft_kind, v_t_draft_wide, v_t_draft_bank, v_t_draft_mud, v_t_draft_ropeAt, v_t_draft_pulls, v_t_draft_bears, v_t_draft_strong, v_t_draft_boatWide, v_t_draft_boatDeep]] := by
  refine mx_enter (own := RX5) (name := "readLoose") (lv := [(0, .ref q_t)]) (by decide) rfl rfl (Nat.le_of_ble_eq_true rfl) rfl ?_
  intro p e s m args below meth c A ls X hW hl
  obtain ⟨hx, hb, hml, hown, hts, hKN, -⟩ := id X
  unfold f_X5_readLoose at hm
  refine lv_aload_n hx hb dX5_readLoose_0 rfl (lv_at hl 0 rfl) ?_
  refine lv_iconst (v := 2) hx hb dX5_readLoose_1 (by decide) ?_
  obtain ⟨o1, ho1, hm⟩ := bd_s hm
  refine mx_callV (C := RX5) (T := TX5) (N := 15) (ci := 5) (n := 1) (As := [.int 2]) (rest := []) (st1 := [.int o1.1]) (w2 := [xO q_t 5 [.ref q_t_tape, .ref q_t_names, .ref q_t_nameLines, .ref q_t_nameNumbers, v_t_filled, .int o1.2.1, .int o1.2.2, .ref q_t_draft, .int t_named, .int t_end, .int t_at, .int t_sort, .int t_place, .int t_value, .long t_code], xB G q_t_tape 900 t_tape, xJ G q_t_names 24 t_names, xI G q_t_nameLines 24 t_nameLines, xI G q_t_nameNumbers 24 t_nameNumbers, xO q_t_draft 6 [v_t_draft_flow, v_t_draft_tape, v_t_draft_reaches, v_t_draft_ropes, v_t_draft_hands, v_t_draft_boats, v_t_draft_muds, .int t_draft_loose, v_t_draft_kind, v_t_draft_wide, v_t_draft_bank, v_t_draft_mud, v_t_draft_ropeAt, v_t_draft_pulls, v_t_draft_bears, v_t_draft_strong, v_t_draft_boatWide, v_t_draft_boatDeep]]) X hW hl.1 (c_X5_usedName l G q_t q_t_names q_t_nameLines q_t_nameNumbers (.ref q_t_tape) (v_t_filled) (.ref q_t_draft) (.int t_end) (.int t_at) (.int t_value) t_names t_nameLines t_nameNumbers t_fault t_faultPlace t_named t_sort t_place t_code 2 o1 ho1) 0 rfl rfl kw_293 kw_294 kw_295 kw_15 kw_296 (by decide +kernel) ⟨rfl, rfl⟩ ⟨by decide, by decide⟩ ⟨Nat.zero_le _, Nat.zero_le _⟩ [0, 2, 3, 4] (by decide) rfl rfl rfl rfl rfl rfl (Nat.le_of_ble_eq_true rfl) rfl dX5_readLoose_2 (fun H locs hW => ?_)
  refine lv_istore_n (lv' := [(1, .int o1.1), (0, .ref q_t)]) hx hb dX5_readLoose_5 rfl hl (by decide) rfl (fun ls hl => ?_)
  refine lv_iload_n hx hb dX5_readLoose_6 rfl (lv_at hl 0 rfl) ?_
  refine lv_iconst (v := (-1)) hx hb dX5_readLoose_7 (by decide) ?_
  refine lv_icmp_ne (tgt := 13) hx hb dX5_readLoose_8 (by decide) (fun c2 => ?_) (fun c2 => ?_)
  · have hm := (if_neg c2).symm.trans hm
    refine lv_aload_n hx hb dX5_readLoose_13 rfl (lv_at hl 1 rfl) ?_
    refine mx_get (C := RX5) (T := TX5) (N := 15) (ci := 5) X hW 0 rfl rfl tbc_X5 7 (by decide) kw_64 rfl dX5_readLoose_14 ?_
    refine mx_get (C := RX6) (T := TX6) (N := 18) (ci := 6) X hW 5 rfl rfl tbc_X6 7 (by decide) kw_301 rfl dX5_readLoose_17 ?_
    refine lv_iload_n hx hb dX5_readLoose_20 rfl (lv_at hl 0 rfl) ?_
    obtain ⟨o3, ho3, hm⟩ := bd_s hm
    refine mx_callSN (n := 2) (As := [.int t_draft_loose, .int o1.1]) (rest := []) (st1 := [.int o3]) (w2 := [xO q_t 5 [.ref q_t_tape, .ref q_t_names, .ref q_t_nameLines, .ref q_t_nameNumbers, v_t_filled, .int o1.2.1, .int o1.2.2, .ref q_t_draft, .int t_named, .int t_end, .int t_at, .int t_sort, .int t_place, .int t_value, .long t_code], xB G q_t_tape 900 t_tape, xJ G q_t_names 24 t_names, xI G q_t_nameLines 24 t_nameLines, xI G q_t_nameNumbers 24 t_nameNumbers, xO q_t_draft 6 [v_t_draft_flow, v_t_draft_tape, v_t_draft_reaches, v_t_draft_ropes, v_t_draft_hands, v_t_draft_boats, v_t_draft_muds, .int t_draft_loose, v_t_draft_kind, v_t_draft_wide, v_t_draft_bank, v_t_draft_mud, v_t_draft_ropeAt, v_t_draft_pulls, v_t_draft_bears, v_t_draft_strong, v_t_draft_boatWide, v_t_draft_boatDeep]]) X hW hl.1 (c_X10_isIn l G t_draft_loose o1.1 o3 ho3) kn_17 kw_302 kw_2 kw_303 (by decide +kernel) ⟨rfl, rfl⟩ ⟨by decide, by decide⟩ ⟨Nat.zero_le _, Nat.zero_le _⟩ [] (by decide) rfl rfl rfl rfl rfl rfl (Nat.le_of_ble_eq_true rfl) rfl dX5_readLoose_21 (fun H locs hW => ?_)
    refine lv_if_eq (tgt := 33) hx hb dX5_readLoose_24 (by decide) (fun c4 => ?_) (fun c4 => ?_)
    · have hm := (if_pos c4).symm.trans hm
      refine lv_aload_n hx hb dX5_readLoose_33 rfl (lv_at hl 1 rfl) ?_
      refine mx_get (C := RX5) (T := TX5) (N := 15) (ci := 5) X hW 0 rfl rfl tbc_X5 7 (by decide) kw_64 rfl dX5_readLoose_34 ?_
      refine lv_dup hx hb dX5_readLoose_37 rfl ?_
      refine mx_get (C := RX6) (T := TX6) (N := 18) (ci := 6) X hW 5 rfl rfl tbc_X6 7 (by decide) kw_301 rfl dX5_readLoose_38 ?_
      refine lv_iconst (v := 1) hx hb dX5_readLoose_41 (by decide) ?_
      refine lv_iload_n hx hb dX5_readLoose_42 rfl (lv_at hl 0 rfl) ?_
      refine lv_ishl hx hb dX5_readLoose_43 ?_
      refine lv_ior hx hb dX5_readLoose_44 ?_
      refine lv_topi (fun z5 ez5 => ?_)
      have hm := nm_s ez5 hm
      refine mx_put (C := RX6) (T := TX6) (N := 18) (ci := 6) (w2 := [xO q_t 5 [.ref q_t_tape, .ref q_t_names, .ref q_t_nameLines, .ref q_t_nameNumbers, v_t_filled, .int o1.2.1, .int o1.2.2, .ref q_t_draft, .int t_named, .int t_end, .int t_at, .int t_sort, .int t_place, .int t_value, .long t_code], xB G q_t_tape 900 t_tape, xJ G q_t_names 24 t_names, xI G q_t_nameLines 24 t_nameLines, xI G q_t_nameNumbers 24 t_nameNumbers, xO q_t_draft 6 [v_t_draft_flow, v_t_draft_tape, v_t_draft_reaches, v_t_draft_ropes, v_t_draft_hands, v_t_draft_boats, v_t_draft_muds, .int z5, v_t_draft_kind, v_t_draft_wide, v_t_draft_bank, v_t_draft_mud, v_t_draft_ropeAt, v_t_draft_pulls, v_t_draft_bears, v_t_draft_strong, v_t_draft_boatWide, v_t_draft_boatDeep]]) X hW 5 rfl rfl tbc_X6 tyX6 tyX6_ok nmX6 7 (by decide) kw_301 rfl rfl rfl rfl (Nat.le_of_ble_eq_true rfl) rfl dX5_readLoose_45 (fun H locs hW => ?_)
      refine lv_aload_n hx hb dX5_readLoose_48 rfl (lv_at hl 1 rfl) ?_
      obtain ⟨o6, ho6, hm⟩ := bd_s hm
      refine mx_callV (C := RX5) (T := TX5) (N := 15) (ci := 5) (n := 0) (As := []) (rest := []) (st1 := []) (w2 := [xO q_t 5 [.ref q_t_tape, .ref q_t_names, .ref q_t_nameLines, .ref q_t_nameNumbers, v_t_filled, .int o1.2.1, .int o1.2.2, .ref q_t_draft, .int t_named, .int t_end, .int o6.1, .int o6.2.1, .int o6.2.2.1, .int o6.2.2.2.1, .long o6.2.2.2.2], xB G q_t_tape 900 t_tape, xJ G q_t_names 24 t_names, xI G q_t_nameLines 24 t_nameLines, xI G q_t_nameNumbers 24 t_nameNumbers, xO q_t_draft 6 [v_t_draft_flow, v_t_draft_tape, v_t_draft_reaches, v_t_draft_ropes, v_t_draft_hands, v_t_draft_boats, v_t_draft_muds, .int z5, v_t_draft_kind, v_t_draft_wide, v_t_draft_bank, v_t_draft_mud, v_t_draft_ropeAt, v_t_draft_pulls, v_t_draft_bears, v_t_draft_strong, v_t_draft_boatWide, v_t_draft_boatDeep]]) X hW hl.1 (c_X5_next l G q_t q_t_tape (.ref q_t_names) (.ref q_t_nameLines) (.ref q_t_nameNumbers) (v_t_filled) (.int o1.2.1) (.int o1.2.2) (.ref q_t_draft) (.int t_named) t_tape t_end t_at t_sort t_place t_value t_code o6 ho6) 0 rfl rfl kw_196 kw_197 kw_198 kw_15 kw_199 (by decide +kernel) ⟨rfl, rfl⟩ ⟨by decide, by decide⟩ ⟨Nat.zero_le _, Nat.zero_le _⟩ [0, 1] (by decide) rfl rfl rfl rfl rfl rfl (Nat.le_of_ble_eq_true rfl) rfl dX5_readLoose_49 (fun H locs hW => ?_)
      refine lv_iconst (v := 1) hx hb dX5_readLoose_52 (by decide) ?_
      obtain rfl := Option.some.inj hm
      exact mx_zret X nb1 hW dX5_readLoose_53
    · have hm := (if_neg c4).symm.trans hm
      refine lv_aload_n hx hb dX5_readLoose_27 rfl (lv_at hl 1 rfl) ?_
      refine lv_iconst (v := 3) hx hb dX5_readLoose_28 (by decide) ?_
      obtain ⟨o7, ho7, hm⟩ := bd_s hm
      refine mx_callV (C := RX5) (T := TX5) (N := 15) (ci := 5) (n := 1) (As := [.int 3]) (rest := []) (st1 := [.int o7.1]) (w2 := [xO q_t 5 [.ref q_t_tape, .ref q_t_names, .ref q_t_nameLines, .ref q_t_nameNumbers, v_t_filled, .int o7.2.1, .int o7.2.2, .ref q_t_draft, .int t_named, .int t_end, .int t_at, .int t_sort, .int t_place, .int t_value, .long t_code], xB G q_t_tape 900 t_tape, xJ G q_t_names 24 t_names, xI G q_t_nameLines 24 t_nameLines, xI G q_t_nameNumbers 24 t_nameNumbers, xO q_t_draft 6 [v_t_draft_flow, v_t_draft_tape, v_t_draft_reaches, v_t_draft_ropes, v_t_draft_hands, v_t_draft_boats, v_t_draft_muds, .int t_draft_loose, v_t_draft_kind, v_t_draft_wide, v_t_draft_bank, v_t_draft_mud, v_t_draft_ropeAt, v_t_draft_pulls, v_t_draft_bears, v_t_draft_strong, v_t_draft_boatWide, v_t_draft_boatDeep]]) X hW hl.1 (c_X5_fail l G q_t (.ref q_t_tape) (.ref q_t_names) (.ref q_t_nameLines) (.ref q_t_nameNumbers) (v_t_filled) (.ref q_t_draft) (.int t_named) (.int t_end) (.int t_at) (.int t_sort) (.int t_value) (.long t_code) o1.2.1 o1.2.2 t_place 3 o7 ho7) 0 rfl rfl kw_227 kw_228 kw_229 kw_15 kw_230 (by decide +kernel) ⟨rfl, rfl⟩ ⟨by decide, by decide⟩ ⟨Nat.zero_le _, Nat.zero_le _⟩ [0] (by decide) rfl rfl rfl rfl rfl rfl (Nat.le_of_ble_eq_true rfl) rfl dX5_readLoose_29 (fun H locs hW => ?_)
      obtain ⟨hg8, hm⟩ := gd_s hm
      obtain rfl := Option.some.inj hm
      exact mx_zret X (nbl_s hg8) hW dX5_readLoose_32
  · have hm := (if_pos c2).symm.trans hm
    refine lv_iconst (v := 0) hx hb dX5_readLoose_11 (by decide) ?_
    obtain rfl := Option.some.inj hm
    exact mx_zret X nb0 hW dX5_readLoose_12

abbrev rm_X5_readMud : Room := { frames := 3, cells := 0, slots := 0, locals := 64 }
noncomputable def f_X5_readMud (t_tape : Nat → Int32) (t_names : Nat → Int64) (t_nameLines : Nat → Int32) (t_nameNumbers : Nat → Int32) (t_fault : Int32) (t_faultPlace : Int32) (t_draft_muds : Int32) (t_draft_mud : Nat → Int32) (t_named : Int32) (t_end : Int32) (t_at : Int32) (t_sort : Int32) (t_place : Int32) (t_value : Int32) (t_code : Int64) : Option (Int32 × Int32 × Int32 × Int32 × (Nat → Int32) × Int32 × Int32 × Int32 × Int32 × Int64) :=
  (f_X5_usedName 1 t_names t_nameLines t_nameNumbers t_fault t_faultPlace t_named t_sort t_place t_code).bind fun o1 => (if o1.1 = ((-1)) then
    some (0, o1.2.1, o1.2.2, t_draft_muds, t_draft_mud, t_at, t_sort, t_place, t_value, t_code)
  else
    gd (inb o1.1 6) <| (if (t_draft_mud o1.1.toNatClampNeg) = ((-1)) then
      (f_X5_next t_tape t_end t_at t_sort t_place t_value t_code).bind fun o5 => (f_X5_readWhole 1684366704 0 900 t_tape o1.2.1 o1.2.2 t_end o5.1 o5.2.1 o5.2.2.1 o5.2.2.2.1 o5.2.2.2.2).bind fun o6 => (if o6.1 = 0 then
        some (0, o6.2.1, o6.2.2.1, t_draft_muds, t_draft_mud, o6.2.2.2.1, o6.2.2.2.2.1, o6.2.2.2.2.2.1, o6.2.2.2.2.2.2.1, o6.2.2.2.2.2.2.2)
      else
        gd (inb o1.1 6) <| nm (upd t_draft_mud o1.1.toNatClampNeg o6.2.2.2.2.2.2.1) fun r9 => nm (t_draft_muds + 1) fun z10 => (f_X5_next t_tape t_end o6.2.2.2.1 o6.2.2.2.2.1 o6.2.2.2.2.2.1 o6.2.2.2.2.2.2.1 o6.2.2.2.2.2.2.2).bind fun o11 => some (1, o6.2.1, o6.2.2.1, z10, r9, o11.1, o11.2.1, o11.2.2.1, o11.2.2.2.1, o11.2.2.2.2))
    else
      (f_X5_fail 3 o1.2.1 o1.2.2 t_place).bind fun o12 => gd (nbl o12.1) <| some (o12.1, o12.2.1, o12.2.2, t_draft_muds, t_draft_mud, t_at, t_sort, t_place, t_value, t_code)))
set_option maxHeartbeats 4000000 in
set_option maxRecDepth 100000 in
theorem c_X5_readMud (l : Launch) (G : mx_G) (q_t : Nat) (q_t_tape : Nat) (q_t_names : Nat) (q_t_nameLines : Nat) (q_t_nameNumbers : Nat) (q_t_draft : Nat) (q_t_draft_mud : Nat) (v_t_filled : Value) (v_t_draft_flow : Value) (v_t_draft_tape : Value) (v_t_draft_reaches : Value) (v_t_draft_ropes : Value) (v_t_draft_hands : Value) (v_t_draft_boats : Value) (v_t_draft_loose : Value) (v_t_draft_kind : Value) (v_t_draft_wide : Value) (v_t_draft_bank : Value) (v_t_draft_ropeAt : Value) (v_t_draft_pulls : Value) (v_t_draft_bears : Value) (v_t_draft_strong : Value) (v_t_draft_boatWide : Value) (v_t_draft_boatDeep : Value) (t_tape : Nat → Int32) (t_names : Nat → Int64) (t_nameLines : Nat → Int32) (t_nameNumbers : Nat → Int32) (t_fault : Int32) (t_faultPlace : Int32) (t_draft_muds : Int32) (t_draft_mud : Nat → Int32) (t_named : Int32) (t_end : Int32) (t_at : Int32) (t_sort : Int32) (t_place : Int32) (t_value : Int32) (t_code : Int64) (out : Int32 × Int32 × Int32 × Int32 × (Nat → Int32) × Int32 × Int32 × Int32 × Int32 × Int64) (hm : f_X5_readMud t_tape t_names t_nameLines t_nameNumbers t_fault t_faultPlace t_draft_muds t_draft_mud t_named t_end t_at t_sort t_place t_value t_code = some out) : mx_C l yX5_readMud cX5_readMud 2 (some .boolean) rm_X5_readMud G [.ref q_t] [xO q_t 5 [.ref q_t_tape, .ref q_t_names, .ref q_t_nameLines, .ref q_t_nameNumbers, v_t_filled, .int t_fault, .int t_faultPlace, .ref q_t_draft, .int t_named, .int t_end, .int t_at, .int t_sort, .int t_place, .int t_value, .long t_code], xB G q_t_tape 900 t_tape, xJ G q_t_names 24 t_names, xI G q_t_nameLines 24 t_nameLines, xI G q_t_nameNumbers 24 t_nameNumbers, xO q_t_draft 6 [v_t_draft_flow, v_t_draft_tape, v_t_draft_reaches, v_t_draft_ropes, v_t_draft_hands, v_t_draft_boats, .int t_draft_muds, v_t_draft_loose, v_t_draft_kind, v_t_draft_wide, v_t_draft_bank, .ref q_t_draft_mud, v_t_draft_ropeAt, v_t_draft_pulls, v_t_draft_bears, v_t_draft_strong, v_t_draft_boatWide, v_t_draft_boatDeep], xI G q_t_draft_mud 6 t_draft_mud] (some (.int out.1)) [xO q_t 5 [.ref q_t_tape, .ref q_t_names, .ref q_t_nameLines, .ref q_t_nameNumbers, v_t_filled, .int out.2.1, .int out.2.2.1, .ref q_t_draft, .int t_named, .int t_end, .int out.2.2.2.2.2.1, .int out.2.2.2.2.2.2.1, .int out.2.2.2.2.2.2.2.1, .int out.2.2.2.2.2.2.2.2.1, .long out.2.2.2.2.2.2.2.2.2], xB G q_t_tape 900 t_tape, xJ G q_t_names 24 t_names, xI G q_t_nameLines 24 t_nameLines, xI G q_t_nameNumbers 24 t_nameNumbers, xO q_t_draft 6 [v_t_draft_flow, v_t_draft_tape, v_t_draft_reaches, v_t_draft_ropes, v_t_draft_hands, v_t_draft_boats, .int out.2.2.2.1, v_t_draft_loose, v_t_draft_kind, v_t_draft_wide, v_t_draft_bank, .ref q_t_draft_mud, v_t_draft_ropeAt, v_t_draft_pulls, v_t_draft_bears, v_t_draft_strong, v_t_draft_boatWide, v_t_draft_boatDeep], xI G q_t_draft_mud 6 out.2.2.2.2.1] := by
  refine mx_enter (own := RX5) (name := "readMud") (lv := [(0, .ref q_t)]) (by decide) rfl rfl (Nat.le_of_ble_eq_true rfl) rfl ?_
  intro p e s m args below meth c A ls X hW hl
  obtain ⟨hx, hb, hml, hown, hts, hKN, -⟩ := id X
  unfold f_X5_readMud at hm
  refine lv_aload_n hx hb dX5_readMud_0 rfl (lv_at hl 0 rfl) ?_
  refine lv_iconst (v := 1) hx hb dX5_readMud_1 (by decide) ?_
  obtain ⟨o1, ho1, hm⟩ := bd_s hm
  refine mx_callV (C := RX5) (T := TX5) (N := 15) (ci := 5) (n := 1) (As := [.int 1]) (rest := []) (st1 := [.int o1.1]) (w2 := [xO q_t 5 [.ref q_t_tape, .ref q_t_names, .ref q_t_nameLines, .ref q_t_nameNumbers, v_t_filled, .int o1.2.1, .int o1.2.2, .ref q_t_draft, .int t_named, .int t_end, .int t_at, .int t_sort, .int t_place, .int t_value, .long t_code], xB G q_t_tape 900 t_tape, xJ G q_t_names 24 t_names, xI G q_t_nameLines 24 t_nameLines, xI G q_t_nameNumbers 24 t_nameNumbers, xO q_t_draft 6 [v_t_draft_flow, v_t_draft_tape, v_t_draft_reaches, v_t_draft_ropes, v_t_draft_hands, v_t_draft_boats, .int t_draft_muds, v_t_draft_loose, v_t_draft_kind, v_t_draft_wide, v_t_draft_bank, .ref q_t_draft_mud, v_t_draft_ropeAt, v_t_draft_pulls, v_t_draft_bears, v_t_draft_strong, v_t_draft_boatWide, v_t_draft_boatDeep], xI G q_t_draft_mud 6 t_draft_mud]) X hW hl.1 (c_X5_usedName l G q_t q_t_names q_t_nameLines q_t_nameNumbers (.ref q_t_tape) (v_t_filled) (.ref q_t_draft) (.int t_end) (.int t_at) (.int t_value) t_names t_nameLines t_nameNumbers t_fault t_faultPlace t_named t_sort t_place t_code 1 o1 ho1) 0 rfl rfl kw_293 kw_294 kw_295 kw_15 kw_296 (by decide +kernel) ⟨rfl, rfl⟩ ⟨by decide, by decide⟩ ⟨Nat.zero_le _, Nat.zero_le _⟩ [0, 2, 3, 4] (by decide) rfl rfl rfl rfl rfl rfl (Nat.le_of_ble_eq_true rfl) rfl dX5_readMud_2 (fun H locs hW => ?_)
  refine lv_istore_n (lv' := [(1, .int o1.1), (0, .ref q_t)]) hx hb dX5_readMud_5 rfl hl (by decide) rfl (fun ls hl => ?_)
  refine lv_iload_n hx hb dX5_readMud_6 rfl (lv_at hl 0 rfl) ?_
  refine lv_iconst (v := (-1)) hx hb dX5_readMud_7 (by decide) ?_
  refine lv_icmp_ne (tgt := 13) hx hb dX5_readMud_8 (by decide) (fun c2 => ?_) (fun c2 => ?_)
  · have hm := (if_neg c2).symm.trans hm
    refine lv_aload_n hx hb dX5_readMud_13 rfl (lv_at hl 1 rfl) ?_
    refine mx_get (C := RX5) (T := TX5) (N := 15) (ci := 5) X hW 0 rfl rfl tbc_X5 7 (by decide) kw_64 rfl dX5_readMud_14 ?_
    refine mx_get (C := RX6) (T := TX6) (N := 18) (ci := 6) X hW 5 rfl rfl tbc_X6 11 (by decide) kw_321 rfl dX5_readMud_17 ?_
    refine lv_iload_n hx hb dX5_readMud_20 rfl (lv_at hl 0 rfl) ?_
    obtain ⟨hg3, hm⟩ := gd_s hm
    refine mx_iald X hW 6 rfl (inb_s hg3) dX5_readMud_21 ?_
    refine lv_iconst (v := (-1)) hx hb dX5_readMud_22 (by decide) ?_
    refine lv_icmp_eq (tgt := 32) hx hb dX5_readMud_23 (by decide) (fun c4 => ?_) (fun c4 => ?_)
    · have hm := (if_pos c4).symm.trans hm
      refine lv_aload_n hx hb dX5_readMud_32 rfl (lv_at hl 1 rfl) ?_
      obtain ⟨o5, ho5, hm⟩ := bd_s hm
      refine mx_callV (C := RX5) (T := TX5) (N := 15) (ci := 5) (n := 0) (As := []) (rest := []) (st1 := []) (w2 := [xO q_t 5 [.ref q_t_tape, .ref q_t_names, .ref q_t_nameLines, .ref q_t_nameNumbers, v_t_filled, .int o1.2.1, .int o1.2.2, .ref q_t_draft, .int t_named, .int t_end, .int o5.1, .int o5.2.1, .int o5.2.2.1, .int o5.2.2.2.1, .long o5.2.2.2.2], xB G q_t_tape 900 t_tape, xJ G q_t_names 24 t_names, xI G q_t_nameLines 24 t_nameLines, xI G q_t_nameNumbers 24 t_nameNumbers, xO q_t_draft 6 [v_t_draft_flow, v_t_draft_tape, v_t_draft_reaches, v_t_draft_ropes, v_t_draft_hands, v_t_draft_boats, .int t_draft_muds, v_t_draft_loose, v_t_draft_kind, v_t_draft_wide, v_t_draft_bank, .ref q_t_draft_mud, v_t_draft_ropeAt, v_t_draft_pulls, v_t_draft_bears, v_t_draft_strong, v_t_draft_boatWide, v_t_draft_boatDeep], xI G q_t_draft_mud 6 t_draft_mud]) X hW hl.1 (c_X5_next l G q_t q_t_tape (.ref q_t_names) (.ref q_t_nameLines) (.ref q_t_nameNumbers) (v_t_filled) (.int o1.2.1) (.int o1.2.2) (.ref q_t_draft) (.int t_named) t_tape t_end t_at t_sort t_place t_value t_code o5 ho5) 0 rfl rfl kw_196 kw_197 kw_198 kw_15 kw_199 (by decide +kernel) ⟨rfl, rfl⟩ ⟨by decide, by decide⟩ ⟨Nat.zero_le _, Nat.zero_le _⟩ [0, 1] (by decide) rfl rfl rfl rfl rfl rfl (Nat.le_of_ble_eq_true rfl) rfl dX5_readMud_33 (fun H locs hW => ?_)
      refine lv_aload_n hx hb dX5_readMud_36 rfl (lv_at hl 1 rfl) ?_
      refine lv_ldc2 (v := 1684366704) hx hb hown (hts _ kw_315) dX5_readMud_37 ?_
      refine lv_iconst (v := 0) hx hb dX5_readMud_40 (by decide) ?_
      refine lv_sipush (v := 900) hx hb dX5_readMud_41 (by decide) ?_
      obtain ⟨o6, ho6, hm⟩ := bd_s hm
      refine mx_callV (C := RX5) (T := TX5) (N := 15) (ci := 5) (n := 3) (As := [.long 1684366704, .int 0, .int 900]) (rest := []) (st1 := [.int o6.1]) (w2 := [xO q_t 5 [.ref q_t_tape, .ref q_t_names, .ref q_t_nameLines, .ref q_t_nameNumbers, v_t_filled, .int o6.2.1, .int o6.2.2.1, .ref q_t_draft, .int t_named, .int t_end, .int o6.2.2.2.1, .int o6.2.2.2.2.1, .int o6.2.2.2.2.2.1, .int o6.2.2.2.2.2.2.1, .long o6.2.2.2.2.2.2.2], xB G q_t_tape 900 t_tape, xJ G q_t_names 24 t_names, xI G q_t_nameLines 24 t_nameLines, xI G q_t_nameNumbers 24 t_nameNumbers, xO q_t_draft 6 [v_t_draft_flow, v_t_draft_tape, v_t_draft_reaches, v_t_draft_ropes, v_t_draft_hands, v_t_draft_boats, .int t_draft_muds, v_t_draft_loose, v_t_draft_kind, v_t_draft_wide, v_t_draft_bank, .ref q_t_draft_mud, v_t_draft_ropeAt, v_t_draft_pulls, v_t_draft_bears, v_t_draft_strong, v_t_draft_boatWide, v_t_draft_boatDeep], xI G q_t_draft_mud 6 t_draft_mud]) X hW hl.1 (c_X5_readWhole l G q_t q_t_tape (.ref q_t_names) (.ref q_t_nameLines) (.ref q_t_nameNumbers) (v_t_filled) (.ref q_t_draft) (.int t_named) t_tape o1.2.1 o1.2.2 t_end o5.1 o5.2.1 o5.2.2.1 o5.2.2.2.1 o5.2.2.2.2 1684366704 0 900 o6 ho6) 0 rfl rfl kw_246 kw_247 kw_248 kw_15 kw_249 (by decide +kernel) ⟨rfl, rfl⟩ ⟨by decide, by decide⟩ ⟨Nat.zero_le _, Nat.zero_le _⟩ [0, 1] (by decide) rfl rfl rfl rfl rfl rfl (Nat.le_of_ble_eq_true rfl) rfl dX5_readMud_44 (fun H locs hW => ?_)
      refine lv_if_ne (tgt := 52) hx hb dX5_readMud_47 (by decide) (fun c7 => ?_) (fun c7 => ?_)
      · have hm := (if_neg c7).symm.trans hm
        refine lv_aload_n hx hb dX5_readMud_52 rfl (lv_at hl 1 rfl) ?_
        refine mx_get (C := RX5) (T := TX5) (N := 15) (ci := 5) X hW 0 rfl rfl tbc_X5 7 (by decide) kw_64 rfl dX5_readMud_53 ?_
        refine mx_get (C := RX6) (T := TX6) (N := 18) (ci := 6) X hW 5 rfl rfl tbc_X6 11 (by decide) kw_321 rfl dX5_readMud_56 ?_
        refine lv_iload_n hx hb dX5_readMud_59 rfl (lv_at hl 0 rfl) ?_
        refine lv_aload_n hx hb dX5_readMud_60 rfl (lv_at hl 1 rfl) ?_
        refine mx_get (C := RX5) (T := TX5) (N := 15) (ci := 5) X hW 0 rfl rfl tbc_X5 13 (by decide) kw_210 rfl dX5_readMud_61 ?_
        obtain ⟨hg8, hm⟩ := gd_s hm
        refine mx_iast (w2 := [xO q_t 5 [.ref q_t_tape, .ref q_t_names, .ref q_t_nameLines, .ref q_t_nameNumbers, v_t_filled, .int o6.2.1, .int o6.2.2.1, .ref q_t_draft, .int t_named, .int t_end, .int o6.2.2.2.1, .int o6.2.2.2.2.1, .int o6.2.2.2.2.2.1, .int o6.2.2.2.2.2.2.1, .long o6.2.2.2.2.2.2.2], xB G q_t_tape 900 t_tape, xJ G q_t_names 24 t_names, xI G q_t_nameLines 24 t_nameLines, xI G q_t_nameNumbers 24 t_nameNumbers, xO q_t_draft 6 [v_t_draft_flow, v_t_draft_tape, v_t_draft_reaches, v_t_draft_ropes, v_t_draft_hands, v_t_draft_boats, .int t_draft_muds, v_t_draft_loose, v_t_draft_kind, v_t_draft_wide, v_t_draft_bank, .ref q_t_draft_mud, v_t_draft_ropeAt, v_t_draft_pulls, v_t_draft_bears, v_t_draft_strong, v_t_draft_boatWide, v_t_draft_boatDeep], xI G q_t_draft_mud 6 (upd t_draft_mud o1.1.toNatClampNeg o6.2.2.2.2.2.2.1)]) X hW 6 rfl (inb_s hg8) rfl dX5_readMud_64 (fun H locs hW => ?_)
        obtain ⟨r9, er9⟩ : ∃ z, z = upd t_draft_mud o1.1.toNatClampNeg o6.2.2.2.2.2.2.1 := ⟨_, rfl⟩
        have hm := nm_s er9 hm
        have hW : mx_W G s A [xO q_t 5 [.ref q_t_tape, .ref q_t_names, .ref q_t_nameLines, .ref q_t_nameNumbers, v_t_filled, .int o6.2.1, .int o6.2.2.1, .ref q_t_draft, .int t_named, .int t_end, .int o6.2.2.2.1, .int o6.2.2.2.2.1, .int o6.2.2.2.2.2.1, .int o6.2.2.2.2.2.2.1, .long o6.2.2.2.2.2.2.2], xB G q_t_tape 900 t_tape, xJ G q_t_names 24 t_names, xI G q_t_nameLines 24 t_nameLines, xI G q_t_nameNumbers 24 t_nameNumbers, xO q_t_draft 6 [v_t_draft_flow, v_t_draft_tape, v_t_draft_reaches, v_t_draft_ropes, v_t_draft_hands, v_t_draft_boats, .int t_draft_muds, v_t_draft_loose, v_t_draft_kind, v_t_draft_wide, v_t_draft_bank, .ref q_t_draft_mud, v_t_draft_ropeAt, v_t_draft_pulls, v_t_draft_bears, v_t_draft_strong, v_t_draft_boatWide, v_t_draft_boatDeep], xI G q_t_draft_mud 6 r9] H locs := by rw [er9]; exact hW
        refine lv_aload_n hx hb dX5_readMud_65 rfl (lv_at hl 1 rfl) ?_
        refine mx_get (C := RX5) (T := TX5) (N := 15) (ci := 5) X hW 0 rfl rfl tbc_X5 7 (by decide) kw_64 rfl dX5_readMud_66 ?_
        refine lv_dup hx hb dX5_readMud_69 rfl ?_
        refine mx_get (C := RX6) (T := TX6) (N := 18) (ci := 6) X hW 5 rfl rfl tbc_X6 6 (by decide) kw_322 rfl dX5_readMud_70 ?_
        refine lv_iconst (v := 1) hx hb dX5_readMud_73 (by decide) ?_
        refine lv_iadd hx hb dX5_readMud_74 ?_
        refine lv_topi (fun z10 ez10 => ?_)
        have hm := nm_s ez10 hm
        refine mx_put (C := RX6) (T := TX6) (N := 18) (ci := 6) (w2 := [xO q_t 5 [.ref q_t_tape, .ref q_t_names, .ref q_t_nameLines, .ref q_t_nameNumbers, v_t_filled, .int o6.2.1, .int o6.2.2.1, .ref q_t_draft, .int t_named, .int t_end, .int o6.2.2.2.1, .int o6.2.2.2.2.1, .int o6.2.2.2.2.2.1, .int o6.2.2.2.2.2.2.1, .long o6.2.2.2.2.2.2.2], xB G q_t_tape 900 t_tape, xJ G q_t_names 24 t_names, xI G q_t_nameLines 24 t_nameLines, xI G q_t_nameNumbers 24 t_nameNumbers, xO q_t_draft 6 [v_t_draft_flow, v_t_draft_tape, v_t_draft_reaches, v_t_draft_ropes, v_t_draft_hands, v_t_draft_boats, .int z10, v_t_draft_loose, v_t_draft_kind, v_t_draft_wide, v_t_draft_bank, .ref q_t_draft_mud, v_t_draft_ropeAt, v_t_draft_pulls, v_t_draft_bears, v_t_draft_strong, v_t_draft_boatWide, v_t_draft_boatDeep], xI G q_t_draft_mud 6 r9]) X hW 5 rfl rfl tbc_X6 tyX6 tyX6_ok nmX6 6 (by decide) kw_322 rfl rfl rfl rfl (Nat.le_of_ble_eq_true rfl) rfl dX5_readMud_75 (fun H locs hW => ?_)
        refine lv_aload_n hx hb dX5_readMud_78 rfl (lv_at hl 1 rfl) ?_
        obtain ⟨o11, ho11, hm⟩ := bd_s hm
        refine mx_callV (C := RX5) (T := TX5) (N := 15) (ci := 5) (n := 0) (As := []) (rest := []) (st1 := []) (w2 := [xO q_t 5 [.ref q_t_tape, .ref q_t_names, .ref q_t_nameLines, .ref q_t_nameNumbers, v_t_filled, .int o6.2.1, .int o6.2.2.1, .ref q_t_draft, .int t_named, .int t_end, .int o11.1, .int o11.2.1, .int o11.2.2.1, .int o11.2.2.2.1, .long o11.2.2.2.2], xB G q_t_tape 900 t_tape, xJ G q_t_names 24 t_names, xI G q_t_nameLines 24 t_nameLines, xI G q_t_nameNumbers 24 t_nameNumbers, xO q_t_draft 6 [v_t_draft_flow, v_t_draft_tape, v_t_draft_reaches, v_t_draft_ropes, v_t_draft_hands, v_t_draft_boats, .int z10, v_t_draft_loose, v_t_draft_kind, v_t_draft_wide, v_t_draft_bank, .ref q_t_draft_mud, v_t_draft_ropeAt, v_t_draft_pulls, v_t_draft_bears, v_t_draft_strong, v_t_draft_boatWide, v_t_draft_boatDeep], xI G q_t_draft_mud 6 r9]) X hW hl.1 (c_X5_next l G q_t q_t_tape (.ref q_t_names) (.ref q_t_nameLines) (.ref q_t_nameNumbers) (v_t_filled) (.int o6.2.1) (.int o6.2.2.1) (.ref q_t_draft) (.int t_named) t_tape t_end o6.2.2.2.1 o6.2.2.2.2.1 o6.2.2.2.2.2.1 o6.2.2.2.2.2.2.1 o6.2.2.2.2.2.2.2 o11 ho11) 0 rfl rfl kw_196 kw_197 kw_198 kw_15 kw_199 (by decide +kernel) ⟨rfl, rfl⟩ ⟨by decide, by decide⟩ ⟨Nat.zero_le _, Nat.zero_le _⟩ [0, 1] (by decide) rfl rfl rfl rfl rfl rfl (Nat.le_of_ble_eq_true rfl) rfl dX5_readMud_79 (fun H locs hW => ?_)
        refine lv_iconst (v := 1) hx hb dX5_readMud_82 (by decide) ?_
        obtain rfl := Option.some.inj hm
        exact mx_zret X nb1 hW dX5_readMud_83
      · have hm := (if_pos c7).symm.trans hm
        refine lv_iconst (v := 0) hx hb dX5_readMud_50 (by decide) ?_
        obtain rfl := Option.some.inj hm
        exact mx_zret X nb0 hW dX5_readMud_51
    · have hm := (if_neg c4).symm.trans hm
      refine lv_aload_n hx hb dX5_readMud_26 rfl (lv_at hl 1 rfl) ?_
      refine lv_iconst (v := 3) hx hb dX5_readMud_27 (by decide) ?_
      obtain ⟨o12, ho12, hm⟩ := bd_s hm
      refine mx_callV (C := RX5) (T := TX5) (N := 15) (ci := 5) (n := 1) (As := [.int 3]) (rest := []) (st1 := [.int o12.1]) (w2 := [xO q_t 5 [.ref q_t_tape, .ref q_t_names, .ref q_t_nameLines, .ref q_t_nameNumbers, v_t_filled, .int o12.2.1, .int o12.2.2, .ref q_t_draft, .int t_named, .int t_end, .int t_at, .int t_sort, .int t_place, .int t_value, .long t_code], xB G q_t_tape 900 t_tape, xJ G q_t_names 24 t_names, xI G q_t_nameLines 24 t_nameLines, xI G q_t_nameNumbers 24 t_nameNumbers, xO q_t_draft 6 [v_t_draft_flow, v_t_draft_tape, v_t_draft_reaches, v_t_draft_ropes, v_t_draft_hands, v_t_draft_boats, .int t_draft_muds, v_t_draft_loose, v_t_draft_kind, v_t_draft_wide, v_t_draft_bank, .ref q_t_draft_mud, v_t_draft_ropeAt, v_t_draft_pulls, v_t_draft_bears, v_t_draft_strong, v_t_draft_boatWide, v_t_draft_boatDeep], xI G q_t_draft_mud 6 t_draft_mud]) X hW hl.1 (c_X5_fail l G q_t (.ref q_t_tape) (.ref q_t_names) (.ref q_t_nameLines) (.ref q_t_nameNumbers) (v_t_filled) (.ref q_t_draft) (.int t_named) (.int t_end) (.int t_at) (.int t_sort) (.int t_value) (.long t_code) o1.2.1 o1.2.2 t_place 3 o12 ho12) 0 rfl rfl kw_227 kw_228 kw_229 kw_15 kw_230 (by decide +kernel) ⟨rfl, rfl⟩ ⟨by decide, by decide⟩ ⟨Nat.zero_le _, Nat.zero_le _⟩ [0] (by decide) rfl rfl rfl rfl rfl rfl (Nat.le_of_ble_eq_true rfl) rfl dX5_readMud_28 (fun H locs hW => ?_)
      obtain ⟨hg13, hm⟩ := gd_s hm
      obtain rfl := Option.some.inj hm
      exact mx_zret X (nbl_s hg13) hW dX5_readMud_31
  · have hm := (if_pos c2).symm.trans hm
    refine lv_iconst (v := 0) hx hb dX5_readMud_11 (by decide) ?_
    obtain rfl := Option.some.inj hm
    exact mx_zret X nb0 hW dX5_readMud_12

abbrev rm_X5_kindOfWord : Room := { frames := 1, cells := 0, slots := 0, locals := 22 }
noncomputable def f_X5_kindOfWord (t_sort : Int32) (t_code : Int64) : Option (Int32) :=
  (f_X5_isWord 482854660462 t_sort t_code).bind fun o1 => (if o1 = 0 then
    (f_X5_isWord 120282193096567 t_sort t_code).bind fun o3 => (if o3 = 0 then
      (f_X5_isWord 109287261888882 t_sort t_code).bind fun o5 => (if o5 = 0 then
        (f_X5_isWord 108243533981541 t_sort t_code).bind fun o7 => (if o7 = 0 then
          some ((-1))
        else
          some 3)
      else
        some 2)
    else
      some 1)
  else
    some 0)
set_option maxHeartbeats 4000000 in
set_option maxRecDepth 100000 in
theorem c_X5_kindOfWord (l : Launch) (G : mx_G) (q_t : Nat) (v_t_tape : Value) (v_t_names : Value) (v_t_nameLines : Value) (v_t_nameNumbers : Value) (v_t_filled : Value) (v_t_fault : Value) (v_t_faultPlace : Value) (v_t_draft : Value) (v_t_named : Value) (v_t_end : Value) (v_t_at : Value) (v_t_place : Value) (v_t_value : Value) (t_sort : Int32) (t_code : Int64) (out : Int32) (hm : f_X5_kindOfWord t_sort t_code = some out) : mx_C l yX5_kindOfWord cX5_kindOfWord 1 (some .int) rm_X5_kindOfWord G [.ref q_t] [xO q_t 5 [v_t_tape, v_t_names, v_t_nameLines, v_t_nameNumbers, v_t_filled, v_t_fault, v_t_faultPlace, v_t_draft, v_t_named, v_t_end, v_t_at, .int t_sort, v_t_place, v_t_value, .long t_code]] (some (.int out)) [xO q_t 5 [v_t_tape, v_t_names, v_t_nameLines, v_t_nameNumbers, v_t_filled, v_t_fault, v_t_faultPlace, v_t_draft, v_t_named, v_t_end, v_t_at, .int t_sort, v_t_place, v_t_value, .long t_code]] := by
  refine mx_enter (own := RX5) (name := "kindOfWord") (lv := [(0, .ref q_t)]) (by decide) rfl rfl (Nat.le_of_ble_eq_true rfl) rfl ?_
  intro p e s m args below meth c A ls X hW hl
  obtain ⟨hx, hb, hml, hown, hts, hKN, -⟩ := id X
  unfold f_X5_kindOfWord at hm
  refine lv_aload_n hx hb dX5_kindOfWord_0 rfl (lv_at hl 0 rfl) ?_
  refine lv_ldc2 (v := 482854660462) hx hb hown (hts _ kw_279) dX5_kindOfWord_1 ?_
  obtain ⟨o1, ho1, hm⟩ := bd_s hm
  refine mx_callV (C := RX5) (T := TX5) (N := 15) (ci := 5) (n := 1) (As := [.long 482854660462]) (rest := []) (st1 := [.int o1]) (w2 := [xO q_t 5 [v_t_tape, v_t_names, v_t_nameLines, v_t_nameNumbers, v_t_filled, v_t_fault, v_t_faultPlace, v_t_draft, v_t_named, v_t_end, v_t_at, .int t_sort, v_t_place, v_t_value, .long t_code]]) X hW hl.1 (c_X5_isWord l G q_t (v_t_tape) (v_t_names) (v_t_nameLines) (v_t_nameNumbers) (v_t_filled) (v_t_fault) (v_t_faultPlace) (v_t_draft) (v_t_named) (v_t_end) (v_t_at) (v_t_place) (v_t_value) t_sort t_code 482854660462 o1 ho1) 0 rfl rfl kw_250 kw_251 kw_252 kw_15 kw_253 (by decide +kernel) ⟨rfl, rfl⟩ ⟨by decide, by decide⟩ ⟨Nat.zero_le _, Nat.zero_le _⟩ [0] (by decide) rfl rfl rfl rfl rfl rfl (Nat.le_of_ble_eq_true rfl) rfl dX5_kindOfWord_4 (fun H locs hW => ?_)
  refine lv_if_eq (tgt := 12) hx hb dX5_kindOfWord_7 (by decide) (fun c2 => ?_) (fun c2 => ?_)
  · have hm := (if_pos c2).symm.trans hm
    refine lv_aload_n hx hb dX5_kindOfWord_12 rfl (lv_at hl 0 rfl) ?_
    refine lv_ldc2 (v := 120282193096567) hx hb hown (hts _ kw_280) dX5_kindOfWord_13 ?_
    obtain ⟨o3, ho3, hm⟩ := bd_s hm
    refine mx_callV (C := RX5) (T := TX5) (N := 15) (ci := 5) (n := 1) (As := [.long 120282193096567]) (rest := []) (st1 := [.int o3]) (w2 := [xO q_t 5 [v_t_tape, v_t_names, v_t_nameLines, v_t_nameNumbers, v_t_filled, v_t_fault, v_t_faultPlace, v_t_draft, v_t_named, v_t_end, v_t_at, .int t_sort, v_t_place, v_t_value, .long t_code]]) X hW hl.1 (c_X5_isWord l G q_t (v_t_tape) (v_t_names) (v_t_nameLines) (v_t_nameNumbers) (v_t_filled) (v_t_fault) (v_t_faultPlace) (v_t_draft) (v_t_named) (v_t_end) (v_t_at) (v_t_place) (v_t_value) t_sort t_code 120282193096567 o3 ho3) 0 rfl rfl kw_250 kw_251 kw_252 kw_15 kw_253 (by decide +kernel) ⟨rfl, rfl⟩ ⟨by decide, by decide⟩ ⟨Nat.zero_le _, Nat.zero_le _⟩ [0] (by decide) rfl rfl rfl rfl rfl rfl (Nat.le_of_ble_eq_true rfl) rfl dX5_kindOfWord_16 (fun H locs hW => ?_)
    refine lv_if_eq (tgt := 24) hx hb dX5_kindOfWord_19 (by decide) (fun c4 => ?_) (fun c4 => ?_)
    · have hm := (if_pos c4).symm.trans hm
      refine lv_aload_n hx hb dX5_kindOfWord_24 rfl (lv_at hl 0 rfl) ?_
      refine lv_ldc2 (v := 109287261888882) hx hb hown (hts _ kw_281) dX5_kindOfWord_25 ?_
      obtain ⟨o5, ho5, hm⟩ := bd_s hm
      refine mx_callV (C := RX5) (T := TX5) (N := 15) (ci := 5) (n := 1) (As := [.long 109287261888882]) (rest := []) (st1 := [.int o5]) (w2 := [xO q_t 5 [v_t_tape, v_t_names, v_t_nameLines, v_t_nameNumbers, v_t_filled, v_t_fault, v_t_faultPlace, v_t_draft, v_t_named, v_t_end, v_t_at, .int t_sort, v_t_place, v_t_value, .long t_code]]) X hW hl.1 (c_X5_isWord l G q_t (v_t_tape) (v_t_names) (v_t_nameLines) (v_t_nameNumbers) (v_t_filled) (v_t_fault) (v_t_faultPlace) (v_t_draft) (v_t_named) (v_t_end) (v_t_at) (v_t_place) (v_t_value) t_sort t_code 109287261888882 o5 ho5) 0 rfl rfl kw_250 kw_251 kw_252 kw_15 kw_253 (by decide +kernel) ⟨rfl, rfl⟩ ⟨by decide, by decide⟩ ⟨Nat.zero_le _, Nat.zero_le _⟩ [0] (by decide) rfl rfl rfl rfl rfl rfl (Nat.le_of_ble_eq_true rfl) rfl dX5_kindOfWord_28 (fun H locs hW => ?_)
      refine lv_if_eq (tgt := 36) hx hb dX5_kindOfWord_31 (by decide) (fun c6 => ?_) (fun c6 => ?_)
      · have hm := (if_pos c6).symm.trans hm
        refine lv_aload_n hx hb dX5_kindOfWord_36 rfl (lv_at hl 0 rfl) ?_
        refine lv_ldc2 (v := 108243533981541) hx hb hown (hts _ kw_282) dX5_kindOfWord_37 ?_
        obtain ⟨o7, ho7, hm⟩ := bd_s hm
        refine mx_callV (C := RX5) (T := TX5) (N := 15) (ci := 5) (n := 1) (As := [.long 108243533981541]) (rest := []) (st1 := [.int o7]) (w2 := [xO q_t 5 [v_t_tape, v_t_names, v_t_nameLines, v_t_nameNumbers, v_t_filled, v_t_fault, v_t_faultPlace, v_t_draft, v_t_named, v_t_end, v_t_at, .int t_sort, v_t_place, v_t_value, .long t_code]]) X hW hl.1 (c_X5_isWord l G q_t (v_t_tape) (v_t_names) (v_t_nameLines) (v_t_nameNumbers) (v_t_filled) (v_t_fault) (v_t_faultPlace) (v_t_draft) (v_t_named) (v_t_end) (v_t_at) (v_t_place) (v_t_value) t_sort t_code 108243533981541 o7 ho7) 0 rfl rfl kw_250 kw_251 kw_252 kw_15 kw_253 (by decide +kernel) ⟨rfl, rfl⟩ ⟨by decide, by decide⟩ ⟨Nat.zero_le _, Nat.zero_le _⟩ [0] (by decide) rfl rfl rfl rfl rfl rfl (Nat.le_of_ble_eq_true rfl) rfl dX5_kindOfWord_40 (fun H locs hW => ?_)
        refine lv_if_eq (tgt := 50) hx hb dX5_kindOfWord_43 (by decide) (fun c8 => ?_) (fun c8 => ?_)
        · have hm := (if_pos c8).symm.trans hm
          refine lv_iconst (v := (-1)) hx hb dX5_kindOfWord_50 (by decide) ?_
          obtain rfl := Option.some.inj hm
          exact mx_iret X hW dX5_kindOfWord_51
        · have hm := (if_neg c8).symm.trans hm
          refine lv_iconst (v := 3) hx hb dX5_kindOfWord_46 (by decide) ?_
          refine lv_goto (tgt := 51) hx hb dX5_kindOfWord_47 (by decide) ?_
          obtain rfl := Option.some.inj hm
          exact mx_iret X hW dX5_kindOfWord_51
      · have hm := (if_neg c6).symm.trans hm
        refine lv_iconst (v := 2) hx hb dX5_kindOfWord_34 (by decide) ?_
        obtain rfl := Option.some.inj hm
        exact mx_iret X hW dX5_kindOfWord_35
    · have hm := (if_neg c4).symm.trans hm
      refine lv_iconst (v := 1) hx hb dX5_kindOfWord_22 (by decide) ?_
      obtain rfl := Option.some.inj hm
      exact mx_iret X hW dX5_kindOfWord_23
  · have hm := (if_neg c2).symm.trans hm
    refine lv_iconst (v := 0) hx hb dX5_kindOfWord_10 (by decide) ?_
    obtain rfl := Option.some.inj hm
    exact mx_iret X hW dX5_kindOfWord_11

abbrev rm_X5_readReach : Room := { frames := 3, cells := 0, slots := 0, locals := 64 }
noncomputable def f_X5_readReach (t_tape : Nat → Int32) (t_names : Nat → Int64) (t_nameLines : Nat → Int32) (t_nameNumbers : Nat → Int32) (t_fault : Int32) (t_faultPlace : Int32) (t_draft_reaches : Int32) (t_draft_kind : Nat → Int32) (t_draft_wide : Nat → Int32) (t_draft_bank : Nat → Int32) (t_named : Int32) (t_end : Int32) (t_at : Int32) (t_sort : Int32) (t_place : Int32) (t_value : Int32) (t_code : Int64) : Option (Int32 × (Nat → Int64) × (Nat → Int32) × (Nat → Int32) × Int32 × Int32 × Int32 × (Nat → Int32) × (Nat → Int32) × (Nat → Int32) × Int32 × Int32 × Int32 × Int32 × Int32 × Int64) :=
  (f_X5_readNewName 1 t_draft_reaches t_tape t_names t_nameLines t_nameNumbers t_fault t_faultPlace t_named t_end t_at t_sort t_place t_value t_code).bind fun o1 => (if o1.1 = 0 then
    some (0, o1.2.1, o1.2.2.1, o1.2.2.2.1, o1.2.2.2.2.1, o1.2.2.2.2.2.1, t_draft_reaches, t_draft_kind, t_draft_wide, t_draft_bank, o1.2.2.2.2.2.2.1, o1.2.2.2.2.2.2.2.1, o1.2.2.2.2.2.2.2.2.1, o1.2.2.2.2.2.2.2.2.2.1, o1.2.2.2.2.2.2.2.2.2.2.1, o1.2.2.2.2.2.2.2.2.2.2.2)
  else
    (f_X5_kindOfWord o1.2.2.2.2.2.2.2.2.1 o1.2.2.2.2.2.2.2.2.2.2.2).bind fun o3 => (if o3 = ((-1)) then
      (f_X5_fail 1 o1.2.2.2.2.1 o1.2.2.2.2.2.1 o1.2.2.2.2.2.2.2.2.2.1).bind fun o19 => gd (nbl o19.1) <| some (o19.1, o1.2.1, o1.2.2.1, o1.2.2.2.1, o19.2.1, o19.2.2, t_draft_reaches, t_draft_kind, t_draft_wide, t_draft_bank, o1.2.2.2.2.2.2.1, o1.2.2.2.2.2.2.2.1, o1.2.2.2.2.2.2.2.2.1, o1.2.2.2.2.2.2.2.2.2.1, o1.2.2.2.2.2.2.2.2.2.2.1, o1.2.2.2.2.2.2.2.2.2.2.2)
    else
      gd (inb t_draft_reaches 6) <| nm (upd t_draft_kind t_draft_reaches.toNatClampNeg o3) fun r6 => (f_X5_next t_tape t_end o1.2.2.2.2.2.2.2.1 o1.2.2.2.2.2.2.2.2.1 o1.2.2.2.2.2.2.2.2.2.1 o1.2.2.2.2.2.2.2.2.2.2.1 o1.2.2.2.2.2.2.2.2.2.2.2).bind fun o7 => (f_X5_readWhole 2003395685 3 40 t_tape o1.2.2.2.2.1 o1.2.2.2.2.2.1 t_end o7.1 o7.2.1 o7.2.2.1 o7.2.2.2.1 o7.2.2.2.2).bind fun o8 => (if o8.1 = 0 then
        some (0, o1.2.1, o1.2.2.1, o1.2.2.2.1, o8.2.1, o8.2.2.1, t_draft_reaches, r6, t_draft_wide, t_draft_bank, o1.2.2.2.2.2.2.1, o8.2.2.2.1, o8.2.2.2.2.1, o8.2.2.2.2.2.1, o8.2.2.2.2.2.2.1, o8.2.2.2.2.2.2.2)
      else
        gd (inb t_draft_reaches 6) <| nm (upd t_draft_wide t_draft_reaches.toNatClampNeg o8.2.2.2.2.2.2.1) fun r11 => (f_X5_next t_tape t_end o8.2.2.2.1 o8.2.2.2.2.1 o8.2.2.2.2.2.1 o8.2.2.2.2.2.2.1 o8.2.2.2.2.2.2.2).bind fun o12 => (f_X5_readWhole 1650552427 1 99 t_tape o8.2.1 o8.2.2.1 t_end o12.1 o12.2.1 o12.2.2.1 o12.2.2.2.1 o12.2.2.2.2).bind fun o13 => (if o13.1 = 0 then
          some (0, o1.2.1, o1.2.2.1, o1.2.2.2.1, o13.2.1, o13.2.2.1, t_draft_reaches, r6, r11, t_draft_bank, o1.2.2.2.2.2.2.1, o13.2.2.2.1, o13.2.2.2.2.1, o13.2.2.2.2.2.1, o13.2.2.2.2.2.2.1, o13.2.2.2.2.2.2.2)
        else
          gd (inb t_draft_reaches 6) <| nm (upd t_draft_bank t_draft_reaches.toNatClampNeg o13.2.2.2.2.2.2.1) fun r16 => (f_X5_next t_tape t_end o13.2.2.2.1 o13.2.2.2.2.1 o13.2.2.2.2.2.1 o13.2.2.2.2.2.2.1 o13.2.2.2.2.2.2.2).bind fun o17 => nm (t_draft_reaches + 1) fun z18 => some (1, o1.2.1, o1.2.2.1, o1.2.2.2.1, o13.2.1, o13.2.2.1, z18, r6, r11, r16, o1.2.2.2.2.2.2.1, o17.1, o17.2.1, o17.2.2.1, o17.2.2.2.1, o17.2.2.2.2)))))
set_option maxHeartbeats 4000000 in
set_option maxRecDepth 100000 in
theorem c_X5_readReach (l : Launch) (G : mx_G) (q_t : Nat) (q_t_tape : Nat) (q_t_names : Nat) (q_t_nameLines : Nat) (q_t_nameNumbers : Nat) (q_t_draft : Nat) (q_t_draft_kind : Nat) (q_t_draft_wide : Nat) (q_t_draft_bank : Nat) (v_t_filled : Value) (v_t_draft_flow : Value) (v_t_draft_tape : Value) (v_t_draft_ropes : Value) (v_t_draft_hands : Value) (v_t_draft_boats : Value) (v_t_draft_muds : Value) (v_t_draft_loose : Value) (v_t_draft_mud : Value) (v_t_draft_ropeAt : Value) (v_t_draft_pulls : Value) (v_t_draft_bears : Value) (v_t_draft_strong : Value) (v_t_draft_boatWide : Value) (v_t_draft_boatDeep : Value) (t_tape : Nat → Int32) (t_names : Nat → Int64) (t_nameLines : Nat → Int32) (t_nameNumbers : Nat → Int32) (t_fault : Int32) (t_faultPlace : Int32) (t_draft_reaches : Int32) (t_draft_kind : Nat → Int32) (t_draft_wide : Nat → Int32) (t_draft_bank : Nat → Int32) (t_named : Int32) (t_end : Int32) (t_at : Int32) (t_sort : Int32) (t_place : Int32) (t_value : Int32) (t_code : Int64) (out : Int32 × (Nat → Int64) × (Nat → Int32) × (Nat → Int32) × Int32 × Int32 × Int32 × (Nat → Int32) × (Nat → Int32) × (Nat → Int32) × Int32 × Int32 × Int32 × Int32 × Int32 × Int64) (hm : f_X5_readReach t_tape t_names t_nameLines t_nameNumbers t_fault t_faultPlace t_draft_reaches t_draft_kind t_draft_wide t_draft_bank t_named t_end t_at t_sort t_place t_value t_code = some out) : mx_C l yX5_readReach cX5_readReach 3 (some .boolean) rm_X5_readReach G [.ref q_t] [xO q_t 5 [.ref q_t_tape, .ref q_t_names, .ref q_t_nameLines, .ref q_t_nameNumbers, v_t_filled, .int t_fault, .int t_faultPlace, .ref q_t_draft, .int t_named, .int t_end, .int t_at, .int t_sort, .int t_place, .int t_value, .long t_code], xB G q_t_tape 900 t_tape, xJ G q_t_names 24 t_names, xI G q_t_nameLines 24 t_nameLines, xI G q_t_nameNumbers 24 t_nameNumbers, xO q_t_draft 6 [v_t_draft_flow, v_t_draft_tape, .int t_draft_reaches, v_t_draft_ropes, v_t_draft_hands, v_t_draft_boats, v_t_draft_muds, v_t_draft_loose, .ref q_t_draft_kind, .ref q_t_draft_wide, .ref q_t_draft_bank, v_t_draft_mud, v_t_draft_ropeAt, v_t_draft_pulls, v_t_draft_bears, v_t_draft_strong, v_t_draft_boatWide, v_t_draft_boatDeep], xI G q_t_draft_kind 6 t_draft_kind, xI G q_t_draft_wide 6 t_draft_wide, xI G q_t_draft_bank 6 t_draft_bank] (some (.int out.1)) [xO q_t 5 [.ref q_t_tape, .ref q_t_names, .ref q_t_nameLines, .ref q_t_nameNumbers, v_t_filled, .int out.2.2.2.2.1, .int out.2.2.2.2.2.1, .ref q_t_draft, .int out.2.2.2.2.2.2.2.2.2.2.1, .int t_end, .int out.2.2.2.2.2.2.2.2.2.2.2.1, .int out.2.2.2.2.2.2.2.2.2.2.2.2.1, .int out.2.2.2.2.2.2.2.2.2.2.2.2.2.1, .int out.2.2.2.2.2.2.2.2.2.2.2.2.2.2.1, .long out.2.2.2.2.2.2.2.2.2.2.2.2.2.2.2], xB G q_t_tape 900 t_tape, xJ G q_t_names 24 out.2.1, xI G q_t_nameLines 24 out.2.2.1, xI G q_t_nameNumbers 24 out.2.2.2.1, xO q_t_draft 6 [v_t_draft_flow, v_t_draft_tape, .int out.2.2.2.2.2.2.1, v_t_draft_ropes, v_t_draft_hands, v_t_draft_boats, v_t_draft_muds, v_t_draft_loose, .ref q_t_draft_kind, .ref q_t_draft_wide, .ref q_t_draft_bank, v_t_draft_mud, v_t_draft_ropeAt, v_t_draft_pulls, v_t_draft_bears, v_t_draft_strong, v_t_draft_boatWide, v_t_draft_boatDeep], xI G q_t_draft_kind 6 out.2.2.2.2.2.2.2.1, xI G q_t_draft_wide 6 out.2.2.2.2.2.2.2.2.1, xI G q_t_draft_bank 6 out.2.2.2.2.2.2.2.2.2.1] := by
  refine mx_enter (own := RX5) (name := "readReach") (lv := [(0, .ref q_t)]) (by decide) rfl rfl (Nat.le_of_ble_eq_true rfl) rfl ?_
  intro p e s m args below meth c A ls X hW hl
  obtain ⟨hx, hb, hml, hown, hts, hKN, -⟩ := id X
  unfold f_X5_readReach at hm
  refine lv_aload_n hx hb dX5_readReach_0 rfl (lv_at hl 0 rfl) ?_
  refine mx_get (C := RX5) (T := TX5) (N := 15) (ci := 5) X hW 0 rfl rfl tbc_X5 7 (by decide) kw_64 rfl dX5_readReach_1 ?_
  refine mx_get (C := RX6) (T := TX6) (N := 18) (ci := 6) X hW 5 rfl rfl tbc_X6 2 (by decide) kw_183 rfl dX5_readReach_4 ?_
  refine lv_istore_n (lv' := [(1, .int t_draft_reaches), (0, .ref q_t)]) hx hb dX5_readReach_7 rfl hl (by decide) rfl (fun ls hl => ?_)
  refine lv_aload_n hx hb dX5_readReach_8 rfl (lv_at hl 1 rfl) ?_
  refine lv_iconst (v := 1) hx hb dX5_readReach_9 (by decide) ?_
  refine lv_iload_n hx hb dX5_readReach_10 rfl (lv_at hl 0 rfl) ?_
  obtain ⟨o1, ho1, hm⟩ := bd_s hm
  refine mx_callV (C := RX5) (T := TX5) (N := 15) (ci := 5) (n := 2) (As := [.int 1, .int t_draft_reaches]) (rest := []) (st1 := [.int o1.1]) (w2 := [xO q_t 5 [.ref q_t_tape, .ref q_t_names, .ref q_t_nameLines, .ref q_t_nameNumbers, v_t_filled, .int o1.2.2.2.2.1, .int o1.2.2.2.2.2.1, .ref q_t_draft, .int o1.2.2.2.2.2.2.1, .int t_end, .int o1.2.2.2.2.2.2.2.1, .int o1.2.2.2.2.2.2.2.2.1, .int o1.2.2.2.2.2.2.2.2.2.1, .int o1.2.2.2.2.2.2.2.2.2.2.1, .long o1.2.2.2.2.2.2.2.2.2.2.2], xB G q_t_tape 900 t_tape, xJ G q_t_names 24 o1.2.1, xI G q_t_nameLines 24 o1.2.2.1, xI G q_t_nameNumbers 24 o1.2.2.2.1, xO q_t_draft 6 [v_t_draft_flow, v_t_draft_tape, .int t_draft_reaches, v_t_draft_ropes, v_t_draft_hands, v_t_draft_boats, v_t_draft_muds, v_t_draft_loose, .ref q_t_draft_kind, .ref q_t_draft_wide, .ref q_t_draft_bank, v_t_draft_mud, v_t_draft_ropeAt, v_t_draft_pulls, v_t_draft_bears, v_t_draft_strong, v_t_draft_boatWide, v_t_draft_boatDeep], xI G q_t_draft_kind 6 t_draft_kind, xI G q_t_draft_wide 6 t_draft_wide, xI G q_t_draft_bank 6 t_draft_bank]) X hW hl.1 (c_X5_readNewName l G q_t q_t_tape q_t_names q_t_nameLines q_t_nameNumbers (v_t_filled) (.ref q_t_draft) t_tape t_names t_nameLines t_nameNumbers t_fault t_faultPlace t_named t_end t_at t_sort t_place t_value t_code 1 t_draft_reaches o1 ho1) 0 rfl rfl kw_263 kw_264 kw_265 kw_15 kw_266 (by decide +kernel) ⟨rfl, rfl⟩ ⟨by decide, by decide⟩ ⟨Nat.zero_le _, Nat.zero_le _⟩ [0, 1, 2, 3, 4] (by decide) rfl rfl rfl rfl rfl rfl (Nat.le_of_ble_eq_true rfl) rfl dX5_readReach_11 (fun H locs hW => ?_)
  refine lv_if_ne (tgt := 19) hx hb dX5_readReach_14 (by decide) (fun c2 => ?_) (fun c2 => ?_)
  · have hm := (if_neg c2).symm.trans hm
    refine lv_aload_n hx hb dX5_readReach_19 rfl (lv_at hl 1 rfl) ?_
    obtain ⟨o3, ho3, hm⟩ := bd_s hm
    refine mx_callV (C := RX5) (T := TX5) (N := 15) (ci := 5) (n := 0) (As := []) (rest := []) (st1 := [.int o3]) (w2 := [xO q_t 5 [.ref q_t_tape, .ref q_t_names, .ref q_t_nameLines, .ref q_t_nameNumbers, v_t_filled, .int o1.2.2.2.2.1, .int o1.2.2.2.2.2.1, .ref q_t_draft, .int o1.2.2.2.2.2.2.1, .int t_end, .int o1.2.2.2.2.2.2.2.1, .int o1.2.2.2.2.2.2.2.2.1, .int o1.2.2.2.2.2.2.2.2.2.1, .int o1.2.2.2.2.2.2.2.2.2.2.1, .long o1.2.2.2.2.2.2.2.2.2.2.2], xB G q_t_tape 900 t_tape, xJ G q_t_names 24 o1.2.1, xI G q_t_nameLines 24 o1.2.2.1, xI G q_t_nameNumbers 24 o1.2.2.2.1, xO q_t_draft 6 [v_t_draft_flow, v_t_draft_tape, .int t_draft_reaches, v_t_draft_ropes, v_t_draft_hands, v_t_draft_boats, v_t_draft_muds, v_t_draft_loose, .ref q_t_draft_kind, .ref q_t_draft_wide, .ref q_t_draft_bank, v_t_draft_mud, v_t_draft_ropeAt, v_t_draft_pulls, v_t_draft_bears, v_t_draft_strong, v_t_draft_boatWide, v_t_draft_boatDeep], xI G q_t_draft_kind 6 t_draft_kind, xI G q_t_draft_wide 6 t_draft_wide, xI G q_t_draft_bank 6 t_draft_bank]) X hW hl.1 (c_X5_kindOfWord l G q_t (.ref q_t_tape) (.ref q_t_names) (.ref q_t_nameLines) (.ref q_t_nameNumbers) (v_t_filled) (.int o1.2.2.2.2.1) (.int o1.2.2.2.2.2.1) (.ref q_t_draft) (.int o1.2.2.2.2.2.2.1) (.int t_end) (.int o1.2.2.2.2.2.2.2.1) (.int o1.2.2.2.2.2.2.2.2.2.1) (.int o1.2.2.2.2.2.2.2.2.2.2.1) o1.2.2.2.2.2.2.2.2.1 o1.2.2.2.2.2.2.2.2.2.2.2 o3 ho3) 0 rfl rfl kw_275 kw_276 kw_277 kw_15 kw_278 (by decide +kernel) ⟨rfl, rfl⟩ ⟨by decide, by decide⟩ ⟨Nat.zero_le _, Nat.zero_le _⟩ [0] (by decide) rfl rfl rfl rfl rfl rfl (Nat.le_of_ble_eq_true rfl) rfl dX5_readReach_20 (fun H locs hW => ?_)
    refine lv_istore_n (lv' := [(2, .int o3), (1, .int t_draft_reaches), (0, .ref q_t)]) hx hb dX5_readReach_23 rfl hl (by decide) rfl (fun ls hl => ?_)
    refine lv_iload_n hx hb dX5_readReach_24 rfl (lv_at hl 0 rfl) ?_
    refine lv_iconst (v := (-1)) hx hb dX5_readReach_25 (by decide) ?_
    refine lv_icmp_ne (tgt := 35) hx hb dX5_readReach_26 (by decide) (fun c4 => ?_) (fun c4 => ?_)
    · have hm := (if_neg c4).symm.trans hm
      refine lv_aload_n hx hb dX5_readReach_35 rfl (lv_at hl 2 rfl) ?_
      refine mx_get (C := RX5) (T := TX5) (N := 15) (ci := 5) X hW 0 rfl rfl tbc_X5 7 (by decide) kw_64 rfl dX5_readReach_36 ?_
      refine mx_get (C := RX6) (T := TX6) (N := 18) (ci := 6) X hW 5 rfl rfl tbc_X6 8 (by decide) kw_258 rfl dX5_readReach_39 ?_
      refine lv_iload_n hx hb dX5_readReach_42 rfl (lv_at hl 1 rfl) ?_
      refine lv_iload_n hx hb dX5_readReach_43 rfl (lv_at hl 0 rfl) ?_
      obtain ⟨hg5, hm⟩ := gd_s hm
      refine mx_iast (w2 := [xO q_t 5 [.ref q_t_tape, .ref q_t_names, .ref q_t_nameLines, .ref q_t_nameNumbers, v_t_filled, .int o1.2.2.2.2.1, .int o1.2.2.2.2.2.1, .ref q_t_draft, .int o1.2.2.2.2.2.2.1, .int t_end, .int o1.2.2.2.2.2.2.2.1, .int o1.2.2.2.2.2.2.2.2.1, .int o1.2.2.2.2.2.2.2.2.2.1, .int o1.2.2.2.2.2.2.2.2.2.2.1, .long o1.2.2.2.2.2.2.2.2.2.2.2], xB G q_t_tape 900 t_tape, xJ G q_t_names 24 o1.2.1, xI G q_t_nameLines 24 o1.2.2.1, xI G q_t_nameNumbers 24 o1.2.2.2.1, xO q_t_draft 6 [v_t_draft_flow, v_t_draft_tape, .int t_draft_reaches, v_t_draft_ropes, v_t_draft_hands, v_t_draft_boats, v_t_draft_muds, v_t_draft_loose, .ref q_t_draft_kind, .ref q_t_draft_wide, .ref q_t_draft_bank, v_t_draft_mud, v_t_draft_ropeAt, v_t_draft_pulls, v_t_draft_bears, v_t_draft_strong, v_t_draft_boatWide, v_t_draft_boatDeep], xI G q_t_draft_kind 6 (upd t_draft_kind t_draft_reaches.toNatClampNeg o3), xI G q_t_draft_wide 6 t_draft_wide, xI G q_t_draft_bank 6 t_draft_bank]) X hW 6 rfl (inb_s hg5) rfl dX5_readReach_44 (fun H locs hW => ?_)
      obtain ⟨r6, er6⟩ : ∃ z, z = upd t_draft_kind t_draft_reaches.toNatClampNeg o3 := ⟨_, rfl⟩
      have hm := nm_s er6 hm
      have hW : mx_W G s A [xO q_t 5 [.ref q_t_tape, .ref q_t_names, .ref q_t_nameLines, .ref q_t_nameNumbers, v_t_filled, .int o1.2.2.2.2.1, .int o1.2.2.2.2.2.1, .ref q_t_draft, .int o1.2.2.2.2.2.2.1, .int t_end, .int o1.2.2.2.2.2.2.2.1, .int o1.2.2.2.2.2.2.2.2.1, .int o1.2.2.2.2.2.2.2.2.2.1, .int o1.2.2.2.2.2.2.2.2.2.2.1, .long o1.2.2.2.2.2.2.2.2.2.2.2], xB G q_t_tape 900 t_tape, xJ G q_t_names 24 o1.2.1, xI G q_t_nameLines 24 o1.2.2.1, xI G q_t_nameNumbers 24 o1.2.2.2.1, xO q_t_draft 6 [v_t_draft_flow, v_t_draft_tape, .int t_draft_reaches, v_t_draft_ropes, v_t_draft_hands, v_t_draft_boats, v_t_draft_muds, v_t_draft_loose, .ref q_t_draft_kind, .ref q_t_draft_wide, .ref q_t_draft_bank, v_t_draft_mud, v_t_draft_ropeAt, v_t_draft_pulls, v_t_draft_bears, v_t_draft_strong, v_t_draft_boatWide, v_t_draft_boatDeep], xI G q_t_draft_kind 6 r6, xI G q_t_draft_wide 6 t_draft_wide, xI G q_t_draft_bank 6 t_draft_bank] H locs := by rw [er6]; exact hW
      refine lv_aload_n hx hb dX5_readReach_45 rfl (lv_at hl 2 rfl) ?_
      obtain ⟨o7, ho7, hm⟩ := bd_s hm
      refine mx_callV (C := RX5) (T := TX5) (N := 15) (ci := 5) (n := 0) (As := []) (rest := []) (st1 := []) (w2 := [xO q_t 5 [.ref q_t_tape, .ref q_t_names, .ref q_t_nameLines, .ref q_t_nameNumbers, v_t_filled, .int o1.2.2.2.2.1, .int o1.2.2.2.2.2.1, .ref q_t_draft, .int o1.2.2.2.2.2.2.1, .int t_end, .int o7.1, .int o7.2.1, .int o7.2.2.1, .int o7.2.2.2.1, .long o7.2.2.2.2], xB G q_t_tape 900 t_tape, xJ G q_t_names 24 o1.2.1, xI G q_t_nameLines 24 o1.2.2.1, xI G q_t_nameNumbers 24 o1.2.2.2.1, xO q_t_draft 6 [v_t_draft_flow, v_t_draft_tape, .int t_draft_reaches, v_t_draft_ropes, v_t_draft_hands, v_t_draft_boats, v_t_draft_muds, v_t_draft_loose, .ref q_t_draft_kind, .ref q_t_draft_wide, .ref q_t_draft_bank, v_t_draft_mud, v_t_draft_ropeAt, v_t_draft_pulls, v_t_draft_bears, v_t_draft_strong, v_t_draft_boatWide, v_t_draft_boatDeep], xI G q_t_draft_kind 6 r6, xI G q_t_draft_wide 6 t_draft_wide, xI G q_t_draft_bank 6 t_draft_bank]) X hW hl.1 (c_X5_next l G q_t q_t_tape (.ref q_t_names) (.ref q_t_nameLines) (.ref q_t_nameNumbers) (v_t_filled) (.int o1.2.2.2.2.1) (.int o1.2.2.2.2.2.1) (.ref q_t_draft) (.int o1.2.2.2.2.2.2.1) t_tape t_end o1.2.2.2.2.2.2.2.1 o1.2.2.2.2.2.2.2.2.1 o1.2.2.2.2.2.2.2.2.2.1 o1.2.2.2.2.2.2.2.2.2.2.1 o1.2.2.2.2.2.2.2.2.2.2.2 o7 ho7) 0 rfl rfl kw_196 kw_197 kw_198 kw_15 kw_199 (by decide +kernel) ⟨rfl, rfl⟩ ⟨by decide, by decide⟩ ⟨Nat.zero_le _, Nat.zero_le _⟩ [0, 1] (by decide) rfl rfl rfl rfl rfl rfl (Nat.le_of_ble_eq_true rfl) rfl dX5_readReach_46 (fun H locs hW => ?_)
      refine lv_aload_n hx hb dX5_readReach_49 rfl (lv_at hl 2 rfl) ?_
      refine lv_ldc2 (v := 2003395685) hx hb hown (hts _ kw_259) dX5_readReach_50 ?_
      refine lv_iconst (v := 3) hx hb dX5_readReach_53 (by decide) ?_
      refine lv_bipush (v := 40) hx hb dX5_readReach_54 (by decide) ?_
      obtain ⟨o8, ho8, hm⟩ := bd_s hm
      refine mx_callV (C := RX5) (T := TX5) (N := 15) (ci := 5) (n := 3) (As := [.long 2003395685, .int 3, .int 40]) (rest := []) (st1 := [.int o8.1]) (w2 := [xO q_t 5 [.ref q_t_tape, .ref q_t_names, .ref q_t_nameLines, .ref q_t_nameNumbers, v_t_filled, .int o8.2.1, .int o8.2.2.1, .ref q_t_draft, .int o1.2.2.2.2.2.2.1, .int t_end, .int o8.2.2.2.1, .int o8.2.2.2.2.1, .int o8.2.2.2.2.2.1, .int o8.2.2.2.2.2.2.1, .long o8.2.2.2.2.2.2.2], xB G q_t_tape 900 t_tape, xJ G q_t_names 24 o1.2.1, xI G q_t_nameLines 24 o1.2.2.1, xI G q_t_nameNumbers 24 o1.2.2.2.1, xO q_t_draft 6 [v_t_draft_flow, v_t_draft_tape, .int t_draft_reaches, v_t_draft_ropes, v_t_draft_hands, v_t_draft_boats, v_t_draft_muds, v_t_draft_loose, .ref q_t_draft_kind, .ref q_t_draft_wide, .ref q_t_draft_bank, v_t_draft_mud, v_t_draft_ropeAt, v_t_draft_pulls, v_t_draft_bears, v_t_draft_strong, v_t_draft_boatWide, v_t_draft_boatDeep], xI G q_t_draft_kind 6 r6, xI G q_t_draft_wide 6 t_draft_wide, xI G q_t_draft_bank 6 t_draft_bank]) X hW hl.1 (c_X5_readWhole l G q_t q_t_tape (.ref q_t_names) (.ref q_t_nameLines) (.ref q_t_nameNumbers) (v_t_filled) (.ref q_t_draft) (.int o1.2.2.2.2.2.2.1) t_tape o1.2.2.2.2.1 o1.2.2.2.2.2.1 t_end o7.1 o7.2.1 o7.2.2.1 o7.2.2.2.1 o7.2.2.2.2 2003395685 3 40 o8 ho8) 0 rfl rfl kw_246 kw_247 kw_248 kw_15 kw_249 (by decide +kernel) ⟨rfl, rfl⟩ ⟨by decide, by decide⟩ ⟨Nat.zero_le _, Nat.zero_le _⟩ [0, 1] (by decide) rfl rfl rfl rfl rfl rfl (Nat.le_of_ble_eq_true rfl) rfl dX5_readReach_56 (fun H locs hW => ?_)
      refine lv_if_ne (tgt := 64) hx hb dX5_readReach_59 (by decide) (fun c9 => ?_) (fun c9 => ?_)
      · have hm := (if_neg c9).symm.trans hm
        refine lv_aload_n hx hb dX5_readReach_64 rfl (lv_at hl 2 rfl) ?_
        refine mx_get (C := RX5) (T := TX5) (N := 15) (ci := 5) X hW 0 rfl rfl tbc_X5 7 (by decide) kw_64 rfl dX5_readReach_65 ?_
        refine mx_get (C := RX6) (T := TX6) (N := 18) (ci := 6) X hW 5 rfl rfl tbc_X6 9 (by decide) kw_260 rfl dX5_readReach_68 ?_
        refine lv_iload_n hx hb dX5_readReach_71 rfl (lv_at hl 1 rfl) ?_
        refine lv_aload_n hx hb dX5_readReach_72 rfl (lv_at hl 2 rfl) ?_
        refine mx_get (C := RX5) (T := TX5) (N := 15) (ci := 5) X hW 0 rfl rfl tbc_X5 13 (by decide) kw_210 rfl dX5_readReach_73 ?_
        obtain ⟨hg10, hm⟩ := gd_s hm
        refine mx_iast (w2 := [xO q_t 5 [.ref q_t_tape, .ref q_t_names, .ref q_t_nameLines, .ref q_t_nameNumbers, v_t_filled, .int o8.2.1, .int o8.2.2.1, .ref q_t_draft, .int o1.2.2.2.2.2.2.1, .int t_end, .int o8.2.2.2.1, .int o8.2.2.2.2.1, .int o8.2.2.2.2.2.1, .int o8.2.2.2.2.2.2.1, .long o8.2.2.2.2.2.2.2], xB G q_t_tape 900 t_tape, xJ G q_t_names 24 o1.2.1, xI G q_t_nameLines 24 o1.2.2.1, xI G q_t_nameNumbers 24 o1.2.2.2.1, xO q_t_draft 6 [v_t_draft_flow, v_t_draft_tape, .int t_draft_reaches, v_t_draft_ropes, v_t_draft_hands, v_t_draft_boats, v_t_draft_muds, v_t_draft_loose, .ref q_t_draft_kind, .ref q_t_draft_wide, .ref q_t_draft_bank, v_t_draft_mud, v_t_draft_ropeAt, v_t_draft_pulls, v_t_draft_bears, v_t_draft_strong, v_t_draft_boatWide, v_t_draft_boatDeep], xI G q_t_draft_kind 6 r6, xI G q_t_draft_wide 6 (upd t_draft_wide t_draft_reaches.toNatClampNeg o8.2.2.2.2.2.2.1), xI G q_t_draft_bank 6 t_draft_bank]) X hW 7 rfl (inb_s hg10) rfl dX5_readReach_76 (fun H locs hW => ?_)
        obtain ⟨r11, er11⟩ : ∃ z, z = upd t_draft_wide t_draft_reaches.toNatClampNeg o8.2.2.2.2.2.2.1 := ⟨_, rfl⟩
        have hm := nm_s er11 hm
        have hW : mx_W G s A [xO q_t 5 [.ref q_t_tape, .ref q_t_names, .ref q_t_nameLines, .ref q_t_nameNumbers, v_t_filled, .int o8.2.1, .int o8.2.2.1, .ref q_t_draft, .int o1.2.2.2.2.2.2.1, .int t_end, .int o8.2.2.2.1, .int o8.2.2.2.2.1, .int o8.2.2.2.2.2.1, .int o8.2.2.2.2.2.2.1, .long o8.2.2.2.2.2.2.2], xB G q_t_tape 900 t_tape, xJ G q_t_names 24 o1.2.1, xI G q_t_nameLines 24 o1.2.2.1, xI G q_t_nameNumbers 24 o1.2.2.2.1, xO q_t_draft 6 [v_t_draft_flow, v_t_draft_tape, .int t_draft_reaches, v_t_draft_ropes, v_t_draft_hands, v_t_draft_boats, v_t_draft_muds, v_t_draft_loose, .ref q_t_draft_kind, .ref q_t_draft_wide, .ref q_t_draft_bank, v_t_draft_mud, v_t_draft_ropeAt, v_t_draft_pulls, v_t_draft_bears, v_t_draft_strong, v_t_draft_boatWide, v_t_draft_boatDeep], xI G q_t_draft_kind 6 r6, xI G q_t_draft_wide 6 r11, xI G q_t_draft_bank 6 t_draft_bank] H locs := by rw [er11]; exact hW
        refine lv_aload_n hx hb dX5_readReach_77 rfl (lv_at hl 2 rfl) ?_
        obtain ⟨o12, ho12, hm⟩ := bd_s hm
        refine mx_callV (C := RX5) (T := TX5) (N := 15) (ci := 5) (n := 0) (As := []) (rest := []) (st1 := []) (w2 := [xO q_t 5 [.ref q_t_tape, .ref q_t_names, .ref q_t_nameLines, .ref q_t_nameNumbers, v_t_filled, .int o8.2.1, .int o8.2.2.1, .ref q_t_draft, .int o1.2.2.2.2.2.2.1, .int t_end, .int o12.1, .int o12.2.1, .int o12.2.2.1, .int o12.2.2.2.1, .long o12.2.2.2.2], xB G q_t_tape 900 t_tape, xJ G q_t_names 24 o1.2.1, xI G q_t_nameLines 24 o1.2.2.1, xI G q_t_nameNumbers 24 o1.2.2.2.1, xO q_t_draft 6 [v_t_draft_flow, v_t_draft_tape, .int t_draft_reaches, v_t_draft_ropes, v_t_draft_hands, v_t_draft_boats, v_t_draft_muds, v_t_draft_loose, .ref q_t_draft_kind, .ref q_t_draft_wide, .ref q_t_draft_bank, v_t_draft_mud, v_t_draft_ropeAt, v_t_draft_pulls, v_t_draft_bears, v_t_draft_strong, v_t_draft_boatWide, v_t_draft_boatDeep], xI G q_t_draft_kind 6 r6, xI G q_t_draft_wide 6 r11, xI G q_t_draft_bank 6 t_draft_bank]) X hW hl.1 (c_X5_next l G q_t q_t_tape (.ref q_t_names) (.ref q_t_nameLines) (.ref q_t_nameNumbers) (v_t_filled) (.int o8.2.1) (.int o8.2.2.1) (.ref q_t_draft) (.int o1.2.2.2.2.2.2.1) t_tape t_end o8.2.2.2.1 o8.2.2.2.2.1 o8.2.2.2.2.2.1 o8.2.2.2.2.2.2.1 o8.2.2.2.2.2.2.2 o12 ho12) 0 rfl rfl kw_196 kw_197 kw_198 kw_15 kw_199 (by decide +kernel) ⟨rfl, rfl⟩ ⟨by decide, by decide⟩ ⟨Nat.zero_le _, Nat.zero_le _⟩ [0, 1] (by decide) rfl rfl rfl rfl rfl rfl (Nat.le_of_ble_eq_true rfl) rfl dX5_readReach_78 (fun H locs hW => ?_)
        refine lv_aload_n hx hb dX5_readReach_81 rfl (lv_at hl 2 rfl) ?_
        refine lv_ldc2 (v := 1650552427) hx hb hown (hts _ kw_261) dX5_readReach_82 ?_
        refine lv_iconst (v := 1) hx hb dX5_readReach_85 (by decide) ?_
        refine lv_bipush (v := 99) hx hb dX5_readReach_86 (by decide) ?_
        obtain ⟨o13, ho13, hm⟩ := bd_s hm
        refine mx_callV (C := RX5) (T := TX5) (N := 15) (ci := 5) (n := 3) (As := [.long 1650552427, .int 1, .int 99]) (rest := []) (st1 := [.int o13.1]) (w2 := [xO q_t 5 [.ref q_t_tape, .ref q_t_names, .ref q_t_nameLines, .ref q_t_nameNumbers, v_t_filled, .int o13.2.1, .int o13.2.2.1, .ref q_t_draft, .int o1.2.2.2.2.2.2.1, .int t_end, .int o13.2.2.2.1, .int o13.2.2.2.2.1, .int o13.2.2.2.2.2.1, .int o13.2.2.2.2.2.2.1, .long o13.2.2.2.2.2.2.2], xB G q_t_tape 900 t_tape, xJ G q_t_names 24 o1.2.1, xI G q_t_nameLines 24 o1.2.2.1, xI G q_t_nameNumbers 24 o1.2.2.2.1, xO q_t_draft 6 [v_t_draft_flow, v_t_draft_tape, .int t_draft_reaches, v_t_draft_ropes, v_t_draft_hands, v_t_draft_boats, v_t_draft_muds, v_t_draft_loose, .ref q_t_draft_kind, .ref q_t_draft_wide, .ref q_t_draft_bank, v_t_draft_mud, v_t_draft_ropeAt, v_t_draft_pulls, v_t_draft_bears, v_t_draft_strong, v_t_draft_boatWide, v_t_draft_boatDeep], xI G q_t_draft_kind 6 r6, xI G q_t_draft_wide 6 r11, xI G q_t_draft_bank 6 t_draft_bank]) X hW hl.1 (c_X5_readWhole l G q_t q_t_tape (.ref q_t_names) (.ref q_t_nameLines) (.ref q_t_nameNumbers) (v_t_filled) (.ref q_t_draft) (.int o1.2.2.2.2.2.2.1) t_tape o8.2.1 o8.2.2.1 t_end o12.1 o12.2.1 o12.2.2.1 o12.2.2.2.1 o12.2.2.2.2 1650552427 1 99 o13 ho13) 0 rfl rfl kw_246 kw_247 kw_248 kw_15 kw_249 (by decide +kernel) ⟨rfl, rfl⟩ ⟨by decide, by decide⟩ ⟨Nat.zero_le _, Nat.zero_le _⟩ [0, 1] (by decide) rfl rfl rfl rfl rfl rfl (Nat.le_of_ble_eq_true rfl) rfl dX5_readReach_88 (fun H locs hW => ?_)
        refine lv_if_ne (tgt := 96) hx hb dX5_readReach_91 (by decide) (fun c14 => ?_) (fun c14 => ?_)
        · have hm := (if_neg c14).symm.trans hm
          refine lv_aload_n hx hb dX5_readReach_96 rfl (lv_at hl 2 rfl) ?_
          refine mx_get (C := RX5) (T := TX5) (N := 15) (ci := 5) X hW 0 rfl rfl tbc_X5 7 (by decide) kw_64 rfl dX5_readReach_97 ?_
          refine mx_get (C := RX6) (T := TX6) (N := 18) (ci := 6) X hW 5 rfl rfl tbc_X6 10 (by decide) kw_262 rfl dX5_readReach_100 ?_
          refine lv_iload_n hx hb dX5_readReach_103 rfl (lv_at hl 1 rfl) ?_
          refine lv_aload_n hx hb dX5_readReach_104 rfl (lv_at hl 2 rfl) ?_
          refine mx_get (C := RX5) (T := TX5) (N := 15) (ci := 5) X hW 0 rfl rfl tbc_X5 13 (by decide) kw_210 rfl dX5_readReach_105 ?_
          obtain ⟨hg15, hm⟩ := gd_s hm
          refine mx_iast (w2 := [xO q_t 5 [.ref q_t_tape, .ref q_t_names, .ref q_t_nameLines, .ref q_t_nameNumbers, v_t_filled, .int o13.2.1, .int o13.2.2.1, .ref q_t_draft, .int o1.2.2.2.2.2.2.1, .int t_end, .int o13.2.2.2.1, .int o13.2.2.2.2.1, .int o13.2.2.2.2.2.1, .int o13.2.2.2.2.2.2.1, .long o13.2.2.2.2.2.2.2], xB G q_t_tape 900 t_tape, xJ G q_t_names 24 o1.2.1, xI G q_t_nameLines 24 o1.2.2.1, xI G q_t_nameNumbers 24 o1.2.2.2.1, xO q_t_draft 6 [v_t_draft_flow, v_t_draft_tape, .int t_draft_reaches, v_t_draft_ropes, v_t_draft_hands, v_t_draft_boats, v_t_draft_muds, v_t_draft_loose, .ref q_t_draft_kind, .ref q_t_draft_wide, .ref q_t_draft_bank, v_t_draft_mud, v_t_draft_ropeAt, v_t_draft_pulls, v_t_draft_bears, v_t_draft_strong, v_t_draft_boatWide, v_t_draft_boatDeep], xI G q_t_draft_kind 6 r6, xI G q_t_draft_wide 6 r11, xI G q_t_draft_bank 6 (upd t_draft_bank t_draft_reaches.toNatClampNeg o13.2.2.2.2.2.2.1)]) X hW 8 rfl (inb_s hg15) rfl dX5_readReach_108 (fun H locs hW => ?_)
          obtain ⟨r16, er16⟩ : ∃ z, z = upd t_draft_bank t_draft_reaches.toNatClampNeg o13.2.2.2.2.2.2.1 := ⟨_, rfl⟩
          have hm := nm_s er16 hm
          have hW : mx_W G s A [xO q_t 5 [.ref q_t_tape, .ref q_t_names, .ref q_t_nameLines, .ref q_t_nameNumbers, v_t_filled, .int o13.2.1, .int o13.2.2.1, .ref q_t_draft, .int o1.2.2.2.2.2.2.1, .int t_end, .int o13.2.2.2.1, .int o13.2.2.2.2.1, .int o13.2.2.2.2.2.1, .int o13.2.2.2.2.2.2.1, .long o13.2.2.2.2.2.2.2], xB G q_t_tape 900 t_tape, xJ G q_t_names 24 o1.2.1, xI G q_t_nameLines 24 o1.2.2.1, xI G q_t_nameNumbers 24 o1.2.2.2.1, xO q_t_draft 6 [v_t_draft_flow, v_t_draft_tape, .int t_draft_reaches, v_t_draft_ropes, v_t_draft_hands, v_t_draft_boats, v_t_draft_muds, v_t_draft_loose, .ref q_t_draft_kind, .ref q_t_draft_wide, .ref q_t_draft_bank, v_t_draft_mud, v_t_draft_ropeAt, v_t_draft_pulls, v_t_draft_bears, v_t_draft_strong, v_t_draft_boatWide, v_t_draft_boatDeep], xI G q_t_draft_kind 6 r6, xI G q_t_draft_wide 6 r11, xI G q_t_draft_bank 6 r16] H locs := by rw [er16]; exact hW
          refine lv_aload_n hx hb dX5_readReach_109 rfl (lv_at hl 2 rfl) ?_
          obtain ⟨o17, ho17, hm⟩ := bd_s hm
          refine mx_callV (C := RX5) (T := TX5) (N := 15) (ci := 5) (n := 0) (As := []) (rest := []) (st1 := []) (w2 := [xO q_t 5 [.ref q_t_tape, .ref q_t_names, .ref q_t_nameLines, .ref q_t_nameNumbers, v_t_filled, .int o13.2.1, .int o13.2.2.1, .ref q_t_draft, .int o1.2.2.2.2.2.2.1, .int t_end, .int o17.1, .int o17.2.1, .int o17.2.2.1, .int o17.2.2.2.1, .long o17.2.2.2.2], xB G q_t_tape 900 t_tape, xJ G q_t_names 24 o1.2.1, xI G q_t_nameLines 24 o1.2.2.1, xI G q_t_nameNumbers 24 o1.2.2.2.1, xO q_t_draft 6 [v_t_draft_flow, v_t_draft_tape, .int t_draft_reaches, v_t_draft_ropes, v_t_draft_hands, v_t_draft_boats, v_t_draft_muds, v_t_draft_loose, .ref q_t_draft_kind, .ref q_t_draft_wide, .ref q_t_draft_bank, v_t_draft_mud, v_t_draft_ropeAt, v_t_draft_pulls, v_t_draft_bears, v_t_draft_strong, v_t_draft_boatWide, v_t_draft_boatDeep], xI G q_t_draft_kind 6 r6, xI G q_t_draft_wide 6 r11, xI G q_t_draft_bank 6 r16]) X hW hl.1 (c_X5_next l G q_t q_t_tape (.ref q_t_names) (.ref q_t_nameLines) (.ref q_t_nameNumbers) (v_t_filled) (.int o13.2.1) (.int o13.2.2.1) (.ref q_t_draft) (.int o1.2.2.2.2.2.2.1) t_tape t_end o13.2.2.2.1 o13.2.2.2.2.1 o13.2.2.2.2.2.1 o13.2.2.2.2.2.2.1 o13.2.2.2.2.2.2.2 o17 ho17) 0 rfl rfl kw_196 kw_197 kw_198 kw_15 kw_199 (by decide +kernel) ⟨rfl, rfl⟩ ⟨by decide, by decide⟩ ⟨Nat.zero_le _, Nat.zero_le _⟩ [0, 1] (by decide) rfl rfl rfl rfl rfl rfl (Nat.le_of_ble_eq_true rfl) rfl dX5_readReach_110 (fun H locs hW => ?_)
          refine lv_aload_n hx hb dX5_readReach_113 rfl (lv_at hl 2 rfl) ?_
          refine mx_get (C := RX5) (T := TX5) (N := 15) (ci := 5) X hW 0 rfl rfl tbc_X5 7 (by decide) kw_64 rfl dX5_readReach_114 ?_
          refine lv_dup hx hb dX5_readReach_117 rfl ?_
          refine mx_get (C := RX6) (T := TX6) (N := 18) (ci := 6) X hW 5 rfl rfl tbc_X6 2 (by decide) kw_183 rfl dX5_readReach_118 ?_
          refine lv_iconst (v := 1) hx hb dX5_readReach_121 (by decide) ?_
          refine lv_iadd hx hb dX5_readReach_122 ?_
          refine lv_topi (fun z18 ez18 => ?_)
          have hm := nm_s ez18 hm
          refine mx_put (C := RX6) (T := TX6) (N := 18) (ci := 6) (w2 := [xO q_t 5 [.ref q_t_tape, .ref q_t_names, .ref q_t_nameLines, .ref q_t_nameNumbers, v_t_filled, .int o13.2.1, .int o13.2.2.1, .ref q_t_draft, .int o1.2.2.2.2.2.2.1, .int t_end, .int o17.1, .int o17.2.1, .int o17.2.2.1, .int o17.2.2.2.1, .long o17.2.2.2.2], xB G q_t_tape 900 t_tape, xJ G q_t_names 24 o1.2.1, xI G q_t_nameLines 24 o1.2.2.1, xI G q_t_nameNumbers 24 o1.2.2.2.1, xO q_t_draft 6 [v_t_draft_flow, v_t_draft_tape, .int z18, v_t_draft_ropes, v_t_draft_hands, v_t_draft_boats, v_t_draft_muds, v_t_draft_loose, .ref q_t_draft_kind, .ref q_t_draft_wide, .ref q_t_draft_bank, v_t_draft_mud, v_t_draft_ropeAt, v_t_draft_pulls, v_t_draft_bears, v_t_draft_strong, v_t_draft_boatWide, v_t_draft_boatDeep], xI G q_t_draft_kind 6 r6, xI G q_t_draft_wide 6 r11, xI G q_t_draft_bank 6 r16]) X hW 5 rfl rfl tbc_X6 tyX6 tyX6_ok nmX6 2 (by decide) kw_183 rfl rfl rfl rfl (Nat.le_of_ble_eq_true rfl) rfl dX5_readReach_123 (fun H locs hW => ?_)
          refine lv_iconst (v := 1) hx hb dX5_readReach_126 (by decide) ?_
          obtain rfl := Option.some.inj hm
          exact mx_zret X nb1 hW dX5_readReach_127
        · have hm := (if_pos c14).symm.trans hm
          refine lv_iconst (v := 0) hx hb dX5_readReach_94 (by decide) ?_
          obtain rfl := Option.some.inj hm
          exact mx_zret X nb0 hW dX5_readReach_95
      · have hm := (if_pos c9).symm.trans hm
        refine lv_iconst (v := 0) hx hb dX5_readReach_62 (by decide) ?_
        obtain rfl := Option.some.inj hm
        exact mx_zret X nb0 hW dX5_readReach_63
    · have hm := (if_pos c4).symm.trans hm
      refine lv_aload_n hx hb dX5_readReach_29 rfl (lv_at hl 2 rfl) ?_
      refine lv_iconst (v := 1) hx hb dX5_readReach_30 (by decide) ?_
      obtain ⟨o19, ho19, hm⟩ := bd_s hm
      refine mx_callV (C := RX5) (T := TX5) (N := 15) (ci := 5) (n := 1) (As := [.int 1]) (rest := []) (st1 := [.int o19.1]) (w2 := [xO q_t 5 [.ref q_t_tape, .ref q_t_names, .ref q_t_nameLines, .ref q_t_nameNumbers, v_t_filled, .int o19.2.1, .int o19.2.2, .ref q_t_draft, .int o1.2.2.2.2.2.2.1, .int t_end, .int o1.2.2.2.2.2.2.2.1, .int o1.2.2.2.2.2.2.2.2.1, .int o1.2.2.2.2.2.2.2.2.2.1, .int o1.2.2.2.2.2.2.2.2.2.2.1, .long o1.2.2.2.2.2.2.2.2.2.2.2], xB G q_t_tape 900 t_tape, xJ G q_t_names 24 o1.2.1, xI G q_t_nameLines 24 o1.2.2.1, xI G q_t_nameNumbers 24 o1.2.2.2.1, xO q_t_draft 6 [v_t_draft_flow, v_t_draft_tape, .int t_draft_reaches, v_t_draft_ropes, v_t_draft_hands, v_t_draft_boats, v_t_draft_muds, v_t_draft_loose, .ref q_t_draft_kind, .ref q_t_draft_wide, .ref q_t_draft_bank, v_t_draft_mud, v_t_draft_ropeAt, v_t_draft_pulls, v_t_draft_bears, v_t_draft_strong, v_t_draft_boatWide, v_t_draft_boatDeep], xI G q_t_draft_kind 6 t_draft_kind, xI G q_t_draft_wide 6 t_draft_wide, xI G q_t_draft_bank 6 t_draft_bank]) X hW hl.1 (c_X5_fail l G q_t (.ref q_t_tape) (.ref q_t_names) (.ref q_t_nameLines) (.ref q_t_nameNumbers) (v_t_filled) (.ref q_t_draft) (.int o1.2.2.2.2.2.2.1) (.int t_end) (.int o1.2.2.2.2.2.2.2.1) (.int o1.2.2.2.2.2.2.2.2.1) (.int o1.2.2.2.2.2.2.2.2.2.2.1) (.long o1.2.2.2.2.2.2.2.2.2.2.2) o1.2.2.2.2.1 o1.2.2.2.2.2.1 o1.2.2.2.2.2.2.2.2.2.1 1 o19 ho19) 0 rfl rfl kw_227 kw_228 kw_229 kw_15 kw_230 (by decide +kernel) ⟨rfl, rfl⟩ ⟨by decide, by decide⟩ ⟨Nat.zero_le _, Nat.zero_le _⟩ [0] (by decide) rfl rfl rfl rfl rfl rfl (Nat.le_of_ble_eq_true rfl) rfl dX5_readReach_31 (fun H locs hW => ?_)
      obtain ⟨hg20, hm⟩ := gd_s hm
      obtain rfl := Option.some.inj hm
      exact mx_zret X (nbl_s hg20) hW dX5_readReach_34
  · have hm := (if_pos c2).symm.trans hm
    refine lv_iconst (v := 0) hx hb dX5_readReach_17 (by decide) ?_
    obtain rfl := Option.some.inj hm
    exact mx_zret X nb0 hW dX5_readReach_18

abbrev rm_X5_readRiver : Room := { frames := 3, cells := 0, slots := 0, locals := 64 }
noncomputable def f_X5_readRiver (t_tape : Nat → Int32) (t_fault : Int32) (t_faultPlace : Int32) (t_draft_flow : Int32) (t_draft_tape : Int32) (t_end : Int32) (t_at : Int32) (t_sort : Int32) (t_place : Int32) (t_value : Int32) (t_code : Int64) : Option (Int32 × Int32 × Int32 × Int32 × Int32 × Int32 × Int32 × Int32 × Int32 × Int64) :=
  (f_X5_readWhole 1718382455 1 900 t_tape t_fault t_faultPlace t_end t_at t_sort t_place t_value t_code).bind fun o1 => (if o1.1 = 0 then
    some (0, o1.2.1, o1.2.2.1, t_draft_flow, t_draft_tape, o1.2.2.2.1, o1.2.2.2.2.1, o1.2.2.2.2.2.1, o1.2.2.2.2.2.2.1, o1.2.2.2.2.2.2.2)
  else
    (f_X5_next t_tape t_end o1.2.2.2.1 o1.2.2.2.2.1 o1.2.2.2.2.2.1 o1.2.2.2.2.2.2.1 o1.2.2.2.2.2.2.2).bind fun o3 => (f_X5_readWhole 1952542821 2 40 t_tape o1.2.1 o1.2.2.1 t_end o3.1 o3.2.1 o3.2.2.1 o3.2.2.2.1 o3.2.2.2.2).bind fun o4 => (if o4.1 = 0 then
      some (0, o4.2.1, o4.2.2.1, o1.2.2.2.2.2.2.1, t_draft_tape, o4.2.2.2.1, o4.2.2.2.2.1, o4.2.2.2.2.2.1, o4.2.2.2.2.2.2.1, o4.2.2.2.2.2.2.2)
    else
      (f_X5_next t_tape t_end o4.2.2.2.1 o4.2.2.2.2.1 o4.2.2.2.2.2.1 o4.2.2.2.2.2.2.1 o4.2.2.2.2.2.2.2).bind fun o6 => some (1, o4.2.1, o4.2.2.1, o1.2.2.2.2.2.2.1, o4.2.2.2.2.2.2.1, o6.1, o6.2.1, o6.2.2.1, o6.2.2.2.1, o6.2.2.2.2)))
set_option maxHeartbeats 4000000 in
set_option maxRecDepth 100000 in
theorem c_X5_readRiver (l : Launch) (G : mx_G) (q_t : Nat) (q_t_tape : Nat) (q_t_draft : Nat) (v_t_names : Value) (v_t_nameLines : Value) (v_t_nameNumbers : Value) (v_t_filled : Value) (v_t_named : Value) (v_t_draft_reaches : Value) (v_t_draft_ropes : Value) (v_t_draft_hands : Value) (v_t_draft_boats : Value) (v_t_draft_muds : Value) (v_t_draft_loose : Value) (v_t_draft_kind : Value) (v_t_draft_wide : Value) (v_t_draft_bank : Value) (v_t_draft_mud : Value) (v_t_draft_ropeAt : Value) (v_t_draft_pulls : Value) (v_t_draft_bears : Value) (v_t_draft_strong : Value) (v_t_draft_boatWide : Value) (v_t_draft_boatDeep : Value) (t_tape : Nat → Int32) (t_fault : Int32) (t_faultPlace : Int32) (t_draft_flow : Int32) (t_draft_tape : Int32) (t_end : Int32) (t_at : Int32) (t_sort : Int32) (t_place : Int32) (t_value : Int32) (t_code : Int64) (out : Int32 × Int32 × Int32 × Int32 × Int32 × Int32 × Int32 × Int32 × Int32 × Int64) (hm : f_X5_readRiver t_tape t_fault t_faultPlace t_draft_flow t_draft_tape t_end t_at t_sort t_place t_value t_code = some out) : mx_C l yX5_readRiver cX5_readRiver 1 (some .boolean) rm_X5_readRiver G [.ref q_t] [xO q_t 5 [.ref q_t_tape, v_t_names, v_t_nameLines, v_t_nameNumbers, v_t_filled, .int t_fault, .int t_faultPlace, .ref q_t_draft, v_t_named, .int t_end, .int t_at, .int t_sort, .int t_place, .int t_value, .long t_code], xB G q_t_tape 900 t_tape, xO q_t_draft 6 [.int t_draft_flow, .int t_draft_tape, v_t_draft_reaches, v_t_draft_ropes, v_t_draft_hands, v_t_draft_boats, v_t_draft_muds, v_t_draft_loose, v_t_draft_kind, v_t_draft_wide, v_t_draft_bank, v_t_draft_mud, v_t_draft_ropeAt, v_t_draft_pulls, v_t_draft_bears, v_t_draft_strong, v_t_draft_boatWide, v_t_draft_boatDeep]] (some (.int out.1)) [xO q_t 5 [.ref q_t_tape, v_t_names, v_t_nameLines, v_t_nameNumbers, v_t_filled, .int out.2.1, .int out.2.2.1, .ref q_t_draft, v_t_named, .int t_end, .int out.2.2.2.2.2.1, .int out.2.2.2.2.2.2.1, .int out.2.2.2.2.2.2.2.1, .int out.2.2.2.2.2.2.2.2.1, .long out.2.2.2.2.2.2.2.2.2], xB G q_t_tape 900 t_tape, xO q_t_draft 6 [.int out.2.2.2.1, .int out.2.2.2.2.1, v_t_draft_reaches, v_t_draft_ropes, v_t_draft_hands, v_t_draft_boats, v_t_draft_muds, v_t_draft_loose, v_t_draft_kind, v_t_draft_wide, v_t_draft_bank, v_t_draft_mud, v_t_draft_ropeAt, v_t_draft_pulls, v_t_draft_bears, v_t_draft_strong, v_t_draft_boatWide, v_t_draft_boatDeep]] := by
  refine mx_enter (own := RX5) (name := "readRiver") (lv := [(0, .ref q_t)]) (by decide) rfl rfl (Nat.le_of_ble_eq_true rfl) rfl ?_
  intro p e s m args below meth c A ls X hW hl
  obtain ⟨hx, hb, hml, hown, hts, hKN, -⟩ := id X
  unfold f_X5_readRiver at hm
  refine lv_aload_n hx hb dX5_readRiver_0 rfl (lv_at hl 0 rfl) ?_
  refine lv_ldc2 (v := 1718382455) hx hb hown (hts _ kw_243) dX5_readRiver_1 ?_
  refine lv_iconst (v := 1) hx hb dX5_readRiver_4 (by decide) ?_
  refine lv_sipush (v := 900) hx hb dX5_readRiver_5 (by decide) ?_
  obtain ⟨o1, ho1, hm⟩ := bd_s hm
  refine mx_callV (C := RX5) (T := TX5) (N := 15) (ci := 5) (n := 3) (As := [.long 1718382455, .int 1, .int 900]) (rest := []) (st1 := [.int o1.1]) (w2 := [xO q_t 5 [.ref q_t_tape, v_t_names, v_t_nameLines, v_t_nameNumbers, v_t_filled, .int o1.2.1, .int o1.2.2.1, .ref q_t_draft, v_t_named, .int t_end, .int o1.2.2.2.1, .int o1.2.2.2.2.1, .int o1.2.2.2.2.2.1, .int o1.2.2.2.2.2.2.1, .long o1.2.2.2.2.2.2.2], xB G q_t_tape 900 t_tape, xO q_t_draft 6 [.int t_draft_flow, .int t_draft_tape, v_t_draft_reaches, v_t_draft_ropes, v_t_draft_hands, v_t_draft_boats, v_t_draft_muds, v_t_draft_loose, v_t_draft_kind, v_t_draft_wide, v_t_draft_bank, v_t_draft_mud, v_t_draft_ropeAt, v_t_draft_pulls, v_t_draft_bears, v_t_draft_strong, v_t_draft_boatWide, v_t_draft_boatDeep]]) X hW hl.1 (c_X5_readWhole l G q_t q_t_tape (v_t_names) (v_t_nameLines) (v_t_nameNumbers) (v_t_filled) (.ref q_t_draft) (v_t_named) t_tape t_fault t_faultPlace t_end t_at t_sort t_place t_value t_code 1718382455 1 900 o1 ho1) 0 rfl rfl kw_246 kw_247 kw_248 kw_15 kw_249 (by decide +kernel) ⟨rfl, rfl⟩ ⟨by decide, by decide⟩ ⟨Nat.zero_le _, Nat.zero_le _⟩ [0, 1] (by decide) rfl rfl rfl rfl rfl rfl (Nat.le_of_ble_eq_true rfl) rfl dX5_readRiver_8 (fun H locs hW => ?_)
  refine lv_if_ne (tgt := 16) hx hb dX5_readRiver_11 (by decide) (fun c2 => ?_) (fun c2 => ?_)
  · have hm := (if_neg c2).symm.trans hm
    refine lv_aload_n hx hb dX5_readRiver_16 rfl (lv_at hl 0 rfl) ?_
    refine mx_get (C := RX5) (T := TX5) (N := 15) (ci := 5) X hW 0 rfl rfl tbc_X5 7 (by decide) kw_64 rfl dX5_readRiver_17 ?_
    refine lv_aload_n hx hb dX5_readRiver_20 rfl (lv_at hl 0 rfl) ?_
    refine mx_get (C := RX5) (T := TX5) (N := 15) (ci := 5) X hW 0 rfl rfl tbc_X5 13 (by decide) kw_210 rfl dX5_readRiver_21 ?_
    refine mx_put (C := RX6) (T := TX6) (N := 18) (ci := 6) (w2 := [xO q_t 5 [.ref q_t_tape, v_t_names, v_t_nameLines, v_t_nameNumbers, v_t_filled, .int o1.2.1, .int o1.2.2.1, .ref q_t_draft, v_t_named, .int t_end, .int o1.2.2.2.1, .int o1.2.2.2.2.1, .int o1.2.2.2.2.2.1, .int o1.2.2.2.2.2.2.1, .long o1.2.2.2.2.2.2.2], xB G q_t_tape 900 t_tape, xO q_t_draft 6 [.int o1.2.2.2.2.2.2.1, .int t_draft_tape, v_t_draft_reaches, v_t_draft_ropes, v_t_draft_hands, v_t_draft_boats, v_t_draft_muds, v_t_draft_loose, v_t_draft_kind, v_t_draft_wide, v_t_draft_bank, v_t_draft_mud, v_t_draft_ropeAt, v_t_draft_pulls, v_t_draft_bears, v_t_draft_strong, v_t_draft_boatWide, v_t_draft_boatDeep]]) X hW 2 rfl rfl tbc_X6 tyX6 tyX6_ok nmX6 0 (by decide) kw_215 rfl rfl rfl rfl (Nat.le_of_ble_eq_true rfl) rfl dX5_readRiver_24 (fun H locs hW => ?_)
    refine lv_aload_n hx hb dX5_readRiver_27 rfl (lv_at hl 0 rfl) ?_
    obtain ⟨o3, ho3, hm⟩ := bd_s hm
    refine mx_callV (C := RX5) (T := TX5) (N := 15) (ci := 5) (n := 0) (As := []) (rest := []) (st1 := []) (w2 := [xO q_t 5 [.ref q_t_tape, v_t_names, v_t_nameLines, v_t_nameNumbers, v_t_filled, .int o1.2.1, .int o1.2.2.1, .ref q_t_draft, v_t_named, .int t_end, .int o3.1, .int o3.2.1, .int o3.2.2.1, .int o3.2.2.2.1, .long o3.2.2.2.2], xB G q_t_tape 900 t_tape, xO q_t_draft 6 [.int o1.2.2.2.2.2.2.1, .int t_draft_tape, v_t_draft_reaches, v_t_draft_ropes, v_t_draft_hands, v_t_draft_boats, v_t_draft_muds, v_t_draft_loose, v_t_draft_kind, v_t_draft_wide, v_t_draft_bank, v_t_draft_mud, v_t_draft_ropeAt, v_t_draft_pulls, v_t_draft_bears, v_t_draft_strong, v_t_draft_boatWide, v_t_draft_boatDeep]]) X hW hl.1 (c_X5_next l G q_t q_t_tape (v_t_names) (v_t_nameLines) (v_t_nameNumbers) (v_t_filled) (.int o1.2.1) (.int o1.2.2.1) (.ref q_t_draft) (v_t_named) t_tape t_end o1.2.2.2.1 o1.2.2.2.2.1 o1.2.2.2.2.2.1 o1.2.2.2.2.2.2.1 o1.2.2.2.2.2.2.2 o3 ho3) 0 rfl rfl kw_196 kw_197 kw_198 kw_15 kw_199 (by decide +kernel) ⟨rfl, rfl⟩ ⟨by decide, by decide⟩ ⟨Nat.zero_le _, Nat.zero_le _⟩ [0, 1] (by decide) rfl rfl rfl rfl rfl rfl (Nat.le_of_ble_eq_true rfl) rfl dX5_readRiver_28 (fun H locs hW => ?_)
    refine lv_aload_n hx hb dX5_readRiver_31 rfl (lv_at hl 0 rfl) ?_
    refine lv_ldc2 (v := 1952542821) hx hb hown (hts _ kw_244) dX5_readRiver_32 ?_
    refine lv_iconst (v := 2) hx hb dX5_readRiver_35 (by decide) ?_
    refine lv_bipush (v := 40) hx hb dX5_readRiver_36 (by decide) ?_
    obtain ⟨o4, ho4, hm⟩ := bd_s hm
    refine mx_callV (C := RX5) (T := TX5) (N := 15) (ci := 5) (n := 3) (As := [.long 1952542821, .int 2, .int 40]) (rest := []) (st1 := [.int o4.1]) (w2 := [xO q_t 5 [.ref q_t_tape, v_t_names, v_t_nameLines, v_t_nameNumbers, v_t_filled, .int o4.2.1, .int o4.2.2.1, .ref q_t_draft, v_t_named, .int t_end, .int o4.2.2.2.1, .int o4.2.2.2.2.1, .int o4.2.2.2.2.2.1, .int o4.2.2.2.2.2.2.1, .long o4.2.2.2.2.2.2.2], xB G q_t_tape 900 t_tape, xO q_t_draft 6 [.int o1.2.2.2.2.2.2.1, .int t_draft_tape, v_t_draft_reaches, v_t_draft_ropes, v_t_draft_hands, v_t_draft_boats, v_t_draft_muds, v_t_draft_loose, v_t_draft_kind, v_t_draft_wide, v_t_draft_bank, v_t_draft_mud, v_t_draft_ropeAt, v_t_draft_pulls, v_t_draft_bears, v_t_draft_strong, v_t_draft_boatWide, v_t_draft_boatDeep]]) X hW hl.1 (c_X5_readWhole l G q_t q_t_tape (v_t_names) (v_t_nameLines) (v_t_nameNumbers) (v_t_filled) (.ref q_t_draft) (v_t_named) t_tape o1.2.1 o1.2.2.1 t_end o3.1 o3.2.1 o3.2.2.1 o3.2.2.2.1 o3.2.2.2.2 1952542821 2 40 o4 ho4) 0 rfl rfl kw_246 kw_247 kw_248 kw_15 kw_249 (by decide +kernel) ⟨rfl, rfl⟩ ⟨by decide, by decide⟩ ⟨Nat.zero_le _, Nat.zero_le _⟩ [0, 1] (by decide) rfl rfl rfl rfl rfl rfl (Nat.le_of_ble_eq_true rfl) rfl dX5_readRiver_38 (fun H locs hW => ?_)
    refine lv_if_ne (tgt := 46) hx hb dX5_readRiver_41 (by decide) (fun c5 => ?_) (fun c5 => ?_)
    · have hm := (if_neg c5).symm.trans hm
      refine lv_aload_n hx hb dX5_readRiver_46 rfl (lv_at hl 0 rfl) ?_
      refine mx_get (C := RX5) (T := TX5) (N := 15) (ci := 5) X hW 0 rfl rfl tbc_X5 7 (by decide) kw_64 rfl dX5_readRiver_47 ?_
      refine lv_aload_n hx hb dX5_readRiver_50 rfl (lv_at hl 0 rfl) ?_
      refine mx_get (C := RX5) (T := TX5) (N := 15) (ci := 5) X hW 0 rfl rfl tbc_X5 13 (by decide) kw_210 rfl dX5_readRiver_51 ?_
      refine mx_put (C := RX6) (T := TX6) (N := 18) (ci := 6) (w2 := [xO q_t 5 [.ref q_t_tape, v_t_names, v_t_nameLines, v_t_nameNumbers, v_t_filled, .int o4.2.1, .int o4.2.2.1, .ref q_t_draft, v_t_named, .int t_end, .int o4.2.2.2.1, .int o4.2.2.2.2.1, .int o4.2.2.2.2.2.1, .int o4.2.2.2.2.2.2.1, .long o4.2.2.2.2.2.2.2], xB G q_t_tape 900 t_tape, xO q_t_draft 6 [.int o1.2.2.2.2.2.2.1, .int o4.2.2.2.2.2.2.1, v_t_draft_reaches, v_t_draft_ropes, v_t_draft_hands, v_t_draft_boats, v_t_draft_muds, v_t_draft_loose, v_t_draft_kind, v_t_draft_wide, v_t_draft_bank, v_t_draft_mud, v_t_draft_ropeAt, v_t_draft_pulls, v_t_draft_bears, v_t_draft_strong, v_t_draft_boatWide, v_t_draft_boatDeep]]) X hW 2 rfl rfl tbc_X6 tyX6 tyX6_ok nmX6 1 (by decide) kw_245 rfl rfl rfl rfl (Nat.le_of_ble_eq_true rfl) rfl dX5_readRiver_54 (fun H locs hW => ?_)
      refine lv_aload_n hx hb dX5_readRiver_57 rfl (lv_at hl 0 rfl) ?_
      obtain ⟨o6, ho6, hm⟩ := bd_s hm
      refine mx_callV (C := RX5) (T := TX5) (N := 15) (ci := 5) (n := 0) (As := []) (rest := []) (st1 := []) (w2 := [xO q_t 5 [.ref q_t_tape, v_t_names, v_t_nameLines, v_t_nameNumbers, v_t_filled, .int o4.2.1, .int o4.2.2.1, .ref q_t_draft, v_t_named, .int t_end, .int o6.1, .int o6.2.1, .int o6.2.2.1, .int o6.2.2.2.1, .long o6.2.2.2.2], xB G q_t_tape 900 t_tape, xO q_t_draft 6 [.int o1.2.2.2.2.2.2.1, .int o4.2.2.2.2.2.2.1, v_t_draft_reaches, v_t_draft_ropes, v_t_draft_hands, v_t_draft_boats, v_t_draft_muds, v_t_draft_loose, v_t_draft_kind, v_t_draft_wide, v_t_draft_bank, v_t_draft_mud, v_t_draft_ropeAt, v_t_draft_pulls, v_t_draft_bears, v_t_draft_strong, v_t_draft_boatWide, v_t_draft_boatDeep]]) X hW hl.1 (c_X5_next l G q_t q_t_tape (v_t_names) (v_t_nameLines) (v_t_nameNumbers) (v_t_filled) (.int o4.2.1) (.int o4.2.2.1) (.ref q_t_draft) (v_t_named) t_tape t_end o4.2.2.2.1 o4.2.2.2.2.1 o4.2.2.2.2.2.1 o4.2.2.2.2.2.2.1 o4.2.2.2.2.2.2.2 o6 ho6) 0 rfl rfl kw_196 kw_197 kw_198 kw_15 kw_199 (by decide +kernel) ⟨rfl, rfl⟩ ⟨by decide, by decide⟩ ⟨Nat.zero_le _, Nat.zero_le _⟩ [0, 1] (by decide) rfl rfl rfl rfl rfl rfl (Nat.le_of_ble_eq_true rfl) rfl dX5_readRiver_58 (fun H locs hW => ?_)
      refine lv_iconst (v := 1) hx hb dX5_readRiver_61 (by decide) ?_
      obtain rfl := Option.some.inj hm
      exact mx_zret X nb1 hW dX5_readRiver_62
    · have hm := (if_pos c5).symm.trans hm
      refine lv_iconst (v := 0) hx hb dX5_readRiver_44 (by decide) ?_
      obtain rfl := Option.some.inj hm
      exact mx_zret X nb0 hW dX5_readRiver_45
  · have hm := (if_pos c2).symm.trans hm
    refine lv_iconst (v := 0) hx hb dX5_readRiver_14 (by decide) ?_
    obtain rfl := Option.some.inj hm
    exact mx_zret X nb0 hW dX5_readRiver_15

abbrev rm_X5_readRope : Room := { frames := 3, cells := 0, slots := 0, locals := 64 }
noncomputable def f_X5_readRope (t_tape : Nat → Int32) (t_names : Nat → Int64) (t_nameLines : Nat → Int32) (t_nameNumbers : Nat → Int32) (t_fault : Int32) (t_faultPlace : Int32) (t_draft_ropes : Int32) (t_draft_ropeAt : Nat → Int32) (t_draft_pulls : Nat → Int32) (t_draft_bears : Nat → Int32) (t_named : Int32) (t_end : Int32) (t_at : Int32) (t_sort : Int32) (t_place : Int32) (t_value : Int32) (t_code : Int64) : Option (Int32 × (Nat → Int64) × (Nat → Int32) × (Nat → Int32) × Int32 × Int32 × Int32 × (Nat → Int32) × (Nat → Int32) × (Nat → Int32) × Int32 × Int32 × Int32 × Int32 × Int32 × Int64) :=
  (f_X5_readNewName 2 t_draft_ropes t_tape t_names t_nameLines t_nameNumbers t_fault t_faultPlace t_named t_end t_at t_sort t_place t_value t_code).bind fun o1 => (if o1.1 = 0 then
    some (0, o1.2.1, o1.2.2.1, o1.2.2.2.1, o1.2.2.2.2.1, o1.2.2.2.2.2.1, t_draft_ropes, t_draft_ropeAt, t_draft_pulls, t_draft_bears, o1.2.2.2.2.2.2.1, o1.2.2.2.2.2.2.2.1, o1.2.2.2.2.2.2.2.2.1, o1.2.2.2.2.2.2.2.2.2.1, o1.2.2.2.2.2.2.2.2.2.2.1, o1.2.2.2.2.2.2.2.2.2.2.2)
  else
    (f_X5_isWord 24948 o1.2.2.2.2.2.2.2.2.1 o1.2.2.2.2.2.2.2.2.2.2.2).bind fun o3 => (if o3 = 0 then
      (f_X5_fail 1 o1.2.2.2.2.1 o1.2.2.2.2.2.1 o1.2.2.2.2.2.2.2.2.2.1).bind fun o22 => gd (nbl o22.1) <| some (o22.1, o1.2.1, o1.2.2.1, o1.2.2.2.1, o22.2.1, o22.2.2, t_draft_ropes, t_draft_ropeAt, t_draft_pulls, t_draft_bears, o1.2.2.2.2.2.2.1, o1.2.2.2.2.2.2.2.1, o1.2.2.2.2.2.2.2.2.1, o1.2.2.2.2.2.2.2.2.2.1, o1.2.2.2.2.2.2.2.2.2.2.1, o1.2.2.2.2.2.2.2.2.2.2.2)
    else
      (f_X5_next t_tape t_end o1.2.2.2.2.2.2.2.1 o1.2.2.2.2.2.2.2.2.1 o1.2.2.2.2.2.2.2.2.2.1 o1.2.2.2.2.2.2.2.2.2.2.1 o1.2.2.2.2.2.2.2.2.2.2.2).bind fun o5 => (f_X5_usedName 1 o1.2.1 o1.2.2.1 o1.2.2.2.1 o1.2.2.2.2.1 o1.2.2.2.2.2.1 o1.2.2.2.2.2.2.1 o5.2.1 o5.2.2.1 o5.2.2.2.2).bind fun o6 => (if o6.1 = ((-1)) then
        some (0, o1.2.1, o1.2.2.1, o1.2.2.2.1, o6.2.1, o6.2.2, t_draft_ropes, t_draft_ropeAt, t_draft_pulls, t_draft_bears, o1.2.2.2.2.2.2.1, o5.1, o5.2.1, o5.2.2.1, o5.2.2.2.1, o5.2.2.2.2)
      else
        gd (inb t_draft_ropes 7) <| nm (upd t_draft_ropeAt t_draft_ropes.toNatClampNeg o6.1) fun r9 => (f_X5_next t_tape t_end o5.1 o5.2.1 o5.2.2.1 o5.2.2.2.1 o5.2.2.2.2).bind fun o10 => (f_X5_readWhole 483006377075 1 9 t_tape o6.2.1 o6.2.2 t_end o10.1 o10.2.1 o10.2.2.1 o10.2.2.2.1 o10.2.2.2.2).bind fun o11 => (if o11.1 = 0 then
          some (0, o1.2.1, o1.2.2.1, o1.2.2.2.1, o11.2.1, o11.2.2.1, t_draft_ropes, r9, t_draft_pulls, t_draft_bears, o1.2.2.2.2.2.2.1, o11.2.2.2.1, o11.2.2.2.2.1, o11.2.2.2.2.2.1, o11.2.2.2.2.2.2.1, o11.2.2.2.2.2.2.2)
        else
          gd (inb t_draft_ropes 7) <| nm (upd t_draft_pulls t_draft_ropes.toNatClampNeg o11.2.2.2.2.2.2.1) fun r14 => (f_X5_next t_tape t_end o11.2.2.2.1 o11.2.2.2.2.1 o11.2.2.2.2.2.1 o11.2.2.2.2.2.2.1 o11.2.2.2.2.2.2.2).bind fun o15 => (f_X5_readWhole 422607680115 1 99 t_tape o11.2.1 o11.2.2.1 t_end o15.1 o15.2.1 o15.2.2.1 o15.2.2.2.1 o15.2.2.2.2).bind fun o16 => (if o16.1 = 0 then
            some (0, o1.2.1, o1.2.2.1, o1.2.2.2.1, o16.2.1, o16.2.2.1, t_draft_ropes, r9, r14, t_draft_bears, o1.2.2.2.2.2.2.1, o16.2.2.2.1, o16.2.2.2.2.1, o16.2.2.2.2.2.1, o16.2.2.2.2.2.2.1, o16.2.2.2.2.2.2.2)
          else
            gd (inb t_draft_ropes 7) <| nm (upd t_draft_bears t_draft_ropes.toNatClampNeg o16.2.2.2.2.2.2.1) fun r19 => (f_X5_next t_tape t_end o16.2.2.2.1 o16.2.2.2.2.1 o16.2.2.2.2.2.1 o16.2.2.2.2.2.2.1 o16.2.2.2.2.2.2.2).bind fun o20 => nm (t_draft_ropes + 1) fun z21 => some (1, o1.2.1, o1.2.2.1, o1.2.2.2.1, o16.2.1, o16.2.2.1, z21, r9, r14, r19, o1.2.2.2.2.2.2.1, o20.1, o20.2.1, o20.2.2.1, o20.2.2.2.1, o20.2.2.2.2))))))
set_option maxHeartbeats 4000000 in
set_option maxRecDepth 100000 in
theorem c_X5_readRope (l : Launch) (G : mx_G) (q_t : Nat) (q_t_tape : Nat) (q_t_names : Nat) (q_t_nameLines : Nat) (q_t_nameNumbers : Nat) (q_t_draft : Nat) (q_t_draft_ropeAt : Nat) (q_t_draft_pulls : Nat) (q_t_draft_bears : Nat) (v_t_filled : Value) (v_t_draft_flow : Value) (v_t_draft_tape : Value) (v_t_draft_reaches : Value) (v_t_draft_hands : Value) (v_t_draft_boats : Value) (v_t_draft_muds : Value) (v_t_draft_loose : Value) (v_t_draft_kind : Value) (v_t_draft_wide : Value) (v_t_draft_bank : Value) (v_t_draft_mud : Value) (v_t_draft_strong : Value) (v_t_draft_boatWide : Value) (v_t_draft_boatDeep : Value) (t_tape : Nat → Int32) (t_names : Nat → Int64) (t_nameLines : Nat → Int32) (t_nameNumbers : Nat → Int32) (t_fault : Int32) (t_faultPlace : Int32) (t_draft_ropes : Int32) (t_draft_ropeAt : Nat → Int32) (t_draft_pulls : Nat → Int32) (t_draft_bears : Nat → Int32) (t_named : Int32) (t_end : Int32) (t_at : Int32) (t_sort : Int32) (t_place : Int32) (t_value : Int32) (t_code : Int64) (out : Int32 × (Nat → Int64) × (Nat → Int32) × (Nat → Int32) × Int32 × Int32 × Int32 × (Nat → Int32) × (Nat → Int32) × (Nat → Int32) × Int32 × Int32 × Int32 × Int32 × Int32 × Int64) (hm : f_X5_readRope t_tape t_names t_nameLines t_nameNumbers t_fault t_faultPlace t_draft_ropes t_draft_ropeAt t_draft_pulls t_draft_bears t_named t_end t_at t_sort t_place t_value t_code = some out) : mx_C l yX5_readRope cX5_readRope 3 (some .boolean) rm_X5_readRope G [.ref q_t] [xO q_t 5 [.ref q_t_tape, .ref q_t_names, .ref q_t_nameLines, .ref q_t_nameNumbers, v_t_filled, .int t_fault, .int t_faultPlace, .ref q_t_draft, .int t_named, .int t_end, .int t_at, .int t_sort, .int t_place, .int t_value, .long t_code], xB G q_t_tape 900 t_tape, xJ G q_t_names 24 t_names, xI G q_t_nameLines 24 t_nameLines, xI G q_t_nameNumbers 24 t_nameNumbers, xO q_t_draft 6 [v_t_draft_flow, v_t_draft_tape, v_t_draft_reaches, .int t_draft_ropes, v_t_draft_hands, v_t_draft_boats, v_t_draft_muds, v_t_draft_loose, v_t_draft_kind, v_t_draft_wide, v_t_draft_bank, v_t_draft_mud, .ref q_t_draft_ropeAt, .ref q_t_draft_pulls, .ref q_t_draft_bears, v_t_draft_strong, v_t_draft_boatWide, v_t_draft_boatDeep], xI G q_t_draft_ropeAt 7 t_draft_ropeAt, xI G q_t_draft_pulls 7 t_draft_pulls, xI G q_t_draft_bears 7 t_draft_bears] (some (.int out.1)) [xO q_t 5 [.ref q_t_tape, .ref q_t_names, .ref q_t_nameLines, .ref q_t_nameNumbers, v_t_filled, .int out.2.2.2.2.1, .int out.2.2.2.2.2.1, .ref q_t_draft, .int out.2.2.2.2.2.2.2.2.2.2.1, .int t_end, .int out.2.2.2.2.2.2.2.2.2.2.2.1, .int out.2.2.2.2.2.2.2.2.2.2.2.2.1, .int out.2.2.2.2.2.2.2.2.2.2.2.2.2.1, .int out.2.2.2.2.2.2.2.2.2.2.2.2.2.2.1, .long out.2.2.2.2.2.2.2.2.2.2.2.2.2.2.2], xB G q_t_tape 900 t_tape, xJ G q_t_names 24 out.2.1, xI G q_t_nameLines 24 out.2.2.1, xI G q_t_nameNumbers 24 out.2.2.2.1, xO q_t_draft 6 [v_t_draft_flow, v_t_draft_tape, v_t_draft_reaches, .int out.2.2.2.2.2.2.1, v_t_draft_hands, v_t_draft_boats, v_t_draft_muds, v_t_draft_loose, v_t_draft_kind, v_t_draft_wide, v_t_draft_bank, v_t_draft_mud, .ref q_t_draft_ropeAt, .ref q_t_draft_pulls, .ref q_t_draft_bears, v_t_draft_strong, v_t_draft_boatWide, v_t_draft_boatDeep], xI G q_t_draft_ropeAt 7 out.2.2.2.2.2.2.2.1, xI G q_t_draft_pulls 7 out.2.2.2.2.2.2.2.2.1, xI G q_t_draft_bears 7 out.2.2.2.2.2.2.2.2.2.1] := by
  refine mx_enter (own := RX5) (name := "readRope") (lv := [(0, .ref q_t)]) (by decide) rfl rfl (Nat.le_of_ble_eq_true rfl) rfl ?_
  intro p e s m args below meth c A ls X hW hl
  obtain ⟨hx, hb, hml, hown, hts, hKN, -⟩ := id X
  unfold f_X5_readRope at hm
  refine lv_aload_n hx hb dX5_readRope_0 rfl (lv_at hl 0 rfl) ?_
  refine mx_get (C := RX5) (T := TX5) (N := 15) (ci := 5) X hW 0 rfl rfl tbc_X5 7 (by decide) kw_64 rfl dX5_readRope_1 ?_
  refine mx_get (C := RX6) (T := TX6) (N := 18) (ci := 6) X hW 5 rfl rfl tbc_X6 3 (by decide) kw_236 rfl dX5_readRope_4 ?_
  refine lv_istore_n (lv' := [(1, .int t_draft_ropes), (0, .ref q_t)]) hx hb dX5_readRope_7 rfl hl (by decide) rfl (fun ls hl => ?_)
  refine lv_aload_n hx hb dX5_readRope_8 rfl (lv_at hl 1 rfl) ?_
  refine lv_iconst (v := 2) hx hb dX5_readRope_9 (by decide) ?_
  refine lv_iload_n hx hb dX5_readRope_10 rfl (lv_at hl 0 rfl) ?_
  obtain ⟨o1, ho1, hm⟩ := bd_s hm
  refine mx_callV (C := RX5) (T := TX5) (N := 15) (ci := 5) (n := 2) (As := [.int 2, .int t_draft_ropes]) (rest := []) (st1 := [.int o1.1]) (w2 := [xO q_t 5 [.ref q_t_tape, .ref q_t_names, .ref q_t_nameLines, .ref q_t_nameNumbers, v_t_filled, .int o1.2.2.2.2.1, .int o1.2.2.2.2.2.1, .ref q_t_draft, .int o1.2.2.2.2.2.2.1, .int t_end, .int o1.2.2.2.2.2.2.2.1, .int o1.2.2.2.2.2.2.2.2.1, .int o1.2.2.2.2.2.2.2.2.2.1, .int o1.2.2.2.2.2.2.2.2.2.2.1, .long o1.2.2.2.2.2.2.2.2.2.2.2], xB G q_t_tape 900 t_tape, xJ G q_t_names 24 o1.2.1, xI G q_t_nameLines 24 o1.2.2.1, xI G q_t_nameNumbers 24 o1.2.2.2.1, xO q_t_draft 6 [v_t_draft_flow, v_t_draft_tape, v_t_draft_reaches, .int t_draft_ropes, v_t_draft_hands, v_t_draft_boats, v_t_draft_muds, v_t_draft_loose, v_t_draft_kind, v_t_draft_wide, v_t_draft_bank, v_t_draft_mud, .ref q_t_draft_ropeAt, .ref q_t_draft_pulls, .ref q_t_draft_bears, v_t_draft_strong, v_t_draft_boatWide, v_t_draft_boatDeep], xI G q_t_draft_ropeAt 7 t_draft_ropeAt, xI G q_t_draft_pulls 7 t_draft_pulls, xI G q_t_draft_bears 7 t_draft_bears]) X hW hl.1 (c_X5_readNewName l G q_t q_t_tape q_t_names q_t_nameLines q_t_nameNumbers (v_t_filled) (.ref q_t_draft) t_tape t_names t_nameLines t_nameNumbers t_fault t_faultPlace t_named t_end t_at t_sort t_place t_value t_code 2 t_draft_ropes o1 ho1) 0 rfl rfl kw_263 kw_264 kw_265 kw_15 kw_266 (by decide +kernel) ⟨rfl, rfl⟩ ⟨by decide, by decide⟩ ⟨Nat.zero_le _, Nat.zero_le _⟩ [0, 1, 2, 3, 4] (by decide) rfl rfl rfl rfl rfl rfl (Nat.le_of_ble_eq_true rfl) rfl dX5_readRope_11 (fun H locs hW => ?_)
  refine lv_if_ne (tgt := 19) hx hb dX5_readRope_14 (by decide) (fun c2 => ?_) (fun c2 => ?_)
  · have hm := (if_neg c2).symm.trans hm
    refine lv_aload_n hx hb dX5_readRope_19 rfl (lv_at hl 1 rfl) ?_
    refine lv_ldc2 (v := 24948) hx hb hown (hts _ kw_287) dX5_readRope_20 ?_
    obtain ⟨o3, ho3, hm⟩ := bd_s hm
    refine mx_callV (C := RX5) (T := TX5) (N := 15) (ci := 5) (n := 1) (As := [.long 24948]) (rest := []) (st1 := [.int o3]) (w2 := [xO q_t 5 [.ref q_t_tape, .ref q_t_names, .ref q_t_nameLines, .ref q_t_nameNumbers, v_t_filled, .int o1.2.2.2.2.1, .int o1.2.2.2.2.2.1, .ref q_t_draft, .int o1.2.2.2.2.2.2.1, .int t_end, .int o1.2.2.2.2.2.2.2.1, .int o1.2.2.2.2.2.2.2.2.1, .int o1.2.2.2.2.2.2.2.2.2.1, .int o1.2.2.2.2.2.2.2.2.2.2.1, .long o1.2.2.2.2.2.2.2.2.2.2.2], xB G q_t_tape 900 t_tape, xJ G q_t_names 24 o1.2.1, xI G q_t_nameLines 24 o1.2.2.1, xI G q_t_nameNumbers 24 o1.2.2.2.1, xO q_t_draft 6 [v_t_draft_flow, v_t_draft_tape, v_t_draft_reaches, .int t_draft_ropes, v_t_draft_hands, v_t_draft_boats, v_t_draft_muds, v_t_draft_loose, v_t_draft_kind, v_t_draft_wide, v_t_draft_bank, v_t_draft_mud, .ref q_t_draft_ropeAt, .ref q_t_draft_pulls, .ref q_t_draft_bears, v_t_draft_strong, v_t_draft_boatWide, v_t_draft_boatDeep], xI G q_t_draft_ropeAt 7 t_draft_ropeAt, xI G q_t_draft_pulls 7 t_draft_pulls, xI G q_t_draft_bears 7 t_draft_bears]) X hW hl.1 (c_X5_isWord l G q_t (.ref q_t_tape) (.ref q_t_names) (.ref q_t_nameLines) (.ref q_t_nameNumbers) (v_t_filled) (.int o1.2.2.2.2.1) (.int o1.2.2.2.2.2.1) (.ref q_t_draft) (.int o1.2.2.2.2.2.2.1) (.int t_end) (.int o1.2.2.2.2.2.2.2.1) (.int o1.2.2.2.2.2.2.2.2.2.1) (.int o1.2.2.2.2.2.2.2.2.2.2.1) o1.2.2.2.2.2.2.2.2.1 o1.2.2.2.2.2.2.2.2.2.2.2 24948 o3 ho3) 0 rfl rfl kw_250 kw_251 kw_252 kw_15 kw_253 (by decide +kernel) ⟨rfl, rfl⟩ ⟨by decide, by decide⟩ ⟨Nat.zero_le _, Nat.zero_le _⟩ [0] (by decide) rfl rfl rfl rfl rfl rfl (Nat.le_of_ble_eq_true rfl) rfl dX5_readRope_23 (fun H locs hW => ?_)
    refine lv_if_ne (tgt := 35) hx hb dX5_readRope_26 (by decide) (fun c4 => ?_) (fun c4 => ?_)
    · have hm := (if_neg c4).symm.trans hm
      refine lv_aload_n hx hb dX5_readRope_35 rfl (lv_at hl 1 rfl) ?_
      obtain ⟨o5, ho5, hm⟩ := bd_s hm
      refine mx_callV (C := RX5) (T := TX5) (N := 15) (ci := 5) (n := 0) (As := []) (rest := []) (st1 := []) (w2 := [xO q_t 5 [.ref q_t_tape, .ref q_t_names, .ref q_t_nameLines, .ref q_t_nameNumbers, v_t_filled, .int o1.2.2.2.2.1, .int o1.2.2.2.2.2.1, .ref q_t_draft, .int o1.2.2.2.2.2.2.1, .int t_end, .int o5.1, .int o5.2.1, .int o5.2.2.1, .int o5.2.2.2.1, .long o5.2.2.2.2], xB G q_t_tape 900 t_tape, xJ G q_t_names 24 o1.2.1, xI G q_t_nameLines 24 o1.2.2.1, xI G q_t_nameNumbers 24 o1.2.2.2.1, xO q_t_draft 6 [v_t_draft_flow, v_t_draft_tape, v_t_draft_reaches, .int t_draft_ropes, v_t_draft_hands, v_t_draft_boats, v_t_draft_muds, v_t_draft_loose, v_t_draft_kind, v_t_draft_wide, v_t_draft_bank, v_t_draft_mud, .ref q_t_draft_ropeAt, .ref q_t_draft_pulls, .ref q_t_draft_bears, v_t_draft_strong, v_t_draft_boatWide, v_t_draft_boatDeep], xI G q_t_draft_ropeAt 7 t_draft_ropeAt, xI G q_t_draft_pulls 7 t_draft_pulls, xI G q_t_draft_bears 7 t_draft_bears]) X hW hl.1 (c_X5_next l G q_t q_t_tape (.ref q_t_names) (.ref q_t_nameLines) (.ref q_t_nameNumbers) (v_t_filled) (.int o1.2.2.2.2.1) (.int o1.2.2.2.2.2.1) (.ref q_t_draft) (.int o1.2.2.2.2.2.2.1) t_tape t_end o1.2.2.2.2.2.2.2.1 o1.2.2.2.2.2.2.2.2.1 o1.2.2.2.2.2.2.2.2.2.1 o1.2.2.2.2.2.2.2.2.2.2.1 o1.2.2.2.2.2.2.2.2.2.2.2 o5 ho5) 0 rfl rfl kw_196 kw_197 kw_198 kw_15 kw_199 (by decide +kernel) ⟨rfl, rfl⟩ ⟨by decide, by decide⟩ ⟨Nat.zero_le _, Nat.zero_le _⟩ [0, 1] (by decide) rfl rfl rfl rfl rfl rfl (Nat.le_of_ble_eq_true rfl) rfl dX5_readRope_36 (fun H locs hW => ?_)
      refine lv_aload_n hx hb dX5_readRope_39 rfl (lv_at hl 1 rfl) ?_
      refine lv_iconst (v := 1) hx hb dX5_readRope_40 (by decide) ?_
      obtain ⟨o6, ho6, hm⟩ := bd_s hm
      refine mx_callV (C := RX5) (T := TX5) (N := 15) (ci := 5) (n := 1) (As := [.int 1]) (rest := []) (st1 := [.int o6.1]) (w2 := [xO q_t 5 [.ref q_t_tape, .ref q_t_names, .ref q_t_nameLines, .ref q_t_nameNumbers, v_t_filled, .int o6.2.1, .int o6.2.2, .ref q_t_draft, .int o1.2.2.2.2.2.2.1, .int t_end, .int o5.1, .int o5.2.1, .int o5.2.2.1, .int o5.2.2.2.1, .long o5.2.2.2.2], xB G q_t_tape 900 t_tape, xJ G q_t_names 24 o1.2.1, xI G q_t_nameLines 24 o1.2.2.1, xI G q_t_nameNumbers 24 o1.2.2.2.1, xO q_t_draft 6 [v_t_draft_flow, v_t_draft_tape, v_t_draft_reaches, .int t_draft_ropes, v_t_draft_hands, v_t_draft_boats, v_t_draft_muds, v_t_draft_loose, v_t_draft_kind, v_t_draft_wide, v_t_draft_bank, v_t_draft_mud, .ref q_t_draft_ropeAt, .ref q_t_draft_pulls, .ref q_t_draft_bears, v_t_draft_strong, v_t_draft_boatWide, v_t_draft_boatDeep], xI G q_t_draft_ropeAt 7 t_draft_ropeAt, xI G q_t_draft_pulls 7 t_draft_pulls, xI G q_t_draft_bears 7 t_draft_bears]) X hW hl.1 (c_X5_usedName l G q_t q_t_names q_t_nameLines q_t_nameNumbers (.ref q_t_tape) (v_t_filled) (.ref q_t_draft) (.int t_end) (.int o5.1) (.int o5.2.2.2.1) o1.2.1 o1.2.2.1 o1.2.2.2.1 o1.2.2.2.2.1 o1.2.2.2.2.2.1 o1.2.2.2.2.2.2.1 o5.2.1 o5.2.2.1 o5.2.2.2.2 1 o6 ho6) 0 rfl rfl kw_293 kw_294 kw_295 kw_15 kw_296 (by decide +kernel) ⟨rfl, rfl⟩ ⟨by decide, by decide⟩ ⟨Nat.zero_le _, Nat.zero_le _⟩ [0, 2, 3, 4] (by decide) rfl rfl rfl rfl rfl rfl (Nat.le_of_ble_eq_true rfl) rfl dX5_readRope_41 (fun H locs hW => ?_)
      refine lv_istore_n (lv' := [(2, .int o6.1), (1, .int t_draft_ropes), (0, .ref q_t)]) hx hb dX5_readRope_44 rfl hl (by decide) rfl (fun ls hl => ?_)
      refine lv_iload_n hx hb dX5_readRope_45 rfl (lv_at hl 0 rfl) ?_
      refine lv_iconst (v := (-1)) hx hb dX5_readRope_46 (by decide) ?_
      refine lv_icmp_ne (tgt := 52) hx hb dX5_readRope_47 (by decide) (fun c7 => ?_) (fun c7 => ?_)
      · have hm := (if_neg c7).symm.trans hm
        refine lv_aload_n hx hb dX5_readRope_52 rfl (lv_at hl 2 rfl) ?_
        refine mx_get (C := RX5) (T := TX5) (N := 15) (ci := 5) X hW 0 rfl rfl tbc_X5 7 (by decide) kw_64 rfl dX5_readRope_53 ?_
        refine mx_get (C := RX6) (T := TX6) (N := 18) (ci := 6) X hW 5 rfl rfl tbc_X6 12 (by decide) kw_288 rfl dX5_readRope_56 ?_
        refine lv_iload_n hx hb dX5_readRope_59 rfl (lv_at hl 1 rfl) ?_
        refine lv_iload_n hx hb dX5_readRope_60 rfl (lv_at hl 0 rfl) ?_
        obtain ⟨hg8, hm⟩ := gd_s hm
        refine mx_iast (w2 := [xO q_t 5 [.ref q_t_tape, .ref q_t_names, .ref q_t_nameLines, .ref q_t_nameNumbers, v_t_filled, .int o6.2.1, .int o6.2.2, .ref q_t_draft, .int o1.2.2.2.2.2.2.1, .int t_end, .int o5.1, .int o5.2.1, .int o5.2.2.1, .int o5.2.2.2.1, .long o5.2.2.2.2], xB G q_t_tape 900 t_tape, xJ G q_t_names 24 o1.2.1, xI G q_t_nameLines 24 o1.2.2.1, xI G q_t_nameNumbers 24 o1.2.2.2.1, xO q_t_draft 6 [v_t_draft_flow, v_t_draft_tape, v_t_draft_reaches, .int t_draft_ropes, v_t_draft_hands, v_t_draft_boats, v_t_draft_muds, v_t_draft_loose, v_t_draft_kind, v_t_draft_wide, v_t_draft_bank, v_t_draft_mud, .ref q_t_draft_ropeAt, .ref q_t_draft_pulls, .ref q_t_draft_bears, v_t_draft_strong, v_t_draft_boatWide, v_t_draft_boatDeep], xI G q_t_draft_ropeAt 7 (upd t_draft_ropeAt t_draft_ropes.toNatClampNeg o6.1), xI G q_t_draft_pulls 7 t_draft_pulls, xI G q_t_draft_bears 7 t_draft_bears]) X hW 6 rfl (inb_s hg8) rfl dX5_readRope_61 (fun H locs hW => ?_)
        obtain ⟨r9, er9⟩ : ∃ z, z = upd t_draft_ropeAt t_draft_ropes.toNatClampNeg o6.1 := ⟨_, rfl⟩
        have hm := nm_s er9 hm
        have hW : mx_W G s A [xO q_t 5 [.ref q_t_tape, .ref q_t_names, .ref q_t_nameLines, .ref q_t_nameNumbers, v_t_filled, .int o6.2.1, .int o6.2.2, .ref q_t_draft, .int o1.2.2.2.2.2.2.1, .int t_end, .int o5.1, .int o5.2.1, .int o5.2.2.1, .int o5.2.2.2.1, .long o5.2.2.2.2], xB G q_t_tape 900 t_tape, xJ G q_t_names 24 o1.2.1, xI G q_t_nameLines 24 o1.2.2.1, xI G q_t_nameNumbers 24 o1.2.2.2.1, xO q_t_draft 6 [v_t_draft_flow, v_t_draft_tape, v_t_draft_reaches, .int t_draft_ropes, v_t_draft_hands, v_t_draft_boats, v_t_draft_muds, v_t_draft_loose, v_t_draft_kind, v_t_draft_wide, v_t_draft_bank, v_t_draft_mud, .ref q_t_draft_ropeAt, .ref q_t_draft_pulls, .ref q_t_draft_bears, v_t_draft_strong, v_t_draft_boatWide, v_t_draft_boatDeep], xI G q_t_draft_ropeAt 7 r9, xI G q_t_draft_pulls 7 t_draft_pulls, xI G q_t_draft_bears 7 t_draft_bears] H locs := by rw [er9]; exact hW
        refine lv_aload_n hx hb dX5_readRope_62 rfl (lv_at hl 2 rfl) ?_
        obtain ⟨o10, ho10, hm⟩ := bd_s hm
        refine mx_callV (C := RX5) (T := TX5) (N := 15) (ci := 5) (n := 0) (As := []) (rest := []) (st1 := []) (w2 := [xO q_t 5 [.ref q_t_tape, .ref q_t_names, .ref q_t_nameLines, .ref q_t_nameNumbers, v_t_filled, .int o6.2.1, .int o6.2.2, .ref q_t_draft, .int o1.2.2.2.2.2.2.1, .int t_end, .int o10.1, .int o10.2.1, .int o10.2.2.1, .int o10.2.2.2.1, .long o10.2.2.2.2], xB G q_t_tape 900 t_tape, xJ G q_t_names 24 o1.2.1, xI G q_t_nameLines 24 o1.2.2.1, xI G q_t_nameNumbers 24 o1.2.2.2.1, xO q_t_draft 6 [v_t_draft_flow, v_t_draft_tape, v_t_draft_reaches, .int t_draft_ropes, v_t_draft_hands, v_t_draft_boats, v_t_draft_muds, v_t_draft_loose, v_t_draft_kind, v_t_draft_wide, v_t_draft_bank, v_t_draft_mud, .ref q_t_draft_ropeAt, .ref q_t_draft_pulls, .ref q_t_draft_bears, v_t_draft_strong, v_t_draft_boatWide, v_t_draft_boatDeep], xI G q_t_draft_ropeAt 7 r9, xI G q_t_draft_pulls 7 t_draft_pulls, xI G q_t_draft_bears 7 t_draft_bears]) X hW hl.1 (c_X5_next l G q_t q_t_tape (.ref q_t_names) (.ref q_t_nameLines) (.ref q_t_nameNumbers) (v_t_filled) (.int o6.2.1) (.int o6.2.2) (.ref q_t_draft) (.int o1.2.2.2.2.2.2.1) t_tape t_end o5.1 o5.2.1 o5.2.2.1 o5.2.2.2.1 o5.2.2.2.2 o10 ho10) 0 rfl rfl kw_196 kw_197 kw_198 kw_15 kw_199 (by decide +kernel) ⟨rfl, rfl⟩ ⟨by decide, by decide⟩ ⟨Nat.zero_le _, Nat.zero_le _⟩ [0, 1] (by decide) rfl rfl rfl rfl rfl rfl (Nat.le_of_ble_eq_true rfl) rfl dX5_readRope_63 (fun H locs hW => ?_)
        refine lv_aload_n hx hb dX5_readRope_66 rfl (lv_at hl 2 rfl) ?_
        refine lv_ldc2 (v := 483006377075) hx hb hown (hts _ kw_289) dX5_readRope_67 ?_
        refine lv_iconst (v := 1) hx hb dX5_readRope_70 (by decide) ?_
        refine lv_bipush (v := 9) hx hb dX5_readRope_71 (by decide) ?_
        obtain ⟨o11, ho11, hm⟩ := bd_s hm
        refine mx_callV (C := RX5) (T := TX5) (N := 15) (ci := 5) (n := 3) (As := [.long 483006377075, .int 1, .int 9]) (rest := []) (st1 := [.int o11.1]) (w2 := [xO q_t 5 [.ref q_t_tape, .ref q_t_names, .ref q_t_nameLines, .ref q_t_nameNumbers, v_t_filled, .int o11.2.1, .int o11.2.2.1, .ref q_t_draft, .int o1.2.2.2.2.2.2.1, .int t_end, .int o11.2.2.2.1, .int o11.2.2.2.2.1, .int o11.2.2.2.2.2.1, .int o11.2.2.2.2.2.2.1, .long o11.2.2.2.2.2.2.2], xB G q_t_tape 900 t_tape, xJ G q_t_names 24 o1.2.1, xI G q_t_nameLines 24 o1.2.2.1, xI G q_t_nameNumbers 24 o1.2.2.2.1, xO q_t_draft 6 [v_t_draft_flow, v_t_draft_tape, v_t_draft_reaches, .int t_draft_ropes, v_t_draft_hands, v_t_draft_boats, v_t_draft_muds, v_t_draft_loose, v_t_draft_kind, v_t_draft_wide, v_t_draft_bank, v_t_draft_mud, .ref q_t_draft_ropeAt, .ref q_t_draft_pulls, .ref q_t_draft_bears, v_t_draft_strong, v_t_draft_boatWide, v_t_draft_boatDeep], xI G q_t_draft_ropeAt 7 r9, xI G q_t_draft_pulls 7 t_draft_pulls, xI G q_t_draft_bears 7 t_draft_bears]) X hW hl.1 (c_X5_readWhole l G q_t q_t_tape (.ref q_t_names) (.ref q_t_nameLines) (.ref q_t_nameNumbers) (v_t_filled) (.ref q_t_draft) (.int o1.2.2.2.2.2.2.1) t_tape o6.2.1 o6.2.2 t_end o10.1 o10.2.1 o10.2.2.1 o10.2.2.2.1 o10.2.2.2.2 483006377075 1 9 o11 ho11) 0 rfl rfl kw_246 kw_247 kw_248 kw_15 kw_249 (by decide +kernel) ⟨rfl, rfl⟩ ⟨by decide, by decide⟩ ⟨Nat.zero_le _, Nat.zero_le _⟩ [0, 1] (by decide) rfl rfl rfl rfl rfl rfl (Nat.le_of_ble_eq_true rfl) rfl dX5_readRope_73 (fun H locs hW => ?_)
        refine lv_if_ne (tgt := 81) hx hb dX5_readRope_76 (by decide) (fun c12 => ?_) (fun c12 => ?_)
        · have hm := (if_neg c12).symm.trans hm
          refine lv_aload_n hx hb dX5_readRope_81 rfl (lv_at hl 2 rfl) ?_
          refine mx_get (C := RX5) (T := TX5) (N := 15) (ci := 5) X hW 0 rfl rfl tbc_X5 7 (by decide) kw_64 rfl dX5_readRope_82 ?_
          refine mx_get (C := RX6) (T := TX6) (N := 18) (ci := 6) X hW 5 rfl rfl tbc_X6 13 (by decide) kw_290 rfl dX5_readRope_85 ?_
          refine lv_iload_n hx hb dX5_readRope_88 rfl (lv_at hl 1 rfl) ?_
          refine lv_aload_n hx hb dX5_readRope_89 rfl (lv_at hl 2 rfl) ?_
          refine mx_get (C := RX5) (T := TX5) (N := 15) (ci := 5) X hW 0 rfl rfl tbc_X5 13 (by decide) kw_210 rfl dX5_readRope_90 ?_
          obtain ⟨hg13, hm⟩ := gd_s hm
          refine mx_iast (w2 := [xO q_t 5 [.ref q_t_tape, .ref q_t_names, .ref q_t_nameLines, .ref q_t_nameNumbers, v_t_filled, .int o11.2.1, .int o11.2.2.1, .ref q_t_draft, .int o1.2.2.2.2.2.2.1, .int t_end, .int o11.2.2.2.1, .int o11.2.2.2.2.1, .int o11.2.2.2.2.2.1, .int o11.2.2.2.2.2.2.1, .long o11.2.2.2.2.2.2.2], xB G q_t_tape 900 t_tape, xJ G q_t_names 24 o1.2.1, xI G q_t_nameLines 24 o1.2.2.1, xI G q_t_nameNumbers 24 o1.2.2.2.1, xO q_t_draft 6 [v_t_draft_flow, v_t_draft_tape, v_t_draft_reaches, .int t_draft_ropes, v_t_draft_hands, v_t_draft_boats, v_t_draft_muds, v_t_draft_loose, v_t_draft_kind, v_t_draft_wide, v_t_draft_bank, v_t_draft_mud, .ref q_t_draft_ropeAt, .ref q_t_draft_pulls, .ref q_t_draft_bears, v_t_draft_strong, v_t_draft_boatWide, v_t_draft_boatDeep], xI G q_t_draft_ropeAt 7 r9, xI G q_t_draft_pulls 7 (upd t_draft_pulls t_draft_ropes.toNatClampNeg o11.2.2.2.2.2.2.1), xI G q_t_draft_bears 7 t_draft_bears]) X hW 7 rfl (inb_s hg13) rfl dX5_readRope_93 (fun H locs hW => ?_)
          obtain ⟨r14, er14⟩ : ∃ z, z = upd t_draft_pulls t_draft_ropes.toNatClampNeg o11.2.2.2.2.2.2.1 := ⟨_, rfl⟩
          have hm := nm_s er14 hm
          have hW : mx_W G s A [xO q_t 5 [.ref q_t_tape, .ref q_t_names, .ref q_t_nameLines, .ref q_t_nameNumbers, v_t_filled, .int o11.2.1, .int o11.2.2.1, .ref q_t_draft, .int o1.2.2.2.2.2.2.1, .int t_end, .int o11.2.2.2.1, .int o11.2.2.2.2.1, .int o11.2.2.2.2.2.1, .int o11.2.2.2.2.2.2.1, .long o11.2.2.2.2.2.2.2], xB G q_t_tape 900 t_tape, xJ G q_t_names 24 o1.2.1, xI G q_t_nameLines 24 o1.2.2.1, xI G q_t_nameNumbers 24 o1.2.2.2.1, xO q_t_draft 6 [v_t_draft_flow, v_t_draft_tape, v_t_draft_reaches, .int t_draft_ropes, v_t_draft_hands, v_t_draft_boats, v_t_draft_muds, v_t_draft_loose, v_t_draft_kind, v_t_draft_wide, v_t_draft_bank, v_t_draft_mud, .ref q_t_draft_ropeAt, .ref q_t_draft_pulls, .ref q_t_draft_bears, v_t_draft_strong, v_t_draft_boatWide, v_t_draft_boatDeep], xI G q_t_draft_ropeAt 7 r9, xI G q_t_draft_pulls 7 r14, xI G q_t_draft_bears 7 t_draft_bears] H locs := by rw [er14]; exact hW
          refine lv_aload_n hx hb dX5_readRope_94 rfl (lv_at hl 2 rfl) ?_
          obtain ⟨o15, ho15, hm⟩ := bd_s hm
          refine mx_callV (C := RX5) (T := TX5) (N := 15) (ci := 5) (n := 0) (As := []) (rest := []) (st1 := []) (w2 := [xO q_t 5 [.ref q_t_tape, .ref q_t_names, .ref q_t_nameLines, .ref q_t_nameNumbers, v_t_filled, .int o11.2.1, .int o11.2.2.1, .ref q_t_draft, .int o1.2.2.2.2.2.2.1, .int t_end, .int o15.1, .int o15.2.1, .int o15.2.2.1, .int o15.2.2.2.1, .long o15.2.2.2.2], xB G q_t_tape 900 t_tape, xJ G q_t_names 24 o1.2.1, xI G q_t_nameLines 24 o1.2.2.1, xI G q_t_nameNumbers 24 o1.2.2.2.1, xO q_t_draft 6 [v_t_draft_flow, v_t_draft_tape, v_t_draft_reaches, .int t_draft_ropes, v_t_draft_hands, v_t_draft_boats, v_t_draft_muds, v_t_draft_loose, v_t_draft_kind, v_t_draft_wide, v_t_draft_bank, v_t_draft_mud, .ref q_t_draft_ropeAt, .ref q_t_draft_pulls, .ref q_t_draft_bears, v_t_draft_strong, v_t_draft_boatWide, v_t_draft_boatDeep], xI G q_t_draft_ropeAt 7 r9, xI G q_t_draft_pulls 7 r14, xI G q_t_draft_bears 7 t_draft_bears]) X hW hl.1 (c_X5_next l G q_t q_t_tape (.ref q_t_names) (.ref q_t_nameLines) (.ref q_t_nameNumbers) (v_t_filled) (.int o11.2.1) (.int o11.2.2.1) (.ref q_t_draft) (.int o1.2.2.2.2.2.2.1) t_tape t_end o11.2.2.2.1 o11.2.2.2.2.1 o11.2.2.2.2.2.1 o11.2.2.2.2.2.2.1 o11.2.2.2.2.2.2.2 o15 ho15) 0 rfl rfl kw_196 kw_197 kw_198 kw_15 kw_199 (by decide +kernel) ⟨rfl, rfl⟩ ⟨by decide, by decide⟩ ⟨Nat.zero_le _, Nat.zero_le _⟩ [0, 1] (by decide) rfl rfl rfl rfl rfl rfl (Nat.le_of_ble_eq_true rfl) rfl dX5_readRope_95 (fun H locs hW => ?_)
          refine lv_aload_n hx hb dX5_readRope_98 rfl (lv_at hl 2 rfl) ?_
          refine lv_ldc2 (v := 422607680115) hx hb hown (hts _ kw_291) dX5_readRope_99 ?_
          refine lv_iconst (v := 1) hx hb dX5_readRope_102 (by decide) ?_
          refine lv_bipush (v := 99) hx hb dX5_readRope_103 (by decide) ?_
          obtain ⟨o16, ho16, hm⟩ := bd_s hm
          refine mx_callV (C := RX5) (T := TX5) (N := 15) (ci := 5) (n := 3) (As := [.long 422607680115, .int 1, .int 99]) (rest := []) (st1 := [.int o16.1]) (w2 := [xO q_t 5 [.ref q_t_tape, .ref q_t_names, .ref q_t_nameLines, .ref q_t_nameNumbers, v_t_filled, .int o16.2.1, .int o16.2.2.1, .ref q_t_draft, .int o1.2.2.2.2.2.2.1, .int t_end, .int o16.2.2.2.1, .int o16.2.2.2.2.1, .int o16.2.2.2.2.2.1, .int o16.2.2.2.2.2.2.1, .long o16.2.2.2.2.2.2.2], xB G q_t_tape 900 t_tape, xJ G q_t_names 24 o1.2.1, xI G q_t_nameLines 24 o1.2.2.1, xI G q_t_nameNumbers 24 o1.2.2.2.1, xO q_t_draft 6 [v_t_draft_flow, v_t_draft_tape, v_t_draft_reaches, .int t_draft_ropes, v_t_draft_hands, v_t_draft_boats, v_t_draft_muds, v_t_draft_loose, v_t_draft_kind, v_t_draft_wide, v_t_draft_bank, v_t_draft_mud, .ref q_t_draft_ropeAt, .ref q_t_draft_pulls, .ref q_t_draft_bears, v_t_draft_strong, v_t_draft_boatWide, v_t_draft_boatDeep], xI G q_t_draft_ropeAt 7 r9, xI G q_t_draft_pulls 7 r14, xI G q_t_draft_bears 7 t_draft_bears]) X hW hl.1 (c_X5_readWhole l G q_t q_t_tape (.ref q_t_names) (.ref q_t_nameLines) (.ref q_t_nameNumbers) (v_t_filled) (.ref q_t_draft) (.int o1.2.2.2.2.2.2.1) t_tape o11.2.1 o11.2.2.1 t_end o15.1 o15.2.1 o15.2.2.1 o15.2.2.2.1 o15.2.2.2.2 422607680115 1 99 o16 ho16) 0 rfl rfl kw_246 kw_247 kw_248 kw_15 kw_249 (by decide +kernel) ⟨rfl, rfl⟩ ⟨by decide, by decide⟩ ⟨Nat.zero_le _, Nat.zero_le _⟩ [0, 1] (by decide) rfl rfl rfl rfl rfl rfl (Nat.le_of_ble_eq_true rfl) rfl dX5_readRope_105 (fun H locs hW => ?_)
          refine lv_if_ne (tgt := 113) hx hb dX5_readRope_108 (by decide) (fun c17 => ?_) (fun c17 => ?_)
          · have hm := (if_neg c17).symm.trans hm
            refine lv_aload_n hx hb dX5_readRope_113 rfl (lv_at hl 2 rfl) ?_
            refine mx_get (C := RX5) (T := TX5) (N := 15) (ci := 5) X hW 0 rfl rfl tbc_X5 7 (by decide) kw_64 rfl dX5_readRope_114 ?_
            refine mx_get (C := RX6) (T := TX6) (N := 18) (ci := 6) X hW 5 rfl rfl tbc_X6 14 (by decide) kw_292 rfl dX5_readRope_117 ?_
            refine lv_iload_n hx hb dX5_readRope_120 rfl (lv_at hl 1 rfl) ?_
            refine lv_aload_n hx hb dX5_readRope_121 rfl (lv_at hl 2 rfl) ?_
            refine mx_get (C := RX5) (T := TX5) (N := 15) (ci := 5) X hW 0 rfl rfl tbc_X5 13 (by decide) kw_210 rfl dX5_readRope_122 ?_
            obtain ⟨hg18, hm⟩ := gd_s hm
            refine mx_iast (w2 := [xO q_t 5 [.ref q_t_tape, .ref q_t_names, .ref q_t_nameLines, .ref q_t_nameNumbers, v_t_filled, .int o16.2.1, .int o16.2.2.1, .ref q_t_draft, .int o1.2.2.2.2.2.2.1, .int t_end, .int o16.2.2.2.1, .int o16.2.2.2.2.1, .int o16.2.2.2.2.2.1, .int o16.2.2.2.2.2.2.1, .long o16.2.2.2.2.2.2.2], xB G q_t_tape 900 t_tape, xJ G q_t_names 24 o1.2.1, xI G q_t_nameLines 24 o1.2.2.1, xI G q_t_nameNumbers 24 o1.2.2.2.1, xO q_t_draft 6 [v_t_draft_flow, v_t_draft_tape, v_t_draft_reaches, .int t_draft_ropes, v_t_draft_hands, v_t_draft_boats, v_t_draft_muds, v_t_draft_loose, v_t_draft_kind, v_t_draft_wide, v_t_draft_bank, v_t_draft_mud, .ref q_t_draft_ropeAt, .ref q_t_draft_pulls, .ref q_t_draft_bears, v_t_draft_strong, v_t_draft_boatWide, v_t_draft_boatDeep], xI G q_t_draft_ropeAt 7 r9, xI G q_t_draft_pulls 7 r14, xI G q_t_draft_bears 7 (upd t_draft_bears t_draft_ropes.toNatClampNeg o16.2.2.2.2.2.2.1)]) X hW 8 rfl (inb_s hg18) rfl dX5_readRope_125 (fun H locs hW => ?_)
            obtain ⟨r19, er19⟩ : ∃ z, z = upd t_draft_bears t_draft_ropes.toNatClampNeg o16.2.2.2.2.2.2.1 := ⟨_, rfl⟩
            have hm := nm_s er19 hm
            have hW : mx_W G s A [xO q_t 5 [.ref q_t_tape, .ref q_t_names, .ref q_t_nameLines, .ref q_t_nameNumbers, v_t_filled, .int o16.2.1, .int o16.2.2.1, .ref q_t_draft, .int o1.2.2.2.2.2.2.1, .int t_end, .int o16.2.2.2.1, .int o16.2.2.2.2.1, .int o16.2.2.2.2.2.1, .int o16.2.2.2.2.2.2.1, .long o16.2.2.2.2.2.2.2], xB G q_t_tape 900 t_tape, xJ G q_t_names 24 o1.2.1, xI G q_t_nameLines 24 o1.2.2.1, xI G q_t_nameNumbers 24 o1.2.2.2.1, xO q_t_draft 6 [v_t_draft_flow, v_t_draft_tape, v_t_draft_reaches, .int t_draft_ropes, v_t_draft_hands, v_t_draft_boats, v_t_draft_muds, v_t_draft_loose, v_t_draft_kind, v_t_draft_wide, v_t_draft_bank, v_t_draft_mud, .ref q_t_draft_ropeAt, .ref q_t_draft_pulls, .ref q_t_draft_bears, v_t_draft_strong, v_t_draft_boatWide, v_t_draft_boatDeep], xI G q_t_draft_ropeAt 7 r9, xI G q_t_draft_pulls 7 r14, xI G q_t_draft_bears 7 r19] H locs := by rw [er19]; exact hW
            refine lv_aload_n hx hb dX5_readRope_126 rfl (lv_at hl 2 rfl) ?_
            obtain ⟨o20, ho20, hm⟩ := bd_s hm
            refine mx_callV (C := RX5) (T := TX5) (N := 15) (ci := 5) (n := 0) (As := []) (rest := []) (st1 := []) (w2 := [xO q_t 5 [.ref q_t_tape, .ref q_t_names, .ref q_t_nameLines, .ref q_t_nameNumbers, v_t_filled, .int o16.2.1, .int o16.2.2.1, .ref q_t_draft, .int o1.2.2.2.2.2.2.1, .int t_end, .int o20.1, .int o20.2.1, .int o20.2.2.1, .int o20.2.2.2.1, .long o20.2.2.2.2], xB G q_t_tape 900 t_tape, xJ G q_t_names 24 o1.2.1, xI G q_t_nameLines 24 o1.2.2.1, xI G q_t_nameNumbers 24 o1.2.2.2.1, xO q_t_draft 6 [v_t_draft_flow, v_t_draft_tape, v_t_draft_reaches, .int t_draft_ropes, v_t_draft_hands, v_t_draft_boats, v_t_draft_muds, v_t_draft_loose, v_t_draft_kind, v_t_draft_wide, v_t_draft_bank, v_t_draft_mud, .ref q_t_draft_ropeAt, .ref q_t_draft_pulls, .ref q_t_draft_bears, v_t_draft_strong, v_t_draft_boatWide, v_t_draft_boatDeep], xI G q_t_draft_ropeAt 7 r9, xI G q_t_draft_pulls 7 r14, xI G q_t_draft_bears 7 r19]) X hW hl.1 (c_X5_next l G q_t q_t_tape (.ref q_t_names) (.ref q_t_nameLines) (.ref q_t_nameNumbers) (v_t_filled) (.int o16.2.1) (.int o16.2.2.1) (.ref q_t_draft) (.int o1.2.2.2.2.2.2.1) t_tape t_end o16.2.2.2.1 o16.2.2.2.2.1 o16.2.2.2.2.2.1 o16.2.2.2.2.2.2.1 o16.2.2.2.2.2.2.2 o20 ho20) 0 rfl rfl kw_196 kw_197 kw_198 kw_15 kw_199 (by decide +kernel) ⟨rfl, rfl⟩ ⟨by decide, by decide⟩ ⟨Nat.zero_le _, Nat.zero_le _⟩ [0, 1] (by decide) rfl rfl rfl rfl rfl rfl (Nat.le_of_ble_eq_true rfl) rfl dX5_readRope_127 (fun H locs hW => ?_)
            refine lv_aload_n hx hb dX5_readRope_130 rfl (lv_at hl 2 rfl) ?_
            refine mx_get (C := RX5) (T := TX5) (N := 15) (ci := 5) X hW 0 rfl rfl tbc_X5 7 (by decide) kw_64 rfl dX5_readRope_131 ?_
            refine lv_dup hx hb dX5_readRope_134 rfl ?_
            refine mx_get (C := RX6) (T := TX6) (N := 18) (ci := 6) X hW 5 rfl rfl tbc_X6 3 (by decide) kw_236 rfl dX5_readRope_135 ?_
            refine lv_iconst (v := 1) hx hb dX5_readRope_138 (by decide) ?_
            refine lv_iadd hx hb dX5_readRope_139 ?_
            refine lv_topi (fun z21 ez21 => ?_)
            have hm := nm_s ez21 hm
            refine mx_put (C := RX6) (T := TX6) (N := 18) (ci := 6) (w2 := [xO q_t 5 [.ref q_t_tape, .ref q_t_names, .ref q_t_nameLines, .ref q_t_nameNumbers, v_t_filled, .int o16.2.1, .int o16.2.2.1, .ref q_t_draft, .int o1.2.2.2.2.2.2.1, .int t_end, .int o20.1, .int o20.2.1, .int o20.2.2.1, .int o20.2.2.2.1, .long o20.2.2.2.2], xB G q_t_tape 900 t_tape, xJ G q_t_names 24 o1.2.1, xI G q_t_nameLines 24 o1.2.2.1, xI G q_t_nameNumbers 24 o1.2.2.2.1, xO q_t_draft 6 [v_t_draft_flow, v_t_draft_tape, v_t_draft_reaches, .int z21, v_t_draft_hands, v_t_draft_boats, v_t_draft_muds, v_t_draft_loose, v_t_draft_kind, v_t_draft_wide, v_t_draft_bank, v_t_draft_mud, .ref q_t_draft_ropeAt, .ref q_t_draft_pulls, .ref q_t_draft_bears, v_t_draft_strong, v_t_draft_boatWide, v_t_draft_boatDeep], xI G q_t_draft_ropeAt 7 r9, xI G q_t_draft_pulls 7 r14, xI G q_t_draft_bears 7 r19]) X hW 5 rfl rfl tbc_X6 tyX6 tyX6_ok nmX6 3 (by decide) kw_236 rfl rfl rfl rfl (Nat.le_of_ble_eq_true rfl) rfl dX5_readRope_140 (fun H locs hW => ?_)
            refine lv_iconst (v := 1) hx hb dX5_readRope_143 (by decide) ?_
            obtain rfl := Option.some.inj hm
            exact mx_zret X nb1 hW dX5_readRope_144
          · have hm := (if_pos c17).symm.trans hm
            refine lv_iconst (v := 0) hx hb dX5_readRope_111 (by decide) ?_
            obtain rfl := Option.some.inj hm
            exact mx_zret X nb0 hW dX5_readRope_112
        · have hm := (if_pos c12).symm.trans hm
          refine lv_iconst (v := 0) hx hb dX5_readRope_79 (by decide) ?_
          obtain rfl := Option.some.inj hm
          exact mx_zret X nb0 hW dX5_readRope_80
      · have hm := (if_pos c7).symm.trans hm
        refine lv_iconst (v := 0) hx hb dX5_readRope_50 (by decide) ?_
        obtain rfl := Option.some.inj hm
        exact mx_zret X nb0 hW dX5_readRope_51
    · have hm := (if_pos c4).symm.trans hm
      refine lv_aload_n hx hb dX5_readRope_29 rfl (lv_at hl 1 rfl) ?_
      refine lv_iconst (v := 1) hx hb dX5_readRope_30 (by decide) ?_
      obtain ⟨o22, ho22, hm⟩ := bd_s hm
      refine mx_callV (C := RX5) (T := TX5) (N := 15) (ci := 5) (n := 1) (As := [.int 1]) (rest := []) (st1 := [.int o22.1]) (w2 := [xO q_t 5 [.ref q_t_tape, .ref q_t_names, .ref q_t_nameLines, .ref q_t_nameNumbers, v_t_filled, .int o22.2.1, .int o22.2.2, .ref q_t_draft, .int o1.2.2.2.2.2.2.1, .int t_end, .int o1.2.2.2.2.2.2.2.1, .int o1.2.2.2.2.2.2.2.2.1, .int o1.2.2.2.2.2.2.2.2.2.1, .int o1.2.2.2.2.2.2.2.2.2.2.1, .long o1.2.2.2.2.2.2.2.2.2.2.2], xB G q_t_tape 900 t_tape, xJ G q_t_names 24 o1.2.1, xI G q_t_nameLines 24 o1.2.2.1, xI G q_t_nameNumbers 24 o1.2.2.2.1, xO q_t_draft 6 [v_t_draft_flow, v_t_draft_tape, v_t_draft_reaches, .int t_draft_ropes, v_t_draft_hands, v_t_draft_boats, v_t_draft_muds, v_t_draft_loose, v_t_draft_kind, v_t_draft_wide, v_t_draft_bank, v_t_draft_mud, .ref q_t_draft_ropeAt, .ref q_t_draft_pulls, .ref q_t_draft_bears, v_t_draft_strong, v_t_draft_boatWide, v_t_draft_boatDeep], xI G q_t_draft_ropeAt 7 t_draft_ropeAt, xI G q_t_draft_pulls 7 t_draft_pulls, xI G q_t_draft_bears 7 t_draft_bears]) X hW hl.1 (c_X5_fail l G q_t (.ref q_t_tape) (.ref q_t_names) (.ref q_t_nameLines) (.ref q_t_nameNumbers) (v_t_filled) (.ref q_t_draft) (.int o1.2.2.2.2.2.2.1) (.int t_end) (.int o1.2.2.2.2.2.2.2.1) (.int o1.2.2.2.2.2.2.2.2.1) (.int o1.2.2.2.2.2.2.2.2.2.2.1) (.long o1.2.2.2.2.2.2.2.2.2.2.2) o1.2.2.2.2.1 o1.2.2.2.2.2.1 o1.2.2.2.2.2.2.2.2.2.1 1 o22 ho22) 0 rfl rfl kw_227 kw_228 kw_229 kw_15 kw_230 (by decide +kernel) ⟨rfl, rfl⟩ ⟨by decide, by decide⟩ ⟨Nat.zero_le _, Nat.zero_le _⟩ [0] (by decide) rfl rfl rfl rfl rfl rfl (Nat.le_of_ble_eq_true rfl) rfl dX5_readRope_31 (fun H locs hW => ?_)
      obtain ⟨hg23, hm⟩ := gd_s hm
      obtain rfl := Option.some.inj hm
      exact mx_zret X (nbl_s hg23) hW dX5_readRope_34
  · have hm := (if_pos c2).symm.trans hm
    refine lv_iconst (v := 0) hx hb dX5_readRope_17 (by decide) ?_
    obtain rfl := Option.some.inj hm
    exact mx_zret X nb0 hW dX5_readRope_18

abbrev rm_X5_readLine : Room := { frames := 4, cells := 0, slots := 0, locals := 86 }
noncomputable def f_X5_readLine_B75  (x1 : Int32) (t_tape : Nat → Int32) (t_names : Nat → Int64) (t_nameLines : Nat → Int32) (t_nameNumbers : Nat → Int32) (t_fault : Int32) (t_faultPlace : Int32) (t_draft_flow : Int32) (t_draft_tape : Int32) (t_draft_reaches : Int32) (t_draft_ropes : Int32) (t_draft_hands : Int32) (t_draft_boats : Int32) (t_draft_muds : Int32) (t_draft_loose : Int32) (t_draft_kind : Nat → Int32) (t_draft_wide : Nat → Int32) (t_draft_bank : Nat → Int32) (t_draft_mud : Nat → Int32) (t_draft_ropeAt : Nat → Int32) (t_draft_pulls : Nat → Int32) (t_draft_bears : Nat → Int32) (t_draft_strong : Nat → Int32) (t_draft_boatWide : Nat → Int32) (t_draft_boatDeep : Nat → Int32) (t_named : Int32) (t_end : Int32) (t_at : Int32) (t_sort : Int32) (t_place : Int32) (t_value : Int32) (t_code : Int64) : Option (Int32 × (Nat → Int64) × (Nat → Int32) × (Nat → Int32) × Int32 × Int32 × Int32 × Int32 × Int32 × Int32 × Int32 × Int32 × Int32 × Int32 × (Nat → Int32) × (Nat → Int32) × (Nat → Int32) × (Nat → Int32) × (Nat → Int32) × (Nat → Int32) × (Nat → Int32) × (Nat → Int32) × (Nat → Int32) × (Nat → Int32) × Int32 × Int32 × Int32 × Int32 × Int32 × Int64) :=
  (f_X5_next t_tape t_end t_at t_sort t_place t_value t_code).bind fun o8 => 
(if x1 = 0 then
  (f_X5_readRiver t_tape t_fault t_faultPlace t_draft_flow t_draft_tape t_end o8.1 o8.2.1 o8.2.2.1 o8.2.2.2.1 o8.2.2.2.2).bind fun o10 => gd (nbl o10.1) <| some (o10.1, t_names, t_nameLines, t_nameNumbers, o10.2.1, o10.2.2.1, o10.2.2.2.1, o10.2.2.2.2.1, t_draft_reaches, t_draft_ropes, t_draft_hands, t_draft_boats, t_draft_muds, t_draft_loose, t_draft_kind, t_draft_wide, t_draft_bank, t_draft_mud, t_draft_ropeAt, t_draft_pulls, t_draft_bears, t_draft_strong, t_draft_boatWide, t_draft_boatDeep, t_named, o10.2.2.2.2.2.1, o10.2.2.2.2.2.2.1, o10.2.2.2.2.2.2.2.1, o10.2.2.2.2.2.2.2.2.1, o10.2.2.2.2.2.2.2.2.2)
else (if x1 = 1 then
  (f_X5_readReach t_tape t_names t_nameLines t_nameNumbers t_fault t_faultPlace t_draft_reaches t_draft_kind t_draft_wide t_draft_bank t_named t_end o8.1 o8.2.1 o8.2.2.1 o8.2.2.2.1 o8.2.2.2.2).bind fun o13 => gd (nbl o13.1) <| some (o13.1, o13.2.1, o13.2.2.1, o13.2.2.2.1, o13.2.2.2.2.1, o13.2.2.2.2.2.1, t_draft_flow, t_draft_tape, o13.2.2.2.2.2.2.1, t_draft_ropes, t_draft_hands, t_draft_boats, t_draft_muds, t_draft_loose, o13.2.2.2.2.2.2.2.1, o13.2.2.2.2.2.2.2.2.1, o13.2.2.2.2.2.2.2.2.2.1, t_draft_mud, t_draft_ropeAt, t_draft_pulls, t_draft_bears, t_draft_strong, t_draft_boatWide, t_draft_boatDeep, o13.2.2.2.2.2.2.2.2.2.2.1, o13.2.2.2.2.2.2.2.2.2.2.2.1, o13.2.2.2.2.2.2.2.2.2.2.2.2.1, o13.2.2.2.2.2.2.2.2.2.2.2.2.2.1, o13.2.2.2.2.2.2.2.2.2.2.2.2.2.2.1, o13.2.2.2.2.2.2.2.2.2.2.2.2.2.2.2)
else (if x1 = 2 then
  (f_X5_readRope t_tape t_names t_nameLines t_nameNumbers t_fault t_faultPlace t_draft_ropes t_draft_ropeAt t_draft_pulls t_draft_bears t_named t_end o8.1 o8.2.1 o8.2.2.1 o8.2.2.2.1 o8.2.2.2.2).bind fun o16 => gd (nbl o16.1) <| some (o16.1, o16.2.1, o16.2.2.1, o16.2.2.2.1, o16.2.2.2.2.1, o16.2.2.2.2.2.1, t_draft_flow, t_draft_tape, t_draft_reaches, o16.2.2.2.2.2.2.1, t_draft_hands, t_draft_boats, t_draft_muds, t_draft_loose, t_draft_kind, t_draft_wide, t_draft_bank, t_draft_mud, o16.2.2.2.2.2.2.2.1, o16.2.2.2.2.2.2.2.2.1, o16.2.2.2.2.2.2.2.2.2.1, t_draft_strong, t_draft_boatWide, t_draft_boatDeep, o16.2.2.2.2.2.2.2.2.2.2.1, o16.2.2.2.2.2.2.2.2.2.2.2.1, o16.2.2.2.2.2.2.2.2.2.2.2.2.1, o16.2.2.2.2.2.2.2.2.2.2.2.2.2.1, o16.2.2.2.2.2.2.2.2.2.2.2.2.2.2.1, o16.2.2.2.2.2.2.2.2.2.2.2.2.2.2.2)
else (if x1 = 3 then
  (f_X5_readLoose t_tape t_names t_nameLines t_nameNumbers t_fault t_faultPlace t_draft_loose t_named t_end o8.1 o8.2.1 o8.2.2.1 o8.2.2.2.1 o8.2.2.2.2).bind fun o19 => gd (nbl o19.1) <| some (o19.1, t_names, t_nameLines, t_nameNumbers, o19.2.1, o19.2.2.1, t_draft_flow, t_draft_tape, t_draft_reaches, t_draft_ropes, t_draft_hands, t_draft_boats, t_draft_muds, o19.2.2.2.1, t_draft_kind, t_draft_wide, t_draft_bank, t_draft_mud, t_draft_ropeAt, t_draft_pulls, t_draft_bears, t_draft_strong, t_draft_boatWide, t_draft_boatDeep, t_named, o19.2.2.2.2.1, o19.2.2.2.2.2.1, o19.2.2.2.2.2.2.1, o19.2.2.2.2.2.2.2.1, o19.2.2.2.2.2.2.2.2)
else (if x1 = 4 then
  (f_X5_readHand t_tape t_names t_nameLines t_nameNumbers t_fault t_faultPlace t_draft_hands t_draft_strong t_named t_end o8.1 o8.2.1 o8.2.2.1 o8.2.2.2.1 o8.2.2.2.2).bind fun o22 => gd (nbl o22.1) <| some (o22.1, o22.2.1, o22.2.2.1, o22.2.2.2.1, o22.2.2.2.2.1, o22.2.2.2.2.2.1, t_draft_flow, t_draft_tape, t_draft_reaches, t_draft_ropes, o22.2.2.2.2.2.2.1, t_draft_boats, t_draft_muds, t_draft_loose, t_draft_kind, t_draft_wide, t_draft_bank, t_draft_mud, t_draft_ropeAt, t_draft_pulls, t_draft_bears, o22.2.2.2.2.2.2.2.1, t_draft_boatWide, t_draft_boatDeep, o22.2.2.2.2.2.2.2.2.1, o22.2.2.2.2.2.2.2.2.2.1, o22.2.2.2.2.2.2.2.2.2.2.1, o22.2.2.2.2.2.2.2.2.2.2.2.1, o22.2.2.2.2.2.2.2.2.2.2.2.2.1, o22.2.2.2.2.2.2.2.2.2.2.2.2.2)
else (if x1 = 5 then
  (f_X5_readBoat t_tape t_names t_nameLines t_nameNumbers t_fault t_faultPlace t_draft_boats t_draft_boatWide t_draft_boatDeep t_named t_end o8.1 o8.2.1 o8.2.2.1 o8.2.2.2.1 o8.2.2.2.2).bind fun o25 => gd (nbl o25.1) <| some (o25.1, o25.2.1, o25.2.2.1, o25.2.2.2.1, o25.2.2.2.2.1, o25.2.2.2.2.2.1, t_draft_flow, t_draft_tape, t_draft_reaches, t_draft_ropes, t_draft_hands, o25.2.2.2.2.2.2.1, t_draft_muds, t_draft_loose, t_draft_kind, t_draft_wide, t_draft_bank, t_draft_mud, t_draft_ropeAt, t_draft_pulls, t_draft_bears, t_draft_strong, o25.2.2.2.2.2.2.2.1, o25.2.2.2.2.2.2.2.2.1, o25.2.2.2.2.2.2.2.2.2.1, o25.2.2.2.2.2.2.2.2.2.2.1, o25.2.2.2.2.2.2.2.2.2.2.2.1, o25.2.2.2.2.2.2.2.2.2.2.2.2.1, o25.2.2.2.2.2.2.2.2.2.2.2.2.2.1, o25.2.2.2.2.2.2.2.2.2.2.2.2.2.2)
else 
  (f_X5_readMud t_tape t_names t_nameLines t_nameNumbers t_fault t_faultPlace t_draft_muds t_draft_mud t_named t_end o8.1 o8.2.1 o8.2.2.1 o8.2.2.2.1 o8.2.2.2.2).bind fun o27 => gd (nbl o27.1) <| some (o27.1, t_names, t_nameLines, t_nameNumbers, o27.2.1, o27.2.2.1, t_draft_flow, t_draft_tape, t_draft_reaches, t_draft_ropes, t_draft_hands, t_draft_boats, o27.2.2.2.1, t_draft_loose, t_draft_kind, t_draft_wide, t_draft_bank, o27.2.2.2.2.1, t_draft_ropeAt, t_draft_pulls, t_draft_bears, t_draft_strong, t_draft_boatWide, t_draft_boatDeep, t_named, o27.2.2.2.2.2.1, o27.2.2.2.2.2.2.1, o27.2.2.2.2.2.2.2.1, o27.2.2.2.2.2.2.2.2.1, o27.2.2.2.2.2.2.2.2.2)))))))
noncomputable def f_X5_readLine_B46  (x1 : Int32) (x2 : Int32) (t_tape : Nat → Int32) (t_names : Nat → Int64) (t_nameLines : Nat → Int32) (t_nameNumbers : Nat → Int32) (t_fault : Int32) (t_faultPlace : Int32) (t_draft_flow : Int32) (t_draft_tape : Int32) (t_draft_reaches : Int32) (t_draft_ropes : Int32) (t_draft_hands : Int32) (t_draft_boats : Int32) (t_draft_muds : Int32) (t_draft_loose : Int32) (t_draft_kind : Nat → Int32) (t_draft_wide : Nat → Int32) (t_draft_bank : Nat → Int32) (t_draft_mud : Nat → Int32) (t_draft_ropeAt : Nat → Int32) (t_draft_pulls : Nat → Int32) (t_draft_bears : Nat → Int32) (t_draft_strong : Nat → Int32) (t_draft_boatWide : Nat → Int32) (t_draft_boatDeep : Nat → Int32) (t_named : Int32) (t_end : Int32) (t_at : Int32) (t_sort : Int32) (t_place : Int32) (t_value : Int32) (t_code : Int64) : Option (Int32 × (Nat → Int64) × (Nat → Int32) × (Nat → Int32) × Int32 × Int32 × Int32 × Int32 × Int32 × Int32 × Int32 × Int32 × Int32 × Int32 × (Nat → Int32) × (Nat → Int32) × (Nat → Int32) × (Nat → Int32) × (Nat → Int32) × (Nat → Int32) × (Nat → Int32) × (Nat → Int32) × (Nat → Int32) × (Nat → Int32) × Int32 × Int32 × Int32 × Int32 × Int32 × Int64) :=
  (f_X5_isFull x1 t_draft_reaches t_draft_ropes t_draft_hands t_draft_boats).bind fun o5 => (if o5 = 0 then
    (if x1 = 0 then
      f_X5_readLine_B75  x1 t_tape t_names t_nameLines t_nameNumbers t_fault t_faultPlace t_draft_flow t_draft_tape t_draft_reaches t_draft_ropes t_draft_hands t_draft_boats t_draft_muds t_draft_loose t_draft_kind t_draft_wide t_draft_bank t_draft_mud t_draft_ropeAt t_draft_pulls t_draft_bears t_draft_strong t_draft_boatWide t_draft_boatDeep t_named t_end t_at t_sort t_place t_value t_code
    else
      (if x2 = 0 then
        (f_X5_fail 6 t_fault t_faultPlace t_place).bind fun o30 => gd (nbl o30.1) <| some (o30.1, t_names, t_nameLines, t_nameNumbers, o30.2.1, o30.2.2, t_draft_flow, t_draft_tape, t_draft_reaches, t_draft_ropes, t_draft_hands, t_draft_boats, t_draft_muds, t_draft_loose, t_draft_kind, t_draft_wide, t_draft_bank, t_draft_mud, t_draft_ropeAt, t_draft_pulls, t_draft_bears, t_draft_strong, t_draft_boatWide, t_draft_boatDeep, t_named, t_at, t_sort, t_place, t_value, t_code)
      else
        f_X5_readLine_B75  x1 t_tape t_names t_nameLines t_nameNumbers t_fault t_faultPlace t_draft_flow t_draft_tape t_draft_reaches t_draft_ropes t_draft_hands t_draft_boats t_draft_muds t_draft_loose t_draft_kind t_draft_wide t_draft_bank t_draft_mud t_draft_ropeAt t_draft_pulls t_draft_bears t_draft_strong t_draft_boatWide t_draft_boatDeep t_named t_end t_at t_sort t_place t_value t_code))
  else
    (f_X5_fail 5 t_fault t_faultPlace t_place).bind fun o32 => gd (nbl o32.1) <| some (o32.1, t_names, t_nameLines, t_nameNumbers, o32.2.1, o32.2.2, t_draft_flow, t_draft_tape, t_draft_reaches, t_draft_ropes, t_draft_hands, t_draft_boats, t_draft_muds, t_draft_loose, t_draft_kind, t_draft_wide, t_draft_bank, t_draft_mud, t_draft_ropeAt, t_draft_pulls, t_draft_bears, t_draft_strong, t_draft_boatWide, t_draft_boatDeep, t_named, t_at, t_sort, t_place, t_value, t_code))
noncomputable def f_X5_readLine_B31  (x1 : Int32) (y0 : Int32) (t_tape : Nat → Int32) (t_names : Nat → Int64) (t_nameLines : Nat → Int32) (t_nameNumbers : Nat → Int32) (t_fault : Int32) (t_faultPlace : Int32) (t_draft_flow : Int32) (t_draft_tape : Int32) (t_draft_reaches : Int32) (t_draft_ropes : Int32) (t_draft_hands : Int32) (t_draft_boats : Int32) (t_draft_muds : Int32) (t_draft_loose : Int32) (t_draft_kind : Nat → Int32) (t_draft_wide : Nat → Int32) (t_draft_bank : Nat → Int32) (t_draft_mud : Nat → Int32) (t_draft_ropeAt : Nat → Int32) (t_draft_pulls : Nat → Int32) (t_draft_bears : Nat → Int32) (t_draft_strong : Nat → Int32) (t_draft_boatWide : Nat → Int32) (t_draft_boatDeep : Nat → Int32) (t_named : Int32) (t_end : Int32) (t_at : Int32) (t_sort : Int32) (t_place : Int32) (t_value : Int32) (t_code : Int64) : Option (Int32 × (Nat → Int64) × (Nat → Int32) × (Nat → Int32) × Int32 × Int32 × Int32 × Int32 × Int32 × Int32 × Int32 × Int32 × Int32 × Int32 × (Nat → Int32) × (Nat → Int32) × (Nat → Int32) × (Nat → Int32) × (Nat → Int32) × (Nat → Int32) × (Nat → Int32) × (Nat → Int32) × (Nat → Int32) × (Nat → Int32) × Int32 × Int32 × Int32 × Int32 × Int32 × Int64) :=
  (if x1 = 0 then
    (if y0 = 0 then
      f_X5_readLine_B46  x1 y0 t_tape t_names t_nameLines t_nameNumbers t_fault t_faultPlace t_draft_flow t_draft_tape t_draft_reaches t_draft_ropes t_draft_hands t_draft_boats t_draft_muds t_draft_loose t_draft_kind t_draft_wide t_draft_bank t_draft_mud t_draft_ropeAt t_draft_pulls t_draft_bears t_draft_strong t_draft_boatWide t_draft_boatDeep t_named t_end t_at t_sort t_place t_value t_code
    else
      (f_X5_fail 3 t_fault t_faultPlace t_place).bind fun o35 => gd (nbl o35.1) <| some (o35.1, t_names, t_nameLines, t_nameNumbers, o35.2.1, o35.2.2, t_draft_flow, t_draft_tape, t_draft_reaches, t_draft_ropes, t_draft_hands, t_draft_boats, t_draft_muds, t_draft_loose, t_draft_kind, t_draft_wide, t_draft_bank, t_draft_mud, t_draft_ropeAt, t_draft_pulls, t_draft_bears, t_draft_strong, t_draft_boatWide, t_draft_boatDeep, t_named, t_at, t_sort, t_place, t_value, t_code))
  else
    f_X5_readLine_B46  x1 y0 t_tape t_names t_nameLines t_nameNumbers t_fault t_faultPlace t_draft_flow t_draft_tape t_draft_reaches t_draft_ropes t_draft_hands t_draft_boats t_draft_muds t_draft_loose t_draft_kind t_draft_wide t_draft_bank t_draft_mud t_draft_ropeAt t_draft_pulls t_draft_bears t_draft_strong t_draft_boatWide t_draft_boatDeep t_named t_end t_at t_sort t_place t_value t_code)
noncomputable def f_X5_readLine (t_tape : Nat → Int32) (t_names : Nat → Int64) (t_nameLines : Nat → Int32) (t_nameNumbers : Nat → Int32) (t_fault : Int32) (t_faultPlace : Int32) (t_draft_flow : Int32) (t_draft_tape : Int32) (t_draft_reaches : Int32) (t_draft_ropes : Int32) (t_draft_hands : Int32) (t_draft_boats : Int32) (t_draft_muds : Int32) (t_draft_loose : Int32) (t_draft_kind : Nat → Int32) (t_draft_wide : Nat → Int32) (t_draft_bank : Nat → Int32) (t_draft_mud : Nat → Int32) (t_draft_ropeAt : Nat → Int32) (t_draft_pulls : Nat → Int32) (t_draft_bears : Nat → Int32) (t_draft_strong : Nat → Int32) (t_draft_boatWide : Nat → Int32) (t_draft_boatDeep : Nat → Int32) (t_named : Int32) (t_end : Int32) (t_at : Int32) (t_sort : Int32) (t_place : Int32) (t_value : Int32) (t_code : Int64) : Option (Int32 × (Nat → Int64) × (Nat → Int32) × (Nat → Int32) × Int32 × Int32 × Int32 × Int32 × Int32 × Int32 × Int32 × Int32 × Int32 × Int32 × (Nat → Int32) × (Nat → Int32) × (Nat → Int32) × (Nat → Int32) × (Nat → Int32) × (Nat → Int32) × (Nat → Int32) × (Nat → Int32) × (Nat → Int32) × (Nat → Int32) × Int32 × Int32 × Int32 × Int32 × Int32 × Int64) :=
  (f_X5_lineOfWord t_sort t_code).bind fun o1 => (if o1 = ((-1)) then
    (f_X5_fail 1 t_fault t_faultPlace t_place).bind fun o37 => gd (nbl o37.1) <| some (o37.1, t_names, t_nameLines, t_nameNumbers, o37.2.1, o37.2.2, t_draft_flow, t_draft_tape, t_draft_reaches, t_draft_ropes, t_draft_hands, t_draft_boats, t_draft_muds, t_draft_loose, t_draft_kind, t_draft_wide, t_draft_bank, t_draft_mud, t_draft_ropeAt, t_draft_pulls, t_draft_bears, t_draft_strong, t_draft_boatWide, t_draft_boatDeep, t_named, t_at, t_sort, t_place, t_value, t_code)
  else
    (if t_draft_flow ≤ 0 then
      f_X5_readLine_B31  o1 0 t_tape t_names t_nameLines t_nameNumbers t_fault t_faultPlace t_draft_flow t_draft_tape t_draft_reaches t_draft_ropes t_draft_hands t_draft_boats t_draft_muds t_draft_loose t_draft_kind t_draft_wide t_draft_bank t_draft_mud t_draft_ropeAt t_draft_pulls t_draft_bears t_draft_strong t_draft_boatWide t_draft_boatDeep t_named t_end t_at t_sort t_place t_value t_code
    else
      f_X5_readLine_B31  o1 1 t_tape t_names t_nameLines t_nameNumbers t_fault t_faultPlace t_draft_flow t_draft_tape t_draft_reaches t_draft_ropes t_draft_hands t_draft_boats t_draft_muds t_draft_loose t_draft_kind t_draft_wide t_draft_bank t_draft_mud t_draft_ropeAt t_draft_pulls t_draft_bears t_draft_strong t_draft_boatWide t_draft_boatDeep t_named t_end t_at t_sort t_place t_value t_code))
set_option maxHeartbeats 4000000 in
set_option maxRecDepth 100000 in
theorem w_X5_readLine_B75 {p : Program} {l : Launch} {e : Env} {s : State} {m : MethodId} {args : Array Value} {below : List Frame} {meth : Method} {c : Code} {A : Nat → Prop} {G : mx_G} (X : mx_X p s m args meth c RX5 "readLine" cX5_readLine 3 (some .boolean) G) (q_t : Nat) (q_t_tape : Nat) (q_t_names : Nat) (q_t_nameLines : Nat) (q_t_nameNumbers : Nat) (q_t_draft : Nat) (q_t_draft_kind : Nat) (q_t_draft_wide : Nat) (q_t_draft_bank : Nat) (q_t_draft_mud : Nat) (q_t_draft_ropeAt : Nat) (q_t_draft_pulls : Nat) (q_t_draft_bears : Nat) (q_t_draft_strong : Nat) (q_t_draft_boatWide : Nat) (q_t_draft_boatDeep : Nat) (v_t_filled : Value) (out : Int32 × (Nat → Int64) × (Nat → Int32) × (Nat → Int32) × Int32 × Int32 × Int32 × Int32 × Int32 × Int32 × Int32 × Int32 × Int32 × Int32 × (Nat → Int32) × (Nat → Int32) × (Nat → Int32) × (Nat → Int32) × (Nat → Int32) × (Nat → Int32) × (Nat → Int32) × (Nat → Int32) × (Nat → Int32) × (Nat → Int32) × Int32 × Int32 × Int32 × Int32 × Int32 × Int64)   : ∀ (x1 : Int32) (t_tape : Nat → Int32) (t_names : Nat → Int64) (t_nameLines : Nat → Int32) (t_nameNumbers : Nat → Int32) (t_fault : Int32) (t_faultPlace : Int32) (t_draft_flow : Int32) (t_draft_tape : Int32) (t_draft_reaches : Int32) (t_draft_ropes : Int32) (t_draft_hands : Int32) (t_draft_boats : Int32) (t_draft_muds : Int32) (t_draft_loose : Int32) (t_draft_kind : Nat → Int32) (t_draft_wide : Nat → Int32) (t_draft_bank : Nat → Int32) (t_draft_mud : Nat → Int32) (t_draft_ropeAt : Nat → Int32) (t_draft_pulls : Nat → Int32) (t_draft_bears : Nat → Int32) (t_draft_strong : Nat → Int32) (t_draft_boatWide : Nat → Int32) (t_draft_boatDeep : Nat → Int32) (t_named : Int32) (t_end : Int32) (t_at : Int32) (t_sort : Int32) (t_place : Int32) (t_value : Int32) (t_code : Int64) (H : Heap) (locs : List Loc) (ls : Array Slot), f_X5_readLine_B75  x1 t_tape t_names t_nameLines t_nameNumbers t_fault t_faultPlace t_draft_flow t_draft_tape t_draft_reaches t_draft_ropes t_draft_hands t_draft_boats t_draft_muds t_draft_loose t_draft_kind t_draft_wide t_draft_bank t_draft_mud t_draft_ropeAt t_draft_pulls t_draft_bears t_draft_strong t_draft_boatWide t_draft_boatDeep t_named t_end t_at t_sort t_place t_value t_code = some out → mx_W G s A [xO q_t 5 [.ref q_t_tape, .ref q_t_names, .ref q_t_nameLines, .ref q_t_nameNumbers, v_t_filled, .int t_fault, .int t_faultPlace, .ref q_t_draft, .int t_named, .int t_end, .int t_at, .int t_sort, .int t_place, .int t_value, .long t_code], xB G q_t_tape 900 t_tape, xJ G q_t_names 24 t_names, xI G q_t_nameLines 24 t_nameLines, xI G q_t_nameNumbers 24 t_nameNumbers, xO q_t_draft 6 [.int t_draft_flow, .int t_draft_tape, .int t_draft_reaches, .int t_draft_ropes, .int t_draft_hands, .int t_draft_boats, .int t_draft_muds, .int t_draft_loose, .ref q_t_draft_kind, .ref q_t_draft_wide, .ref q_t_draft_bank, .ref q_t_draft_mud, .ref q_t_draft_ropeAt, .ref q_t_draft_pulls, .ref q_t_draft_bears, .ref q_t_draft_strong, .ref q_t_draft_boatWide, .ref q_t_draft_boatDeep], xI G q_t_draft_kind 6 t_draft_kind, xI G q_t_draft_wide 6 t_draft_wide, xI G q_t_draft_bank 6 t_draft_bank, xI G q_t_draft_mud 6 t_draft_mud, xI G q_t_draft_ropeAt 7 t_draft_ropeAt, xI G q_t_draft_pulls 7 t_draft_pulls, xI G q_t_draft_bears 7 t_draft_bears, xI G q_t_draft_strong 6 t_draft_strong, xI G q_t_draft_boatWide 5 t_draft_boatWide, xI G q_t_draft_boatDeep 5 t_draft_boatDeep] H locs → lv_has ls 3 [(0, .ref q_t), (1, .int x1)] → W p l e rm_X5_readLine s m args below meth c H locs 0 0 (MQ below (mx_Q G (some (.int out.1)) [xO q_t 5 [.ref q_t_tape, .ref q_t_names, .ref q_t_nameLines, .ref q_t_nameNumbers, v_t_filled, .int out.2.2.2.2.1, .int out.2.2.2.2.2.1, .ref q_t_draft, .int out.2.2.2.2.2.2.2.2.2.2.2.2.2.2.2.2.2.2.2.2.2.2.2.2.1, .int t_end, .int out.2.2.2.2.2.2.2.2.2.2.2.2.2.2.2.2.2.2.2.2.2.2.2.2.2.1, .int out.2.2.2.2.2.2.2.2.2.2.2.2.2.2.2.2.2.2.2.2.2.2.2.2.2.2.1, .int out.2.2.2.2.2.2.2.2.2.2.2.2.2.2.2.2.2.2.2.2.2.2.2.2.2.2.2.1, .int out.2.2.2.2.2.2.2.2.2.2.2.2.2.2.2.2.2.2.2.2.2.2.2.2.2.2.2.2.1, .long out.2.2.2.2.2.2.2.2.2.2.2.2.2.2.2.2.2.2.2.2.2.2.2.2.2.2.2.2.2], xB G q_t_tape 900 t_tape, xJ G q_t_names 24 out.2.1, xI G q_t_nameLines 24 out.2.2.1, xI G q_t_nameNumbers 24 out.2.2.2.1, xO q_t_draft 6 [.int out.2.2.2.2.2.2.1, .int out.2.2.2.2.2.2.2.1, .int out.2.2.2.2.2.2.2.2.1, .int out.2.2.2.2.2.2.2.2.2.1, .int out.2.2.2.2.2.2.2.2.2.2.1, .int out.2.2.2.2.2.2.2.2.2.2.2.1, .int out.2.2.2.2.2.2.2.2.2.2.2.2.1, .int out.2.2.2.2.2.2.2.2.2.2.2.2.2.1, .ref q_t_draft_kind, .ref q_t_draft_wide, .ref q_t_draft_bank, .ref q_t_draft_mud, .ref q_t_draft_ropeAt, .ref q_t_draft_pulls, .ref q_t_draft_bears, .ref q_t_draft_strong, .ref q_t_draft_boatWide, .ref q_t_draft_boatDeep], xI G q_t_draft_kind 6 out.2.2.2.2.2.2.2.2.2.2.2.2.2.2.1, xI G q_t_draft_wide 6 out.2.2.2.2.2.2.2.2.2.2.2.2.2.2.2.1, xI G q_t_draft_bank 6 out.2.2.2.2.2.2.2.2.2.2.2.2.2.2.2.2.1, xI G q_t_draft_mud 6 out.2.2.2.2.2.2.2.2.2.2.2.2.2.2.2.2.2.1, xI G q_t_draft_ropeAt 7 out.2.2.2.2.2.2.2.2.2.2.2.2.2.2.2.2.2.2.1, xI G q_t_draft_pulls 7 out.2.2.2.2.2.2.2.2.2.2.2.2.2.2.2.2.2.2.2.1, xI G q_t_draft_bears 7 out.2.2.2.2.2.2.2.2.2.2.2.2.2.2.2.2.2.2.2.2.1, xI G q_t_draft_strong 6 out.2.2.2.2.2.2.2.2.2.2.2.2.2.2.2.2.2.2.2.2.2.1, xI G q_t_draft_boatWide 5 out.2.2.2.2.2.2.2.2.2.2.2.2.2.2.2.2.2.2.2.2.2.2.1, xI G q_t_draft_boatDeep 5 out.2.2.2.2.2.2.2.2.2.2.2.2.2.2.2.2.2.2.2.2.2.2.2.1] A) args s 0 0 A) (F0 m 75 ls []) := by
  obtain ⟨hx, hb, hml, hown, hts, hKN, -⟩ := id X
  intro x1 t_tape t_names t_nameLines t_nameNumbers t_fault t_faultPlace t_draft_flow t_draft_tape t_draft_reaches t_draft_ropes t_draft_hands t_draft_boats t_draft_muds t_draft_loose t_draft_kind t_draft_wide t_draft_bank t_draft_mud t_draft_ropeAt t_draft_pulls t_draft_bears t_draft_strong t_draft_boatWide t_draft_boatDeep t_named t_end t_at t_sort t_place t_value t_code H locs ls hm hW hl
  unfold f_X5_readLine_B75 at hm
  refine lv_aload_n hx hb dX5_readLine_75 rfl (lv_at hl 0 rfl) ?_
  obtain ⟨o8, ho8, hm⟩ := bd_s hm
  refine mx_callV (C := RX5) (T := TX5) (N := 15) (ci := 5) (n := 0) (As := []) (rest := []) (st1 := []) (w2 := [xO q_t 5 [.ref q_t_tape, .ref q_t_names, .ref q_t_nameLines, .ref q_t_nameNumbers, v_t_filled, .int t_fault, .int t_faultPlace, .ref q_t_draft, .int t_named, .int t_end, .int o8.1, .int o8.2.1, .int o8.2.2.1, .int o8.2.2.2.1, .long o8.2.2.2.2], xB G q_t_tape 900 t_tape, xJ G q_t_names 24 t_names, xI G q_t_nameLines 24 t_nameLines, xI G q_t_nameNumbers 24 t_nameNumbers, xO q_t_draft 6 [.int t_draft_flow, .int t_draft_tape, .int t_draft_reaches, .int t_draft_ropes, .int t_draft_hands, .int t_draft_boats, .int t_draft_muds, .int t_draft_loose, .ref q_t_draft_kind, .ref q_t_draft_wide, .ref q_t_draft_bank, .ref q_t_draft_mud, .ref q_t_draft_ropeAt, .ref q_t_draft_pulls, .ref q_t_draft_bears, .ref q_t_draft_strong, .ref q_t_draft_boatWide, .ref q_t_draft_boatDeep], xI G q_t_draft_kind 6 t_draft_kind, xI G q_t_draft_wide 6 t_draft_wide, xI G q_t_draft_bank 6 t_draft_bank, xI G q_t_draft_mud 6 t_draft_mud, xI G q_t_draft_ropeAt 7 t_draft_ropeAt, xI G q_t_draft_pulls 7 t_draft_pulls, xI G q_t_draft_bears 7 t_draft_bears, xI G q_t_draft_strong 6 t_draft_strong, xI G q_t_draft_boatWide 5 t_draft_boatWide, xI G q_t_draft_boatDeep 5 t_draft_boatDeep]) X hW hl.1 (c_X5_next l G q_t q_t_tape (.ref q_t_names) (.ref q_t_nameLines) (.ref q_t_nameNumbers) (v_t_filled) (.int t_fault) (.int t_faultPlace) (.ref q_t_draft) (.int t_named) t_tape t_end t_at t_sort t_place t_value t_code o8 ho8) 0 rfl rfl kw_196 kw_197 kw_198 kw_15 kw_199 (by decide +kernel) ⟨rfl, rfl⟩ ⟨by decide, by decide⟩ ⟨Nat.zero_le _, Nat.zero_le _⟩ [0, 1] (by decide) rfl rfl rfl rfl rfl rfl (Nat.le_of_ble_eq_true rfl) rfl dX5_readLine_76 (fun H locs hW => ?_)
  refine lv_iload_n hx hb dX5_readLine_79 rfl (lv_at hl 1 rfl) ?_
  by_cases c9 : x1 = 0
  · have hm := (if_pos c9).symm.trans hm
    refine lv_tableIn (off := 40) (tgt := 120) hx hb dX5_readLine_80 (by rw [c9]; decide) (by rw [c9]; decide) (by rw [c9]; rfl) (by decide) ?_
    refine lv_aload_n hx hb dX5_readLine_120 rfl (lv_at hl 0 rfl) ?_
    obtain ⟨o10, ho10, hm⟩ := bd_s hm
    refine mx_callV (C := RX5) (T := TX5) (N := 15) (ci := 5) (n := 0) (As := []) (rest := []) (st1 := [.int o10.1]) (w2 := [xO q_t 5 [.ref q_t_tape, .ref q_t_names, .ref q_t_nameLines, .ref q_t_nameNumbers, v_t_filled, .int o10.2.1, .int o10.2.2.1, .ref q_t_draft, .int t_named, .int t_end, .int o10.2.2.2.2.2.1, .int o10.2.2.2.2.2.2.1, .int o10.2.2.2.2.2.2.2.1, .int o10.2.2.2.2.2.2.2.2.1, .long o10.2.2.2.2.2.2.2.2.2], xB G q_t_tape 900 t_tape, xJ G q_t_names 24 t_names, xI G q_t_nameLines 24 t_nameLines, xI G q_t_nameNumbers 24 t_nameNumbers, xO q_t_draft 6 [.int o10.2.2.2.1, .int o10.2.2.2.2.1, .int t_draft_reaches, .int t_draft_ropes, .int t_draft_hands, .int t_draft_boats, .int t_draft_muds, .int t_draft_loose, .ref q_t_draft_kind, .ref q_t_draft_wide, .ref q_t_draft_bank, .ref q_t_draft_mud, .ref q_t_draft_ropeAt, .ref q_t_draft_pulls, .ref q_t_draft_bears, .ref q_t_draft_strong, .ref q_t_draft_boatWide, .ref q_t_draft_boatDeep], xI G q_t_draft_kind 6 t_draft_kind, xI G q_t_draft_wide 6 t_draft_wide, xI G q_t_draft_bank 6 t_draft_bank, xI G q_t_draft_mud 6 t_draft_mud, xI G q_t_draft_ropeAt 7 t_draft_ropeAt, xI G q_t_draft_pulls 7 t_draft_pulls, xI G q_t_draft_bears 7 t_draft_bears, xI G q_t_draft_strong 6 t_draft_strong, xI G q_t_draft_boatWide 5 t_draft_boatWide, xI G q_t_draft_boatDeep 5 t_draft_boatDeep]) X hW hl.1 (c_X5_readRiver l G q_t q_t_tape q_t_draft (.ref q_t_names) (.ref q_t_nameLines) (.ref q_t_nameNumbers) (v_t_filled) (.int t_named) (.int t_draft_reaches) (.int t_draft_ropes) (.int t_draft_hands) (.int t_draft_boats) (.int t_draft_muds) (.int t_draft_loose) (.ref q_t_draft_kind) (.ref q_t_draft_wide) (.ref q_t_draft_bank) (.ref q_t_draft_mud) (.ref q_t_draft_ropeAt) (.ref q_t_draft_pulls) (.ref q_t_draft_bears) (.ref q_t_draft_strong) (.ref q_t_draft_boatWide) (.ref q_t_draft_boatDeep) t_tape t_fault t_faultPlace t_draft_flow t_draft_tape t_end o8.1 o8.2.1 o8.2.2.1 o8.2.2.2.1 o8.2.2.2.2 o10 ho10) 0 rfl rfl kw_239 kw_240 kw_241 kw_15 kw_242 (by decide +kernel) ⟨rfl, rfl⟩ ⟨by decide, by decide⟩ ⟨Nat.zero_le _, Nat.zero_le _⟩ [0, 1, 5] (by decide) rfl rfl rfl rfl rfl rfl (Nat.le_of_ble_eq_true rfl) rfl dX5_readLine_121 (fun H locs hW => ?_)
    obtain ⟨hg11, hm⟩ := gd_s hm
    obtain rfl := Option.some.inj hm
    exact mx_zret X (nbl_s hg11) hW dX5_readLine_124
  have hm := (if_neg c9).symm.trans hm
  by_cases c12 : x1 = 1
  · have hm := (if_pos c12).symm.trans hm
    refine lv_tableIn (off := 45) (tgt := 125) hx hb dX5_readLine_80 (by rw [c12]; decide) (by rw [c12]; decide) (by rw [c12]; rfl) (by decide) ?_
    refine lv_aload_n hx hb dX5_readLine_125 rfl (lv_at hl 0 rfl) ?_
    obtain ⟨o13, ho13, hm⟩ := bd_s hm
    refine mx_callV (C := RX5) (T := TX5) (N := 15) (ci := 5) (n := 0) (As := []) (rest := []) (st1 := [.int o13.1]) (w2 := [xO q_t 5 [.ref q_t_tape, .ref q_t_names, .ref q_t_nameLines, .ref q_t_nameNumbers, v_t_filled, .int o13.2.2.2.2.1, .int o13.2.2.2.2.2.1, .ref q_t_draft, .int o13.2.2.2.2.2.2.2.2.2.2.1, .int t_end, .int o13.2.2.2.2.2.2.2.2.2.2.2.1, .int o13.2.2.2.2.2.2.2.2.2.2.2.2.1, .int o13.2.2.2.2.2.2.2.2.2.2.2.2.2.1, .int o13.2.2.2.2.2.2.2.2.2.2.2.2.2.2.1, .long o13.2.2.2.2.2.2.2.2.2.2.2.2.2.2.2], xB G q_t_tape 900 t_tape, xJ G q_t_names 24 o13.2.1, xI G q_t_nameLines 24 o13.2.2.1, xI G q_t_nameNumbers 24 o13.2.2.2.1, xO q_t_draft 6 [.int t_draft_flow, .int t_draft_tape, .int o13.2.2.2.2.2.2.1, .int t_draft_ropes, .int t_draft_hands, .int t_draft_boats, .int t_draft_muds, .int t_draft_loose, .ref q_t_draft_kind, .ref q_t_draft_wide, .ref q_t_draft_bank, .ref q_t_draft_mud, .ref q_t_draft_ropeAt, .ref q_t_draft_pulls, .ref q_t_draft_bears, .ref q_t_draft_strong, .ref q_t_draft_boatWide, .ref q_t_draft_boatDeep], xI G q_t_draft_kind 6 o13.2.2.2.2.2.2.2.1, xI G q_t_draft_wide 6 o13.2.2.2.2.2.2.2.2.1, xI G q_t_draft_bank 6 o13.2.2.2.2.2.2.2.2.2.1, xI G q_t_draft_mud 6 t_draft_mud, xI G q_t_draft_ropeAt 7 t_draft_ropeAt, xI G q_t_draft_pulls 7 t_draft_pulls, xI G q_t_draft_bears 7 t_draft_bears, xI G q_t_draft_strong 6 t_draft_strong, xI G q_t_draft_boatWide 5 t_draft_boatWide, xI G q_t_draft_boatDeep 5 t_draft_boatDeep]) X hW hl.1 (c_X5_readReach l G q_t q_t_tape q_t_names q_t_nameLines q_t_nameNumbers q_t_draft q_t_draft_kind q_t_draft_wide q_t_draft_bank (v_t_filled) (.int t_draft_flow) (.int t_draft_tape) (.int t_draft_ropes) (.int t_draft_hands) (.int t_draft_boats) (.int t_draft_muds) (.int t_draft_loose) (.ref q_t_draft_mud) (.ref q_t_draft_ropeAt) (.ref q_t_draft_pulls) (.ref q_t_draft_bears) (.ref q_t_draft_strong) (.ref q_t_draft_boatWide) (.ref q_t_draft_boatDeep) t_tape t_names t_nameLines t_nameNumbers t_fault t_faultPlace t_draft_reaches t_draft_kind t_draft_wide t_draft_bank t_named t_end o8.1 o8.2.1 o8.2.2.1 o8.2.2.2.1 o8.2.2.2.2 o13 ho13) 0 rfl rfl kw_254 kw_255 kw_256 kw_15 kw_257 (by decide +kernel) ⟨rfl, rfl⟩ ⟨by decide, by decide⟩ ⟨Nat.zero_le _, Nat.zero_le _⟩ [0, 1, 2, 3, 4, 5, 6, 7, 8] (by decide) rfl rfl rfl rfl rfl rfl (Nat.le_of_ble_eq_true rfl) rfl dX5_readLine_126 (fun H locs hW => ?_)
    obtain ⟨hg14, hm⟩ := gd_s hm
    obtain rfl := Option.some.inj hm
    exact mx_zret X (nbl_s hg14) hW dX5_readLine_129
  have hm := (if_neg c12).symm.trans hm
  by_cases c15 : x1 = 2
  · have hm := (if_pos c15).symm.trans hm
    refine lv_tableIn (off := 50) (tgt := 130) hx hb dX5_readLine_80 (by rw [c15]; decide) (by rw [c15]; decide) (by rw [c15]; rfl) (by decide) ?_
    refine lv_aload_n hx hb dX5_readLine_130 rfl (lv_at hl 0 rfl) ?_
    obtain ⟨o16, ho16, hm⟩ := bd_s hm
    refine mx_callV (C := RX5) (T := TX5) (N := 15) (ci := 5) (n := 0) (As := []) (rest := []) (st1 := [.int o16.1]) (w2 := [xO q_t 5 [.ref q_t_tape, .ref q_t_names, .ref q_t_nameLines, .ref q_t_nameNumbers, v_t_filled, .int o16.2.2.2.2.1, .int o16.2.2.2.2.2.1, .ref q_t_draft, .int o16.2.2.2.2.2.2.2.2.2.2.1, .int t_end, .int o16.2.2.2.2.2.2.2.2.2.2.2.1, .int o16.2.2.2.2.2.2.2.2.2.2.2.2.1, .int o16.2.2.2.2.2.2.2.2.2.2.2.2.2.1, .int o16.2.2.2.2.2.2.2.2.2.2.2.2.2.2.1, .long o16.2.2.2.2.2.2.2.2.2.2.2.2.2.2.2], xB G q_t_tape 900 t_tape, xJ G q_t_names 24 o16.2.1, xI G q_t_nameLines 24 o16.2.2.1, xI G q_t_nameNumbers 24 o16.2.2.2.1, xO q_t_draft 6 [.int t_draft_flow, .int t_draft_tape, .int t_draft_reaches, .int o16.2.2.2.2.2.2.1, .int t_draft_hands, .int t_draft_boats, .int t_draft_muds, .int t_draft_loose, .ref q_t_draft_kind, .ref q_t_draft_wide, .ref q_t_draft_bank, .ref q_t_draft_mud, .ref q_t_draft_ropeAt, .ref q_t_draft_pulls, .ref q_t_draft_bears, .ref q_t_draft_strong, .ref q_t_draft_boatWide, .ref q_t_draft_boatDeep], xI G q_t_draft_kind 6 t_draft_kind, xI G q_t_draft_wide 6 t_draft_wide, xI G q_t_draft_bank 6 t_draft_bank, xI G q_t_draft_mud 6 t_draft_mud, xI G q_t_draft_ropeAt 7 o16.2.2.2.2.2.2.2.1, xI G q_t_draft_pulls 7 o16.2.2.2.2.2.2.2.2.1, xI G q_t_draft_bears 7 o16.2.2.2.2.2.2.2.2.2.1, xI G q_t_draft_strong 6 t_draft_strong, xI G q_t_draft_boatWide 5 t_draft_boatWide, xI G q_t_draft_boatDeep 5 t_draft_boatDeep]) X hW hl.1 (c_X5_readRope l G q_t q_t_tape q_t_names q_t_nameLines q_t_nameNumbers q_t_draft q_t_draft_ropeAt q_t_draft_pulls q_t_draft_bears (v_t_filled) (.int t_draft_flow) (.int t_draft_tape) (.int t_draft_reaches) (.int t_draft_hands) (.int t_draft_boats) (.int t_draft_muds) (.int t_draft_loose) (.ref q_t_draft_kind) (.ref q_t_draft_wide) (.ref q_t_draft_bank) (.ref q_t_draft_mud) (.ref q_t_draft_strong) (.ref q_t_draft_boatWide) (.ref q_t_draft_boatDeep) t_tape t_names t_nameLines t_nameNumbers t_fault t_faultPlace t_draft_ropes t_draft_ropeAt t_draft_pulls t_draft_bears t_named t_end o8.1 o8.2.1 o8.2.2.1 o8.2.2.2.1 o8.2.2.2.2 o16 ho16) 0 rfl rfl kw_283 kw_284 kw_285 kw_15 kw_286 (by decide +kernel) ⟨rfl, rfl⟩ ⟨by decide, by decide⟩ ⟨Nat.zero_le _, Nat.zero_le _⟩ [0, 1, 2, 3, 4, 5, 10, 11, 12] (by decide) rfl rfl rfl rfl rfl rfl (Nat.le_of_ble_eq_true rfl) rfl dX5_readLine_131 (fun H locs hW => ?_)
    obtain ⟨hg17, hm⟩ := gd_s hm
    obtain rfl := Option.some.inj hm
    exact mx_zret X (nbl_s hg17) hW dX5_readLine_134
  have hm := (if_neg c15).symm.trans hm
  by_cases c18 : x1 = 3
  · have hm := (if_pos c18).symm.trans hm
    refine lv_tableIn (off := 55) (tgt := 135) hx hb dX5_readLine_80 (by rw [c18]; decide) (by rw [c18]; decide) (by rw [c18]; rfl) (by decide) ?_
    refine lv_aload_n hx hb dX5_readLine_135 rfl (lv_at hl 0 rfl) ?_
    obtain ⟨o19, ho19, hm⟩ := bd_s hm
    refine mx_callV (C := RX5) (T := TX5) (N := 15) (ci := 5) (n := 0) (As := []) (rest := []) (st1 := [.int o19.1]) (w2 := [xO q_t 5 [.ref q_t_tape, .ref q_t_names, .ref q_t_nameLines, .ref q_t_nameNumbers, v_t_filled, .int o19.2.1, .int o19.2.2.1, .ref q_t_draft, .int t_named, .int t_end, .int o19.2.2.2.2.1, .int o19.2.2.2.2.2.1, .int o19.2.2.2.2.2.2.1, .int o19.2.2.2.2.2.2.2.1, .long o19.2.2.2.2.2.2.2.2], xB G q_t_tape 900 t_tape, xJ G q_t_names 24 t_names, xI G q_t_nameLines 24 t_nameLines, xI G q_t_nameNumbers 24 t_nameNumbers, xO q_t_draft 6 [.int t_draft_flow, .int t_draft_tape, .int t_draft_reaches, .int t_draft_ropes, .int t_draft_hands, .int t_draft_boats, .int t_draft_muds, .int o19.2.2.2.1, .ref q_t_draft_kind, .ref q_t_draft_wide, .ref q_t_draft_bank, .ref q_t_draft_mud, .ref q_t_draft_ropeAt, .ref q_t_draft_pulls, .ref q_t_draft_bears, .ref q_t_draft_strong, .ref q_t_draft_boatWide, .ref q_t_draft_boatDeep], xI G q_t_draft_kind 6 t_draft_kind, xI G q_t_draft_wide 6 t_draft_wide, xI G q_t_draft_bank 6 t_draft_bank, xI G q_t_draft_mud 6 t_draft_mud, xI G q_t_draft_ropeAt 7 t_draft_ropeAt, xI G q_t_draft_pulls 7 t_draft_pulls, xI G q_t_draft_bears 7 t_draft_bears, xI G q_t_draft_strong 6 t_draft_strong, xI G q_t_draft_boatWide 5 t_draft_boatWide, xI G q_t_draft_boatDeep 5 t_draft_boatDeep]) X hW hl.1 (c_X5_readLoose l G q_t q_t_tape q_t_names q_t_nameLines q_t_nameNumbers q_t_draft (v_t_filled) (.int t_draft_flow) (.int t_draft_tape) (.int t_draft_reaches) (.int t_draft_ropes) (.int t_draft_hands) (.int t_draft_boats) (.int t_draft_muds) (.ref q_t_draft_kind) (.ref q_t_draft_wide) (.ref q_t_draft_bank) (.ref q_t_draft_mud) (.ref q_t_draft_ropeAt) (.ref q_t_draft_pulls) (.ref q_t_draft_bears) (.ref q_t_draft_strong) (.ref q_t_draft_boatWide) (.ref q_t_draft_boatDeep) t_tape t_names t_nameLines t_nameNumbers t_fault t_faultPlace t_draft_loose t_named t_end o8.1 o8.2.1 o8.2.2.1 o8.2.2.2.1 o8.2.2.2.2 o19 ho19) 0 rfl rfl kw_297 kw_298 kw_299 kw_15 kw_300 (by decide +kernel) ⟨rfl, rfl⟩ ⟨by decide, by decide⟩ ⟨Nat.zero_le _, Nat.zero_le _⟩ [0, 1, 2, 3, 4, 5] (by decide) rfl rfl rfl rfl rfl rfl (Nat.le_of_ble_eq_true rfl) rfl dX5_readLine_136 (fun H locs hW => ?_)
    obtain ⟨hg20, hm⟩ := gd_s hm
    obtain rfl := Option.some.inj hm
    exact mx_zret X (nbl_s hg20) hW dX5_readLine_139
  have hm := (if_neg c18).symm.trans hm
  by_cases c21 : x1 = 4
  · have hm := (if_pos c21).symm.trans hm
    refine lv_tableIn (off := 60) (tgt := 140) hx hb dX5_readLine_80 (by rw [c21]; decide) (by rw [c21]; decide) (by rw [c21]; rfl) (by decide) ?_
    refine lv_aload_n hx hb dX5_readLine_140 rfl (lv_at hl 0 rfl) ?_
    obtain ⟨o22, ho22, hm⟩ := bd_s hm
    refine mx_callV (C := RX5) (T := TX5) (N := 15) (ci := 5) (n := 0) (As := []) (rest := []) (st1 := [.int o22.1]) (w2 := [xO q_t 5 [.ref q_t_tape, .ref q_t_names, .ref q_t_nameLines, .ref q_t_nameNumbers, v_t_filled, .int o22.2.2.2.2.1, .int o22.2.2.2.2.2.1, .ref q_t_draft, .int o22.2.2.2.2.2.2.2.2.1, .int t_end, .int o22.2.2.2.2.2.2.2.2.2.1, .int o22.2.2.2.2.2.2.2.2.2.2.1, .int o22.2.2.2.2.2.2.2.2.2.2.2.1, .int o22.2.2.2.2.2.2.2.2.2.2.2.2.1, .long o22.2.2.2.2.2.2.2.2.2.2.2.2.2], xB G q_t_tape 900 t_tape, xJ G q_t_names 24 o22.2.1, xI G q_t_nameLines 24 o22.2.2.1, xI G q_t_nameNumbers 24 o22.2.2.2.1, xO q_t_draft 6 [.int t_draft_flow, .int t_draft_tape, .int t_draft_reaches, .int t_draft_ropes, .int o22.2.2.2.2.2.2.1, .int t_draft_boats, .int t_draft_muds, .int t_draft_loose, .ref q_t_draft_kind, .ref q_t_draft_wide, .ref q_t_draft_bank, .ref q_t_draft_mud, .ref q_t_draft_ropeAt, .ref q_t_draft_pulls, .ref q_t_draft_bears, .ref q_t_draft_strong, .ref q_t_draft_boatWide, .ref q_t_draft_boatDeep], xI G q_t_draft_kind 6 t_draft_kind, xI G q_t_draft_wide 6 t_draft_wide, xI G q_t_draft_bank 6 t_draft_bank, xI G q_t_draft_mud 6 t_draft_mud, xI G q_t_draft_ropeAt 7 t_draft_ropeAt, xI G q_t_draft_pulls 7 t_draft_pulls, xI G q_t_draft_bears 7 t_draft_bears, xI G q_t_draft_strong 6 o22.2.2.2.2.2.2.2.1, xI G q_t_draft_boatWide 5 t_draft_boatWide, xI G q_t_draft_boatDeep 5 t_draft_boatDeep]) X hW hl.1 (c_X5_readHand l G q_t q_t_tape q_t_names q_t_nameLines q_t_nameNumbers q_t_draft q_t_draft_strong (v_t_filled) (.int t_draft_flow) (.int t_draft_tape) (.int t_draft_reaches) (.int t_draft_ropes) (.int t_draft_boats) (.int t_draft_muds) (.int t_draft_loose) (.ref q_t_draft_kind) (.ref q_t_draft_wide) (.ref q_t_draft_bank) (.ref q_t_draft_mud) (.ref q_t_draft_ropeAt) (.ref q_t_draft_pulls) (.ref q_t_draft_bears) (.ref q_t_draft_boatWide) (.ref q_t_draft_boatDeep) t_tape t_names t_nameLines t_nameNumbers t_fault t_faultPlace t_draft_hands t_draft_strong t_named t_end o8.1 o8.2.1 o8.2.2.1 o8.2.2.2.1 o8.2.2.2.2 o22 ho22) 0 rfl rfl kw_304 kw_305 kw_306 kw_15 kw_307 (by decide +kernel) ⟨rfl, rfl⟩ ⟨by decide, by decide⟩ ⟨Nat.zero_le _, Nat.zero_le _⟩ [0, 1, 2, 3, 4, 5, 13] (by decide) rfl rfl rfl rfl rfl rfl (Nat.le_of_ble_eq_true rfl) rfl dX5_readLine_141 (fun H locs hW => ?_)
    obtain ⟨hg23, hm⟩ := gd_s hm
    obtain rfl := Option.some.inj hm
    exact mx_zret X (nbl_s hg23) hW dX5_readLine_144
  have hm := (if_neg c21).symm.trans hm
  by_cases c24 : x1 = 5
  · have hm := (if_pos c24).symm.trans hm
    refine lv_tableIn (off := 65) (tgt := 145) hx hb dX5_readLine_80 (by rw [c24]; decide) (by rw [c24]; decide) (by rw [c24]; rfl) (by decide) ?_
    refine lv_aload_n hx hb dX5_readLine_145 rfl (lv_at hl 0 rfl) ?_
    obtain ⟨o25, ho25, hm⟩ := bd_s hm
    refine mx_callV (C := RX5) (T := TX5) (N := 15) (ci := 5) (n := 0) (As := []) (rest := []) (st1 := [.int o25.1]) (w2 := [xO q_t 5 [.ref q_t_tape, .ref q_t_names, .ref q_t_nameLines, .ref q_t_nameNumbers, v_t_filled, .int o25.2.2.2.2.1, .int o25.2.2.2.2.2.1, .ref q_t_draft, .int o25.2.2.2.2.2.2.2.2.2.1, .int t_end, .int o25.2.2.2.2.2.2.2.2.2.2.1, .int o25.2.2.2.2.2.2.2.2.2.2.2.1, .int o25.2.2.2.2.2.2.2.2.2.2.2.2.1, .int o25.2.2.2.2.2.2.2.2.2.2.2.2.2.1, .long o25.2.2.2.2.2.2.2.2.2.2.2.2.2.2], xB G q_t_tape 900 t_tape, xJ G q_t_names 24 o25.2.1, xI G q_t_nameLines 24 o25.2.2.1, xI G q_t_nameNumbers 24 o25.2.2.2.1, xO q_t_draft 6 [.int t_draft_flow, .int t_draft_tape, .int t_draft_reaches, .int t_draft_ropes, .int t_draft_hands, .int o25.2.2.2.2.2.2.1, .int t_draft_muds, .int t_draft_loose, .ref q_t_draft_kind, .ref q_t_draft_wide, .ref q_t_draft_bank, .ref q_t_draft_mud, .ref q_t_draft_ropeAt, .ref q_t_draft_pulls, .ref q_t_draft_bears, .ref q_t_draft_strong, .ref q_t_draft_boatWide, .ref q_t_draft_boatDeep], xI G q_t_draft_kind 6 t_draft_kind, xI G q_t_draft_wide 6 t_draft_wide, xI G q_t_draft_bank 6 t_draft_bank, xI G q_t_draft_mud 6 t_draft_mud, xI G q_t_draft_ropeAt 7 t_draft_ropeAt, xI G q_t_draft_pulls 7 t_draft_pulls, xI G q_t_draft_bears 7 t_draft_bears, xI G q_t_draft_strong 6 t_draft_strong, xI G q_t_draft_boatWide 5 o25.2.2.2.2.2.2.2.1, xI G q_t_draft_boatDeep 5 o25.2.2.2.2.2.2.2.2.1]) X hW hl.1 (c_X5_readBoat l G q_t q_t_tape q_t_names q_t_nameLines q_t_nameNumbers q_t_draft q_t_draft_boatWide q_t_draft_boatDeep (v_t_filled) (.int t_draft_flow) (.int t_draft_tape) (.int t_draft_reaches) (.int t_draft_ropes) (.int t_draft_hands) (.int t_draft_muds) (.int t_draft_loose) (.ref q_t_draft_kind) (.ref q_t_draft_wide) (.ref q_t_draft_bank) (.ref q_t_draft_mud) (.ref q_t_draft_ropeAt) (.ref q_t_draft_pulls) (.ref q_t_draft_bears) (.ref q_t_draft_strong) t_tape t_names t_nameLines t_nameNumbers t_fault t_faultPlace t_draft_boats t_draft_boatWide t_draft_boatDeep t_named t_end o8.1 o8.2.1 o8.2.2.1 o8.2.2.2.1 o8.2.2.2.2 o25 ho25) 0 rfl rfl kw_310 kw_311 kw_312 kw_15 kw_313 (by decide +kernel) ⟨rfl, rfl⟩ ⟨by decide, by decide⟩ ⟨Nat.zero_le _, Nat.zero_le _⟩ [0, 1, 2, 3, 4, 5, 14, 15] (by decide) rfl rfl rfl rfl rfl rfl (Nat.le_of_ble_eq_true rfl) rfl dX5_readLine_146 (fun H locs hW => ?_)
    obtain ⟨hg26, hm⟩ := gd_s hm
    obtain rfl := Option.some.inj hm
    exact mx_zret X (nbl_s hg26) hW dX5_readLine_149
  have hm := (if_neg c24).symm.trans hm
  have tc9 := ne_i (k := 0) (n := 0) rfl c9
  have tc12 := ne_i (k := 1) (n := 1) rfl c12
  have tc15 := ne_i (k := 2) (n := 2) rfl c15
  have tc18 := ne_i (k := 3) (n := 3) rfl c18
  have tc21 := ne_i (k := 4) (n := 4) rfl c21
  have tc24 := ne_i (k := 5) (n := 5) rfl c24
  refine lv_tableOut (tgt := 150) hx hb dX5_readLine_80 (by omega) (by decide) ?_
  refine lv_aload_n hx hb dX5_readLine_150 rfl (lv_at hl 0 rfl) ?_
  obtain ⟨o27, ho27, hm⟩ := bd_s hm
  refine mx_callV (C := RX5) (T := TX5) (N := 15) (ci := 5) (n := 0) (As := []) (rest := []) (st1 := [.int o27.1]) (w2 := [xO q_t 5 [.ref q_t_tape, .ref q_t_names, .ref q_t_nameLines, .ref q_t_nameNumbers, v_t_filled, .int o27.2.1, .int o27.2.2.1, .ref q_t_draft, .int t_named, .int t_end, .int o27.2.2.2.2.2.1, .int o27.2.2.2.2.2.2.1, .int o27.2.2.2.2.2.2.2.1, .int o27.2.2.2.2.2.2.2.2.1, .long o27.2.2.2.2.2.2.2.2.2], xB G q_t_tape 900 t_tape, xJ G q_t_names 24 t_names, xI G q_t_nameLines 24 t_nameLines, xI G q_t_nameNumbers 24 t_nameNumbers, xO q_t_draft 6 [.int t_draft_flow, .int t_draft_tape, .int t_draft_reaches, .int t_draft_ropes, .int t_draft_hands, .int t_draft_boats, .int o27.2.2.2.1, .int t_draft_loose, .ref q_t_draft_kind, .ref q_t_draft_wide, .ref q_t_draft_bank, .ref q_t_draft_mud, .ref q_t_draft_ropeAt, .ref q_t_draft_pulls, .ref q_t_draft_bears, .ref q_t_draft_strong, .ref q_t_draft_boatWide, .ref q_t_draft_boatDeep], xI G q_t_draft_kind 6 t_draft_kind, xI G q_t_draft_wide 6 t_draft_wide, xI G q_t_draft_bank 6 t_draft_bank, xI G q_t_draft_mud 6 o27.2.2.2.2.1, xI G q_t_draft_ropeAt 7 t_draft_ropeAt, xI G q_t_draft_pulls 7 t_draft_pulls, xI G q_t_draft_bears 7 t_draft_bears, xI G q_t_draft_strong 6 t_draft_strong, xI G q_t_draft_boatWide 5 t_draft_boatWide, xI G q_t_draft_boatDeep 5 t_draft_boatDeep]) X hW hl.1 (c_X5_readMud l G q_t q_t_tape q_t_names q_t_nameLines q_t_nameNumbers q_t_draft q_t_draft_mud (v_t_filled) (.int t_draft_flow) (.int t_draft_tape) (.int t_draft_reaches) (.int t_draft_ropes) (.int t_draft_hands) (.int t_draft_boats) (.int t_draft_loose) (.ref q_t_draft_kind) (.ref q_t_draft_wide) (.ref q_t_draft_bank) (.ref q_t_draft_ropeAt) (.ref q_t_draft_pulls) (.ref q_t_draft_bears) (.ref q_t_draft_strong) (.ref q_t_draft_boatWide) (.ref q_t_draft_boatDeep) t_tape t_names t_nameLines t_nameNumbers t_fault t_faultPlace t_draft_muds t_draft_mud t_named t_end o8.1 o8.2.1 o8.2.2.1 o8.2.2.2.1 o8.2.2.2.2 o27 ho27) 0 rfl rfl kw_317 kw_318 kw_319 kw_15 kw_320 (by decide +kernel) ⟨rfl, rfl⟩ ⟨by decide, by decide⟩ ⟨Nat.zero_le _, Nat.zero_le _⟩ [0, 1, 2, 3, 4, 5, 9] (by decide) rfl rfl rfl rfl rfl rfl (Nat.le_of_ble_eq_true rfl) rfl dX5_readLine_151 (fun H locs hW => ?_)
  obtain ⟨hg28, hm⟩ := gd_s hm
  obtain rfl := Option.some.inj hm
  exact mx_zret X (nbl_s hg28) hW dX5_readLine_154
set_option maxHeartbeats 4000000 in
set_option maxRecDepth 100000 in
theorem w_X5_readLine_B46 {p : Program} {l : Launch} {e : Env} {s : State} {m : MethodId} {args : Array Value} {below : List Frame} {meth : Method} {c : Code} {A : Nat → Prop} {G : mx_G} (X : mx_X p s m args meth c RX5 "readLine" cX5_readLine 3 (some .boolean) G) (q_t : Nat) (q_t_tape : Nat) (q_t_names : Nat) (q_t_nameLines : Nat) (q_t_nameNumbers : Nat) (q_t_draft : Nat) (q_t_draft_kind : Nat) (q_t_draft_wide : Nat) (q_t_draft_bank : Nat) (q_t_draft_mud : Nat) (q_t_draft_ropeAt : Nat) (q_t_draft_pulls : Nat) (q_t_draft_bears : Nat) (q_t_draft_strong : Nat) (q_t_draft_boatWide : Nat) (q_t_draft_boatDeep : Nat) (v_t_filled : Value) (out : Int32 × (Nat → Int64) × (Nat → Int32) × (Nat → Int32) × Int32 × Int32 × Int32 × Int32 × Int32 × Int32 × Int32 × Int32 × Int32 × Int32 × (Nat → Int32) × (Nat → Int32) × (Nat → Int32) × (Nat → Int32) × (Nat → Int32) × (Nat → Int32) × (Nat → Int32) × (Nat → Int32) × (Nat → Int32) × (Nat → Int32) × Int32 × Int32 × Int32 × Int32 × Int32 × Int64)   : ∀ (x1 : Int32) (x2 : Int32) (t_tape : Nat → Int32) (t_names : Nat → Int64) (t_nameLines : Nat → Int32) (t_nameNumbers : Nat → Int32) (t_fault : Int32) (t_faultPlace : Int32) (t_draft_flow : Int32) (t_draft_tape : Int32) (t_draft_reaches : Int32) (t_draft_ropes : Int32) (t_draft_hands : Int32) (t_draft_boats : Int32) (t_draft_muds : Int32) (t_draft_loose : Int32) (t_draft_kind : Nat → Int32) (t_draft_wide : Nat → Int32) (t_draft_bank : Nat → Int32) (t_draft_mud : Nat → Int32) (t_draft_ropeAt : Nat → Int32) (t_draft_pulls : Nat → Int32) (t_draft_bears : Nat → Int32) (t_draft_strong : Nat → Int32) (t_draft_boatWide : Nat → Int32) (t_draft_boatDeep : Nat → Int32) (t_named : Int32) (t_end : Int32) (t_at : Int32) (t_sort : Int32) (t_place : Int32) (t_value : Int32) (t_code : Int64) (H : Heap) (locs : List Loc) (ls : Array Slot), f_X5_readLine_B46  x1 x2 t_tape t_names t_nameLines t_nameNumbers t_fault t_faultPlace t_draft_flow t_draft_tape t_draft_reaches t_draft_ropes t_draft_hands t_draft_boats t_draft_muds t_draft_loose t_draft_kind t_draft_wide t_draft_bank t_draft_mud t_draft_ropeAt t_draft_pulls t_draft_bears t_draft_strong t_draft_boatWide t_draft_boatDeep t_named t_end t_at t_sort t_place t_value t_code = some out → mx_W G s A [xO q_t 5 [.ref q_t_tape, .ref q_t_names, .ref q_t_nameLines, .ref q_t_nameNumbers, v_t_filled, .int t_fault, .int t_faultPlace, .ref q_t_draft, .int t_named, .int t_end, .int t_at, .int t_sort, .int t_place, .int t_value, .long t_code], xB G q_t_tape 900 t_tape, xJ G q_t_names 24 t_names, xI G q_t_nameLines 24 t_nameLines, xI G q_t_nameNumbers 24 t_nameNumbers, xO q_t_draft 6 [.int t_draft_flow, .int t_draft_tape, .int t_draft_reaches, .int t_draft_ropes, .int t_draft_hands, .int t_draft_boats, .int t_draft_muds, .int t_draft_loose, .ref q_t_draft_kind, .ref q_t_draft_wide, .ref q_t_draft_bank, .ref q_t_draft_mud, .ref q_t_draft_ropeAt, .ref q_t_draft_pulls, .ref q_t_draft_bears, .ref q_t_draft_strong, .ref q_t_draft_boatWide, .ref q_t_draft_boatDeep], xI G q_t_draft_kind 6 t_draft_kind, xI G q_t_draft_wide 6 t_draft_wide, xI G q_t_draft_bank 6 t_draft_bank, xI G q_t_draft_mud 6 t_draft_mud, xI G q_t_draft_ropeAt 7 t_draft_ropeAt, xI G q_t_draft_pulls 7 t_draft_pulls, xI G q_t_draft_bears 7 t_draft_bears, xI G q_t_draft_strong 6 t_draft_strong, xI G q_t_draft_boatWide 5 t_draft_boatWide, xI G q_t_draft_boatDeep 5 t_draft_boatDeep] H locs → lv_has ls 3 [(0, .ref q_t), (1, .int x1), (2, .int x2)] → W p l e rm_X5_readLine s m args below meth c H locs 0 0 (MQ below (mx_Q G (some (.int out.1)) [xO q_t 5 [.ref q_t_tape, .ref q_t_names, .ref q_t_nameLines, .ref q_t_nameNumbers, v_t_filled, .int out.2.2.2.2.1, .int out.2.2.2.2.2.1, .ref q_t_draft, .int out.2.2.2.2.2.2.2.2.2.2.2.2.2.2.2.2.2.2.2.2.2.2.2.2.1, .int t_end, .int out.2.2.2.2.2.2.2.2.2.2.2.2.2.2.2.2.2.2.2.2.2.2.2.2.2.1, .int out.2.2.2.2.2.2.2.2.2.2.2.2.2.2.2.2.2.2.2.2.2.2.2.2.2.2.1, .int out.2.2.2.2.2.2.2.2.2.2.2.2.2.2.2.2.2.2.2.2.2.2.2.2.2.2.2.1, .int out.2.2.2.2.2.2.2.2.2.2.2.2.2.2.2.2.2.2.2.2.2.2.2.2.2.2.2.2.1, .long out.2.2.2.2.2.2.2.2.2.2.2.2.2.2.2.2.2.2.2.2.2.2.2.2.2.2.2.2.2], xB G q_t_tape 900 t_tape, xJ G q_t_names 24 out.2.1, xI G q_t_nameLines 24 out.2.2.1, xI G q_t_nameNumbers 24 out.2.2.2.1, xO q_t_draft 6 [.int out.2.2.2.2.2.2.1, .int out.2.2.2.2.2.2.2.1, .int out.2.2.2.2.2.2.2.2.1, .int out.2.2.2.2.2.2.2.2.2.1, .int out.2.2.2.2.2.2.2.2.2.2.1, .int out.2.2.2.2.2.2.2.2.2.2.2.1, .int out.2.2.2.2.2.2.2.2.2.2.2.2.1, .int out.2.2.2.2.2.2.2.2.2.2.2.2.2.1, .ref q_t_draft_kind, .ref q_t_draft_wide, .ref q_t_draft_bank, .ref q_t_draft_mud, .ref q_t_draft_ropeAt, .ref q_t_draft_pulls, .ref q_t_draft_bears, .ref q_t_draft_strong, .ref q_t_draft_boatWide, .ref q_t_draft_boatDeep], xI G q_t_draft_kind 6 out.2.2.2.2.2.2.2.2.2.2.2.2.2.2.1, xI G q_t_draft_wide 6 out.2.2.2.2.2.2.2.2.2.2.2.2.2.2.2.1, xI G q_t_draft_bank 6 out.2.2.2.2.2.2.2.2.2.2.2.2.2.2.2.2.1, xI G q_t_draft_mud 6 out.2.2.2.2.2.2.2.2.2.2.2.2.2.2.2.2.2.1, xI G q_t_draft_ropeAt 7 out.2.2.2.2.2.2.2.2.2.2.2.2.2.2.2.2.2.2.1, xI G q_t_draft_pulls 7 out.2.2.2.2.2.2.2.2.2.2.2.2.2.2.2.2.2.2.2.1, xI G q_t_draft_bears 7 out.2.2.2.2.2.2.2.2.2.2.2.2.2.2.2.2.2.2.2.2.1, xI G q_t_draft_strong 6 out.2.2.2.2.2.2.2.2.2.2.2.2.2.2.2.2.2.2.2.2.2.1, xI G q_t_draft_boatWide 5 out.2.2.2.2.2.2.2.2.2.2.2.2.2.2.2.2.2.2.2.2.2.2.1, xI G q_t_draft_boatDeep 5 out.2.2.2.2.2.2.2.2.2.2.2.2.2.2.2.2.2.2.2.2.2.2.2.1] A) args s 0 0 A) (F0 m 46 ls []) := by
  obtain ⟨hx, hb, hml, hown, hts, hKN, -⟩ := id X
  intro x1 x2 t_tape t_names t_nameLines t_nameNumbers t_fault t_faultPlace t_draft_flow t_draft_tape t_draft_reaches t_draft_ropes t_draft_hands t_draft_boats t_draft_muds t_draft_loose t_draft_kind t_draft_wide t_draft_bank t_draft_mud t_draft_ropeAt t_draft_pulls t_draft_bears t_draft_strong t_draft_boatWide t_draft_boatDeep t_named t_end t_at t_sort t_place t_value t_code H locs ls hm hW hl
  unfold f_X5_readLine_B46 at hm
  refine lv_aload_n hx hb dX5_readLine_46 rfl (lv_at hl 0 rfl) ?_
  refine lv_iload_n hx hb dX5_readLine_47 rfl (lv_at hl 1 rfl) ?_
  obtain ⟨o5, ho5, hm⟩ := bd_s hm
  refine mx_callV (C := RX5) (T := TX5) (N := 15) (ci := 5) (n := 1) (As := [.int x1]) (rest := []) (st1 := [.int o5]) (w2 := [xO q_t 5 [.ref q_t_tape, .ref q_t_names, .ref q_t_nameLines, .ref q_t_nameNumbers, v_t_filled, .int t_fault, .int t_faultPlace, .ref q_t_draft, .int t_named, .int t_end, .int t_at, .int t_sort, .int t_place, .int t_value, .long t_code], xB G q_t_tape 900 t_tape, xJ G q_t_names 24 t_names, xI G q_t_nameLines 24 t_nameLines, xI G q_t_nameNumbers 24 t_nameNumbers, xO q_t_draft 6 [.int t_draft_flow, .int t_draft_tape, .int t_draft_reaches, .int t_draft_ropes, .int t_draft_hands, .int t_draft_boats, .int t_draft_muds, .int t_draft_loose, .ref q_t_draft_kind, .ref q_t_draft_wide, .ref q_t_draft_bank, .ref q_t_draft_mud, .ref q_t_draft_ropeAt, .ref q_t_draft_pulls, .ref q_t_draft_bears, .ref q_t_draft_strong, .ref q_t_draft_boatWide, .ref q_t_draft_boatDeep], xI G q_t_draft_kind 6 t_draft_kind, xI G q_t_draft_wide 6 t_draft_wide, xI G q_t_draft_bank 6 t_draft_bank, xI G q_t_draft_mud 6 t_draft_mud, xI G q_t_draft_ropeAt 7 t_draft_ropeAt, xI G q_t_draft_pulls 7 t_draft_pulls, xI G q_t_draft_bears 7 t_draft_bears, xI G q_t_draft_strong 6 t_draft_strong, xI G q_t_draft_boatWide 5 t_draft_boatWide, xI G q_t_draft_boatDeep 5 t_draft_boatDeep]) X hW hl.1 (c_X5_isFull l G q_t q_t_draft (.ref q_t_tape) (.ref q_t_names) (.ref q_t_nameLines) (.ref q_t_nameNumbers) (v_t_filled) (.int t_fault) (.int t_faultPlace) (.int t_named) (.int t_end) (.int t_at) (.int t_sort) (.int t_place) (.int t_value) (.long t_code) (.int t_draft_flow) (.int t_draft_tape) (.int t_draft_muds) (.int t_draft_loose) (.ref q_t_draft_kind) (.ref q_t_draft_wide) (.ref q_t_draft_bank) (.ref q_t_draft_mud) (.ref q_t_draft_ropeAt) (.ref q_t_draft_pulls) (.ref q_t_draft_bears) (.ref q_t_draft_strong) (.ref q_t_draft_boatWide) (.ref q_t_draft_boatDeep) t_draft_reaches t_draft_ropes t_draft_hands t_draft_boats x1 o5 ho5) 0 rfl rfl kw_232 kw_233 kw_234 kw_15 kw_235 (by decide +kernel) ⟨rfl, rfl⟩ ⟨by decide, by decide⟩ ⟨Nat.zero_le _, Nat.zero_le _⟩ [0, 5] (by decide) rfl rfl rfl rfl rfl rfl (Nat.le_of_ble_eq_true rfl) rfl dX5_readLine_48 (fun H locs hW => ?_)
  refine lv_if_eq (tgt := 60) hx hb dX5_readLine_51 (by decide) (fun c6 => ?_) (fun c6 => ?_)
  · have hm := (if_pos c6).symm.trans hm
    refine lv_iload_n hx hb dX5_readLine_60 rfl (lv_at hl 1 rfl) ?_
    refine lv_if_eq (tgt := 75) hx hb dX5_readLine_61 (by decide) (fun c7 => ?_) (fun c7 => ?_)
    · have hm := (if_pos c7).symm.trans hm
      exact w_X5_readLine_B75 X q_t q_t_tape q_t_names q_t_nameLines q_t_nameNumbers q_t_draft q_t_draft_kind q_t_draft_wide q_t_draft_bank q_t_draft_mud q_t_draft_ropeAt q_t_draft_pulls q_t_draft_bears q_t_draft_strong q_t_draft_boatWide q_t_draft_boatDeep (v_t_filled) out   x1 t_tape t_names t_nameLines t_nameNumbers t_fault t_faultPlace t_draft_flow t_draft_tape t_draft_reaches t_draft_ropes t_draft_hands t_draft_boats t_draft_muds t_draft_loose t_draft_kind t_draft_wide t_draft_bank t_draft_mud t_draft_ropeAt t_draft_pulls t_draft_bears t_draft_strong t_draft_boatWide t_draft_boatDeep t_named t_end t_at t_sort t_place t_value t_code _ _ _ hm hW (lv_sub hl [0, 1] rfl)
    · have hm := (if_neg c7).symm.trans hm
      refine lv_iload_n hx hb dX5_readLine_64 rfl (lv_at hl 2 rfl) ?_
      refine lv_if_ne (tgt := 75) hx hb dX5_readLine_65 (by decide) (fun c29 => ?_) (fun c29 => ?_)
      · have hm := (if_neg c29).symm.trans hm
        exact w_X5_readLine_B75 X q_t q_t_tape q_t_names q_t_nameLines q_t_nameNumbers q_t_draft q_t_draft_kind q_t_draft_wide q_t_draft_bank q_t_draft_mud q_t_draft_ropeAt q_t_draft_pulls q_t_draft_bears q_t_draft_strong q_t_draft_boatWide q_t_draft_boatDeep (v_t_filled) out   x1 t_tape t_names t_nameLines t_nameNumbers t_fault t_faultPlace t_draft_flow t_draft_tape t_draft_reaches t_draft_ropes t_draft_hands t_draft_boats t_draft_muds t_draft_loose t_draft_kind t_draft_wide t_draft_bank t_draft_mud t_draft_ropeAt t_draft_pulls t_draft_bears t_draft_strong t_draft_boatWide t_draft_boatDeep t_named t_end t_at t_sort t_place t_value t_code _ _ _ hm hW (lv_sub hl [0, 1] rfl)
      · have hm := (if_pos c29).symm.trans hm
        refine lv_aload_n hx hb dX5_readLine_68 rfl (lv_at hl 0 rfl) ?_
        refine lv_bipush (v := 6) hx hb dX5_readLine_69 (by decide) ?_
        obtain ⟨o30, ho30, hm⟩ := bd_s hm
        refine mx_callV (C := RX5) (T := TX5) (N := 15) (ci := 5) (n := 1) (As := [.int 6]) (rest := []) (st1 := [.int o30.1]) (w2 := [xO q_t 5 [.ref q_t_tape, .ref q_t_names, .ref q_t_nameLines, .ref q_t_nameNumbers, v_t_filled, .int o30.2.1, .int o30.2.2, .ref q_t_draft, .int t_named, .int t_end, .int t_at, .int t_sort, .int t_place, .int t_value, .long t_code], xB G q_t_tape 900 t_tape, xJ G q_t_names 24 t_names, xI G q_t_nameLines 24 t_nameLines, xI G q_t_nameNumbers 24 t_nameNumbers, xO q_t_draft 6 [.int t_draft_flow, .int t_draft_tape, .int t_draft_reaches, .int t_draft_ropes, .int t_draft_hands, .int t_draft_boats, .int t_draft_muds, .int t_draft_loose, .ref q_t_draft_kind, .ref q_t_draft_wide, .ref q_t_draft_bank, .ref q_t_draft_mud, .ref q_t_draft_ropeAt, .ref q_t_draft_pulls, .ref q_t_draft_bears, .ref q_t_draft_strong, .ref q_t_draft_boatWide, .ref q_t_draft_boatDeep], xI G q_t_draft_kind 6 t_draft_kind, xI G q_t_draft_wide 6 t_draft_wide, xI G q_t_draft_bank 6 t_draft_bank, xI G q_t_draft_mud 6 t_draft_mud, xI G q_t_draft_ropeAt 7 t_draft_ropeAt, xI G q_t_draft_pulls 7 t_draft_pulls, xI G q_t_draft_bears 7 t_draft_bears, xI G q_t_draft_strong 6 t_draft_strong, xI G q_t_draft_boatWide 5 t_draft_boatWide, xI G q_t_draft_boatDeep 5 t_draft_boatDeep]) X hW hl.1 (c_X5_fail l G q_t (.ref q_t_tape) (.ref q_t_names) (.ref q_t_nameLines) (.ref q_t_nameNumbers) (v_t_filled) (.ref q_t_draft) (.int t_named) (.int t_end) (.int t_at) (.int t_sort) (.int t_value) (.long t_code) t_fault t_faultPlace t_place 6 o30 ho30) 0 rfl rfl kw_227 kw_228 kw_229 kw_15 kw_230 (by decide +kernel) ⟨rfl, rfl⟩ ⟨by decide, by decide⟩ ⟨Nat.zero_le _, Nat.zero_le _⟩ [0] (by decide) rfl rfl rfl rfl rfl rfl (Nat.le_of_ble_eq_true rfl) rfl dX5_readLine_71 (fun H locs hW => ?_)
        obtain ⟨hg31, hm⟩ := gd_s hm
        obtain rfl := Option.some.inj hm
        exact mx_zret X (nbl_s hg31) hW dX5_readLine_74
  · have hm := (if_neg c6).symm.trans hm
    refine lv_aload_n hx hb dX5_readLine_54 rfl (lv_at hl 0 rfl) ?_
    refine lv_iconst (v := 5) hx hb dX5_readLine_55 (by decide) ?_
    obtain ⟨o32, ho32, hm⟩ := bd_s hm
    refine mx_callV (C := RX5) (T := TX5) (N := 15) (ci := 5) (n := 1) (As := [.int 5]) (rest := []) (st1 := [.int o32.1]) (w2 := [xO q_t 5 [.ref q_t_tape, .ref q_t_names, .ref q_t_nameLines, .ref q_t_nameNumbers, v_t_filled, .int o32.2.1, .int o32.2.2, .ref q_t_draft, .int t_named, .int t_end, .int t_at, .int t_sort, .int t_place, .int t_value, .long t_code], xB G q_t_tape 900 t_tape, xJ G q_t_names 24 t_names, xI G q_t_nameLines 24 t_nameLines, xI G q_t_nameNumbers 24 t_nameNumbers, xO q_t_draft 6 [.int t_draft_flow, .int t_draft_tape, .int t_draft_reaches, .int t_draft_ropes, .int t_draft_hands, .int t_draft_boats, .int t_draft_muds, .int t_draft_loose, .ref q_t_draft_kind, .ref q_t_draft_wide, .ref q_t_draft_bank, .ref q_t_draft_mud, .ref q_t_draft_ropeAt, .ref q_t_draft_pulls, .ref q_t_draft_bears, .ref q_t_draft_strong, .ref q_t_draft_boatWide, .ref q_t_draft_boatDeep], xI G q_t_draft_kind 6 t_draft_kind, xI G q_t_draft_wide 6 t_draft_wide, xI G q_t_draft_bank 6 t_draft_bank, xI G q_t_draft_mud 6 t_draft_mud, xI G q_t_draft_ropeAt 7 t_draft_ropeAt, xI G q_t_draft_pulls 7 t_draft_pulls, xI G q_t_draft_bears 7 t_draft_bears, xI G q_t_draft_strong 6 t_draft_strong, xI G q_t_draft_boatWide 5 t_draft_boatWide, xI G q_t_draft_boatDeep 5 t_draft_boatDeep]) X hW hl.1 (c_X5_fail l G q_t (.ref q_t_tape) (.ref q_t_names) (.ref q_t_nameLines) (.ref q_t_nameNumbers) (v_t_filled) (.ref q_t_draft) (.int t_named) (.int t_end) (.int t_at) (.int t_sort) (.int t_value) (.long t_code) t_fault t_faultPlace t_place 5 o32 ho32) 0 rfl rfl kw_227 kw_228 kw_229 kw_15 kw_230 (by decide +kernel) ⟨rfl, rfl⟩ ⟨by decide, by decide⟩ ⟨Nat.zero_le _, Nat.zero_le _⟩ [0] (by decide) rfl rfl rfl rfl rfl rfl (Nat.le_of_ble_eq_true rfl) rfl dX5_readLine_56 (fun H locs hW => ?_)
    obtain ⟨hg33, hm⟩ := gd_s hm
    obtain rfl := Option.some.inj hm
    exact mx_zret X (nbl_s hg33) hW dX5_readLine_59
set_option maxHeartbeats 4000000 in
set_option maxRecDepth 100000 in
theorem w_X5_readLine_B31 {p : Program} {l : Launch} {e : Env} {s : State} {m : MethodId} {args : Array Value} {below : List Frame} {meth : Method} {c : Code} {A : Nat → Prop} {G : mx_G} (X : mx_X p s m args meth c RX5 "readLine" cX5_readLine 3 (some .boolean) G) (q_t : Nat) (q_t_tape : Nat) (q_t_names : Nat) (q_t_nameLines : Nat) (q_t_nameNumbers : Nat) (q_t_draft : Nat) (q_t_draft_kind : Nat) (q_t_draft_wide : Nat) (q_t_draft_bank : Nat) (q_t_draft_mud : Nat) (q_t_draft_ropeAt : Nat) (q_t_draft_pulls : Nat) (q_t_draft_bears : Nat) (q_t_draft_strong : Nat) (q_t_draft_boatWide : Nat) (q_t_draft_boatDeep : Nat) (v_t_filled : Value) (out : Int32 × (Nat → Int64) × (Nat → Int32) × (Nat → Int32) × Int32 × Int32 × Int32 × Int32 × Int32 × Int32 × Int32 × Int32 × Int32 × Int32 × (Nat → Int32) × (Nat → Int32) × (Nat → Int32) × (Nat → Int32) × (Nat → Int32) × (Nat → Int32) × (Nat → Int32) × (Nat → Int32) × (Nat → Int32) × (Nat → Int32) × Int32 × Int32 × Int32 × Int32 × Int32 × Int64)   : ∀ (x1 : Int32) (y0 : Int32) (t_tape : Nat → Int32) (t_names : Nat → Int64) (t_nameLines : Nat → Int32) (t_nameNumbers : Nat → Int32) (t_fault : Int32) (t_faultPlace : Int32) (t_draft_flow : Int32) (t_draft_tape : Int32) (t_draft_reaches : Int32) (t_draft_ropes : Int32) (t_draft_hands : Int32) (t_draft_boats : Int32) (t_draft_muds : Int32) (t_draft_loose : Int32) (t_draft_kind : Nat → Int32) (t_draft_wide : Nat → Int32) (t_draft_bank : Nat → Int32) (t_draft_mud : Nat → Int32) (t_draft_ropeAt : Nat → Int32) (t_draft_pulls : Nat → Int32) (t_draft_bears : Nat → Int32) (t_draft_strong : Nat → Int32) (t_draft_boatWide : Nat → Int32) (t_draft_boatDeep : Nat → Int32) (t_named : Int32) (t_end : Int32) (t_at : Int32) (t_sort : Int32) (t_place : Int32) (t_value : Int32) (t_code : Int64) (H : Heap) (locs : List Loc) (ls : Array Slot), f_X5_readLine_B31  x1 y0 t_tape t_names t_nameLines t_nameNumbers t_fault t_faultPlace t_draft_flow t_draft_tape t_draft_reaches t_draft_ropes t_draft_hands t_draft_boats t_draft_muds t_draft_loose t_draft_kind t_draft_wide t_draft_bank t_draft_mud t_draft_ropeAt t_draft_pulls t_draft_bears t_draft_strong t_draft_boatWide t_draft_boatDeep t_named t_end t_at t_sort t_place t_value t_code = some out → mx_W G s A [xO q_t 5 [.ref q_t_tape, .ref q_t_names, .ref q_t_nameLines, .ref q_t_nameNumbers, v_t_filled, .int t_fault, .int t_faultPlace, .ref q_t_draft, .int t_named, .int t_end, .int t_at, .int t_sort, .int t_place, .int t_value, .long t_code], xB G q_t_tape 900 t_tape, xJ G q_t_names 24 t_names, xI G q_t_nameLines 24 t_nameLines, xI G q_t_nameNumbers 24 t_nameNumbers, xO q_t_draft 6 [.int t_draft_flow, .int t_draft_tape, .int t_draft_reaches, .int t_draft_ropes, .int t_draft_hands, .int t_draft_boats, .int t_draft_muds, .int t_draft_loose, .ref q_t_draft_kind, .ref q_t_draft_wide, .ref q_t_draft_bank, .ref q_t_draft_mud, .ref q_t_draft_ropeAt, .ref q_t_draft_pulls, .ref q_t_draft_bears, .ref q_t_draft_strong, .ref q_t_draft_boatWide, .ref q_t_draft_boatDeep], xI G q_t_draft_kind 6 t_draft_kind, xI G q_t_draft_wide 6 t_draft_wide, xI G q_t_draft_bank 6 t_draft_bank, xI G q_t_draft_mud 6 t_draft_mud, xI G q_t_draft_ropeAt 7 t_draft_ropeAt, xI G q_t_draft_pulls 7 t_draft_pulls, xI G q_t_draft_bears 7 t_draft_bears, xI G q_t_draft_strong 6 t_draft_strong, xI G q_t_draft_boatWide 5 t_draft_boatWide, xI G q_t_draft_boatDeep 5 t_draft_boatDeep] H locs → lv_has ls 3 [(0, .ref q_t), (1, .int x1)] → W p l e rm_X5_readLine s m args below meth c H locs 0 0 (MQ below (mx_Q G (some (.int out.1)) [xO q_t 5 [.ref q_t_tape, .ref q_t_names, .ref q_t_nameLines, .ref q_t_nameNumbers, v_t_filled, .int out.2.2.2.2.1, .int out.2.2.2.2.2.1, .ref q_t_draft, .int out.2.2.2.2.2.2.2.2.2.2.2.2.2.2.2.2.2.2.2.2.2.2.2.2.1, .int t_end, .int out.2.2.2.2.2.2.2.2.2.2.2.2.2.2.2.2.2.2.2.2.2.2.2.2.2.1, .int out.2.2.2.2.2.2.2.2.2.2.2.2.2.2.2.2.2.2.2.2.2.2.2.2.2.2.1, .int out.2.2.2.2.2.2.2.2.2.2.2.2.2.2.2.2.2.2.2.2.2.2.2.2.2.2.2.1, .int out.2.2.2.2.2.2.2.2.2.2.2.2.2.2.2.2.2.2.2.2.2.2.2.2.2.2.2.2.1, .long out.2.2.2.2.2.2.2.2.2.2.2.2.2.2.2.2.2.2.2.2.2.2.2.2.2.2.2.2.2], xB G q_t_tape 900 t_tape, xJ G q_t_names 24 out.2.1, xI G q_t_nameLines 24 out.2.2.1, xI G q_t_nameNumbers 24 out.2.2.2.1, xO q_t_draft 6 [.int out.2.2.2.2.2.2.1, .int out.2.2.2.2.2.2.2.1, .int out.2.2.2.2.2.2.2.2.1, .int out.2.2.2.2.2.2.2.2.2.1, .int out.2.2.2.2.2.2.2.2.2.2.1, .int out.2.2.2.2.2.2.2.2.2.2.2.1, .int out.2.2.2.2.2.2.2.2.2.2.2.2.1, .int out.2.2.2.2.2.2.2.2.2.2.2.2.2.1, .ref q_t_draft_kind, .ref q_t_draft_wide, .ref q_t_draft_bank, .ref q_t_draft_mud, .ref q_t_draft_ropeAt, .ref q_t_draft_pulls, .ref q_t_draft_bears, .ref q_t_draft_strong, .ref q_t_draft_boatWide, .ref q_t_draft_boatDeep], xI G q_t_draft_kind 6 out.2.2.2.2.2.2.2.2.2.2.2.2.2.2.1, xI G q_t_draft_wide 6 out.2.2.2.2.2.2.2.2.2.2.2.2.2.2.2.1, xI G q_t_draft_bank 6 out.2.2.2.2.2.2.2.2.2.2.2.2.2.2.2.2.1, xI G q_t_draft_mud 6 out.2.2.2.2.2.2.2.2.2.2.2.2.2.2.2.2.2.1, xI G q_t_draft_ropeAt 7 out.2.2.2.2.2.2.2.2.2.2.2.2.2.2.2.2.2.2.1, xI G q_t_draft_pulls 7 out.2.2.2.2.2.2.2.2.2.2.2.2.2.2.2.2.2.2.2.1, xI G q_t_draft_bears 7 out.2.2.2.2.2.2.2.2.2.2.2.2.2.2.2.2.2.2.2.2.1, xI G q_t_draft_strong 6 out.2.2.2.2.2.2.2.2.2.2.2.2.2.2.2.2.2.2.2.2.2.1, xI G q_t_draft_boatWide 5 out.2.2.2.2.2.2.2.2.2.2.2.2.2.2.2.2.2.2.2.2.2.2.1, xI G q_t_draft_boatDeep 5 out.2.2.2.2.2.2.2.2.2.2.2.2.2.2.2.2.2.2.2.2.2.2.2.1] A) args s 0 0 A) (F0 m 31 ls [.int y0]) := by
  obtain ⟨hx, hb, hml, hown, hts, hKN, -⟩ := id X
  intro x1 y0 t_tape t_names t_nameLines t_nameNumbers t_fault t_faultPlace t_draft_flow t_draft_tape t_draft_reaches t_draft_ropes t_draft_hands t_draft_boats t_draft_muds t_draft_loose t_draft_kind t_draft_wide t_draft_bank t_draft_mud t_draft_ropeAt t_draft_pulls t_draft_bears t_draft_strong t_draft_boatWide t_draft_boatDeep t_named t_end t_at t_sort t_place t_value t_code H locs ls hm hW hl
  unfold f_X5_readLine_B31 at hm
  refine lv_istore_n (lv' := [(2, .int y0), (0, .ref q_t), (1, .int x1)]) hx hb dX5_readLine_31 rfl hl (by decide) rfl (fun ls hl => ?_)
  refine lv_iload_n hx hb dX5_readLine_32 rfl (lv_at hl 2 rfl) ?_
  refine lv_if_ne (tgt := 46) hx hb dX5_readLine_33 (by decide) (fun c4 => ?_) (fun c4 => ?_)
  · have hm := (if_neg c4).symm.trans hm
    exact w_X5_readLine_B46 X q_t q_t_tape q_t_names q_t_nameLines q_t_nameNumbers q_t_draft q_t_draft_kind q_t_draft_wide q_t_draft_bank q_t_draft_mud q_t_draft_ropeAt q_t_draft_pulls q_t_draft_bears q_t_draft_strong q_t_draft_boatWide q_t_draft_boatDeep (v_t_filled) out   x1 y0 t_tape t_names t_nameLines t_nameNumbers t_fault t_faultPlace t_draft_flow t_draft_tape t_draft_reaches t_draft_ropes t_draft_hands t_draft_boats t_draft_muds t_draft_loose t_draft_kind t_draft_wide t_draft_bank t_draft_mud t_draft_ropeAt t_draft_pulls t_draft_bears t_draft_strong t_draft_boatWide t_draft_boatDeep t_named t_end t_at t_sort t_place t_value t_code _ _ _ hm hW (lv_sub hl [1, 2, 0] rfl)
  · have hm := (if_pos c4).symm.trans hm
    refine lv_iload_n hx hb dX5_readLine_36 rfl (lv_at hl 0 rfl) ?_
    refine lv_if_eq (tgt := 46) hx hb dX5_readLine_37 (by decide) (fun c34 => ?_) (fun c34 => ?_)
    · have hm := (if_pos c34).symm.trans hm
      exact w_X5_readLine_B46 X q_t q_t_tape q_t_names q_t_nameLines q_t_nameNumbers q_t_draft q_t_draft_kind q_t_draft_wide q_t_draft_bank q_t_draft_mud q_t_draft_ropeAt q_t_draft_pulls q_t_draft_bears q_t_draft_strong q_t_draft_boatWide q_t_draft_boatDeep (v_t_filled) out   x1 y0 t_tape t_names t_nameLines t_nameNumbers t_fault t_faultPlace t_draft_flow t_draft_tape t_draft_reaches t_draft_ropes t_draft_hands t_draft_boats t_draft_muds t_draft_loose t_draft_kind t_draft_wide t_draft_bank t_draft_mud t_draft_ropeAt t_draft_pulls t_draft_bears t_draft_strong t_draft_boatWide t_draft_boatDeep t_named t_end t_at t_sort t_place t_value t_code _ _ _ hm hW (lv_sub hl [1, 2, 0] rfl)
    · have hm := (if_neg c34).symm.trans hm
      refine lv_aload_n hx hb dX5_readLine_40 rfl (lv_at hl 1 rfl) ?_
      refine lv_iconst (v := 3) hx hb dX5_readLine_41 (by decide) ?_
      obtain ⟨o35, ho35, hm⟩ := bd_s hm
      refine mx_callV (C := RX5) (T := TX5) (N := 15) (ci := 5) (n := 1) (As := [.int 3]) (rest := []) (st1 := [.int o35.1]) (w2 := [xO q_t 5 [.ref q_t_tape, .ref q_t_names, .ref q_t_nameLines, .ref q_t_nameNumbers, v_t_filled, .int o35.2.1, .int o35.2.2, .ref q_t_draft, .int t_named, .int t_end, .int t_at, .int t_sort, .int t_place, .int t_value, .long t_code], xB G q_t_tape 900 t_tape, xJ G q_t_names 24 t_names, xI G q_t_nameLines 24 t_nameLines, xI G q_t_nameNumbers 24 t_nameNumbers, xO q_t_draft 6 [.int t_draft_flow, .int t_draft_tape, .int t_draft_reaches, .int t_draft_ropes, .int t_draft_hands, .int t_draft_boats, .int t_draft_muds, .int t_draft_loose, .ref q_t_draft_kind, .ref q_t_draft_wide, .ref q_t_draft_bank, .ref q_t_draft_mud, .ref q_t_draft_ropeAt, .ref q_t_draft_pulls, .ref q_t_draft_bears, .ref q_t_draft_strong, .ref q_t_draft_boatWide, .ref q_t_draft_boatDeep], xI G q_t_draft_kind 6 t_draft_kind, xI G q_t_draft_wide 6 t_draft_wide, xI G q_t_draft_bank 6 t_draft_bank, xI G q_t_draft_mud 6 t_draft_mud, xI G q_t_draft_ropeAt 7 t_draft_ropeAt, xI G q_t_draft_pulls 7 t_draft_pulls, xI G q_t_draft_bears 7 t_draft_bears, xI G q_t_draft_strong 6 t_draft_strong, xI G q_t_draft_boatWide 5 t_draft_boatWide, xI G q_t_draft_boatDeep 5 t_draft_boatDeep]) X hW hl.1 (c_X5_fail l G q_t (.ref q_t_tape) (.ref q_t_names) (.ref q_t_nameLines) (.ref q_t_nameNumbers) (v_t_filled) (.ref q_t_draft) (.int t_named) (.int t_end) (.int t_at) (.int t_sort) (.int t_value) (.long t_code) t_fault t_faultPlace t_place 3 o35 ho35) 0 rfl rfl kw_227 kw_228 kw_229 kw_15 kw_230 (by decide +kernel) ⟨rfl, rfl⟩ ⟨by decide, by decide⟩ ⟨Nat.zero_le _, Nat.zero_le _⟩ [0] (by decide) rfl rfl rfl rfl rfl rfl (Nat.le_of_ble_eq_true rfl) rfl dX5_readLine_42 (fun H locs hW => ?_)
      obtain ⟨hg36, hm⟩ := gd_s hm
      obtain rfl := Option.some.inj hm
      exact mx_zret X (nbl_s hg36) hW dX5_readLine_45
set_option maxHeartbeats 4000000 in
set_option maxRecDepth 100000 in
theorem c_X5_readLine (l : Launch) (G : mx_G) (q_t : Nat) (q_t_tape : Nat) (q_t_names : Nat) (q_t_nameLines : Nat) (q_t_nameNumbers : Nat) (q_t_draft : Nat) (q_t_draft_kind : Nat) (q_t_draft_wide : Nat) (q_t_draft_bank : Nat) (q_t_draft_mud : Nat) (q_t_draft_ropeAt : Nat) (q_t_draft_pulls : Nat) (q_t_draft_bears : Nat) (q_t_draft_strong : Nat) (q_t_draft_boatWide : Nat) (q_t_draft_boatDeep : Nat) (v_t_filled : Value) (t_tape : Nat → Int32) (t_names : Nat → Int64) (t_nameLines : Nat → Int32) (t_nameNumbers : Nat → Int32) (t_fault : Int32) (t_faultPlace : Int32) (t_draft_flow : Int32) (t_draft_tape : Int32) (t_draft_reaches : Int32) (t_draft_ropes : Int32) (t_draft_hands : Int32) (t_draft_boats : Int32) (t_draft_muds : Int32) (t_draft_loose : Int32) (t_draft_kind : Nat → Int32) (t_draft_wide : Nat → Int32) (t_draft_bank : Nat → Int32) (t_draft_mud : Nat → Int32) (t_draft_ropeAt : Nat → Int32) (t_draft_pulls : Nat → Int32) (t_draft_bears : Nat → Int32) (t_draft_strong : Nat → Int32) (t_draft_boatWide : Nat → Int32) (t_draft_boatDeep : Nat → Int32) (t_named : Int32) (t_end : Int32) (t_at : Int32) (t_sort : Int32) (t_place : Int32) (t_value : Int32) (t_code : Int64) (out : Int32 × (Nat → Int64) × (Nat → Int32) × (Nat → Int32) × Int32 × Int32 × Int32 × Int32 × Int32 × Int32 × Int32 × Int32 × Int32 × Int32 × (Nat → Int32) × (Nat → Int32) × (Nat → Int32) × (Nat → Int32) × (Nat → Int32) × (Nat → Int32) × (Nat → Int32) × (Nat → Int32) × (Nat → Int32) × (Nat → Int32) × Int32 × Int32 × Int32 × Int32 × Int32 × Int64) (hm : f_X5_readLine t_tape t_names t_nameLines t_nameNumbers t_fault t_faultPlace t_draft_flow t_draft_tape t_draft_reaches t_draft_ropes t_draft_hands t_draft_boats t_draft_muds t_draft_loose t_draft_kind t_draft_wide t_draft_bank t_draft_mud t_draft_ropeAt t_draft_pulls t_draft_bears t_draft_strong t_draft_boatWide t_draft_boatDeep t_named t_end t_at t_sort t_place t_value t_code = some out) : mx_C l yX5_readLine cX5_readLine 3 (some .boolean) rm_X5_readLine G [.ref q_t] [xO q_t 5 [.ref q_t_tape, .ref q_t_names, .ref q_t_nameLines, .ref q_t_nameNumbers, v_t_filled, .int t_fault, .int t_faultPlace, .ref q_t_draft, .int t_named, .int t_end, .int t_at, .int t_sort, .int t_place, .int t_value, .long t_code], xB G q_t_tape 900 t_tape, xJ G q_t_names 24 t_names, xI G q_t_nameLines 24 t_nameLines, xI G q_t_nameNumbers 24 t_nameNumbers, xO q_t_draft 6 [.int t_draft_flow, .int t_draft_tape, .int t_draft_reaches, .int t_draft_ropes, .int t_draft_hands, .int t_draft_boats, .int t_draft_muds, .int t_draft_loose, .ref q_t_draft_kind, .ref q_t_draft_wide, .ref q_t_draft_bank, .ref q_t_draft_mud, .ref q_t_draft_ropeAt, .ref q_t_draft_pulls, .ref q_t_draft_bears, .ref q_t_draft_strong, .ref q_t_draft_boatWide, .ref q_t_draft_boatDeep], xI G q_t_draft_kind 6 t_draft_kind, xI G q_t_draft_wide 6 t_draft_wide, xI G q_t_draft_bank 6 t_draft_bank, xI G q_t_draft_mud 6 t_draft_mud, xI G q_t_draft_ropeAt 7 t_draft_ropeAt, xI G q_t_draft_pulls 7 t_draft_pulls, xI G q_t_draft_bears 7 t_draft_bears, xI G q_t_draft_strong 6 t_draft_strong, xI G q_t_draft_boatWide 5 t_draft_boatWide, xI G q_t_draft_boatDeep 5 t_draft_boatDeep] (some (.int out.1)) [xO q_t 5 [.ref q_t_tape, .ref q_t_names, .ref q_t_nameLines, .ref q_t_nameNumbers, v_t_filled, .int out.2.2.2.2.1, .int out.2.2.2.2.2.1, .ref q_t_draft, .int out.2.2.2.2.2.2.2.2.2.2.2.2.2.2.2.2.2.2.2.2.2.2.2.2.1, .int t_end, .int out.2.2.2.2.2.2.2.2.2.2.2.2.2.2.2.2.2.2.2.2.2.2.2.2.2.1, .int out.2.2.2.2.2.2.2.2.2.2.2.2.2.2.2.2.2.2.2.2.2.2.2.2.2.2.1, .int out.2.2.2.2.2.2.2.2.2.2.2.2.2.2.2.2.2.2.2.2.2.2.2.2.2.2.2.1, .int out.2.2.2.2.2.2.2.2.2.2.2.2.2.2.2.2.2.2.2.2.2.2.2.2.2.2.2.2.1, .long out.2.2.2.2.2.2.2.2.2.2.2.2.2.2.2.2.2.2.2.2.2.2.2.2.2.2.2.2.2], xB G q_t_tape 900 t_tape, xJ G q_t_names 24 out.2.1, xI G q_t_nameLines 24 out.2.2.1, xI G q_t_nameNumbers 24 out.2.2.2.1, xO q_t_draft 6 [.int out.2.2.2.2.2.2.1, .int out.2.2.2.2.2.2.2.1, .int out.2.2.2.2.2.2.2.2.1, .int out.2.2.2.2.2.2.2.2.2.1, .int out.2.2.2.2.2.2.2.2.2.2.1, .int out.2.2.2.2.2.2.2.2.2.2.2.1, .int out.2.2.2.2.2.2.2.2.2.2.2.2.1, .int out.2.2.2.2.2.2.2.2.2.2.2.2.2.1, .ref q_t_draft_kind, .ref q_t_draft_wide, .ref q_t_draft_bank, .ref q_t_draft_mud, .ref q_t_draft_ropeAt, .ref q_t_draft_pulls, .ref q_t_draft_bears, .ref q_t_draft_strong, .ref q_t_draft_boatWide, .ref q_t_draft_boatDeep], xI G q_t_draft_kind 6 out.2.2.2.2.2.2.2.2.2.2.2.2.2.2.1, xI G q_t_draft_wide 6 out.2.2.2.2.2.2.2.2.2.2.2.2.2.2.2.1, xI G q_t_draft_bank 6 out.2.2.2.2.2.2.2.2.2.2.2.2.2.2.2.2.1, xI G q_t_draft_mud 6 out.2.2.2.2.2.2.2.2.2.2.2.2.2.2.2.2.2.1, xI G q_t_draft_ropeAt 7 out.2.2.2.2.2.2.2.2.2.2.2.2.2.2.2.2.2.2.1, xI G q_t_draft_pulls 7 out.2.2.2.2.2.2.2.2.2.2.2.2.2.2.2.2.2.2.2.1, xI G q_t_draft_bears 7 out.2.2.2.2.2.2.2.2.2.2.2.2.2.2.2.2.2.2.2.2.1, xI G q_t_draft_strong 6 out.2.2.2.2.2.2.2.2.2.2.2.2.2.2.2.2.2.2.2.2.2.1, xI G q_t_draft_boatWide 5 out.2.2.2.2.2.2.2.2.2.2.2.2.2.2.2.2.2.2.2.2.2.2.1, xI G q_t_draft_boatDeep 5 out.2.2.2.2.2.2.2.2.2.2.2.2.2.2.2.2.2.2.2.2.2.2.2.1] := by
  refine mx_enter (own := RX5) (name := "readLine") (lv := [(0, .ref q_t)]) (by decide) rfl rfl (Nat.le_of_ble_eq_true rfl) rfl ?_
  intro p e s m args below meth c A ls X hW hl
  obtain ⟨hx, hb, hml, hown, hts, hKN, -⟩ := id X
  unfold f_X5_readLine at hm
  refine lv_aload_n hx hb dX5_readLine_0 rfl (lv_at hl 0 rfl) ?_
  obtain ⟨o1, ho1, hm⟩ := bd_s hm
  refine mx_callV (C := RX5) (T := TX5) (N := 15) (ci := 5) (n := 0) (As := []) (rest := []) (st1 := [.int o1]) (w2 := [xO q_t 5 [.ref q_t_tape, .ref q_t_names, .ref q_t_nameLines, .ref q_t_nameNumbers, v_t_filled, .int t_fault, .int t_faultPlace, .ref q_t_draft, .int t_named, .int t_end, .int t_at, .int t_sort, .int t_place, .int t_value, .long t_code], xB G q_t_tape 900 t_tape, xJ G q_t_names 24 t_names, xI G q_t_nameLines 24 t_nameLines, xI G q_t_nameNumbers 24 t_nameNumbers, xO q_t_draft 6 [.int t_draft_flow, .int t_draft_tape, .int t_draft_reaches, .int t_draft_ropes, .int t_draft_hands, .int t_draft_boats, .int t_draft_muds, .int t_draft_loose, .ref q_t_draft_kind, .ref q_t_draft_wide, .ref q_t_draft_bank, .ref q_t_draft_mud, .ref q_t_draft_ropeAt, .ref q_t_draft_pulls, .ref q_t_draft_bears, .ref q_t_draft_strong, .ref q_t_draft_boatWide, .ref q_t_draft_boatDeep], xI G q_t_draft_kind 6 t_draft_kind, xI G q_t_draft_wide 6 t_draft_wide, xI G q_t_draft_bank 6 t_draft_bank, xI G q_t_draft_mud 6 t_draft_mud, xI G q_t_draft_ropeAt 7 t_draft_ropeAt, xI G q_t_draft_pulls 7 t_draft_pulls, xI G q_t_draft_bears 7 t_draft_bears, xI G q_t_draft_strong 6 t_draft_strong, xI G q_t_draft_boatWide 5 t_draft_boatWide, xI G q_t_draft_boatDeep 5 t_draft_boatDeep]) X hW hl.1 (c_X5_lineOfWord l G q_t (.ref q_t_tape) (.ref q_t_names) (.ref q_t_nameLines) (.ref q_t_nameNumbers) (v_t_filled) (.int t_fault) (.int t_faultPlace) (.ref q_t_draft) (.int t_named) (.int t_end) (.int t_at) (.int t_place) (.int t_value) t_sort t_code o1 ho1) 0 rfl rfl kw_216 kw_217 kw_218 kw_15 kw_219 (by decide +kernel) ⟨rfl, rfl⟩ ⟨by decide, by decide⟩ ⟨Nat.zero_le _, Nat.zero_le _⟩ [0] (by decide) rfl rfl rfl rfl rfl rfl (Nat.le_of_ble_eq_true rfl) rfl dX5_readLine_1 (fun H locs hW => ?_)
  refine lv_istore_n (lv' := [(1, .int o1), (0, .ref q_t)]) hx hb dX5_readLine_4 rfl hl (by decide) rfl (fun ls hl => ?_)
  refine lv_iload_n hx hb dX5_readLine_5 rfl (lv_at hl 0 rfl) ?_
  refine lv_iconst (v := (-1)) hx hb dX5_readLine_6 (by decide) ?_
  refine lv_icmp_ne (tgt := 16) hx hb dX5_readLine_7 (by decide) (fun c2 => ?_) (fun c2 => ?_)
  · have hm := (if_neg c2).symm.trans hm
    refine lv_aload_n hx hb dX5_readLine_16 rfl (lv_at hl 1 rfl) ?_
    refine mx_get (C := RX5) (T := TX5) (N := 15) (ci := 5) X hW 0 rfl rfl tbc_X5 7 (by decide) kw_64 rfl dX5_readLine_17 ?_
    refine mx_get (C := RX6) (T := TX6) (N := 18) (ci := 6) X hW 5 rfl rfl tbc_X6 0 (by decide) kw_215 rfl dX5_readLine_20 ?_
    refine lv_if_le (tgt := 30) hx hb dX5_readLine_23 (by decide) (fun c3 => ?_) (fun c3 => ?_)
    · have hm := (if_pos c3).symm.trans hm
      refine lv_iconst (v := 0) hx hb dX5_readLine_30 (by decide) ?_
      exact w_X5_readLine_B31 X q_t q_t_tape q_t_names q_t_nameLines q_t_nameNumbers q_t_draft q_t_draft_kind q_t_draft_wide q_t_draft_bank q_t_draft_mud q_t_draft_ropeAt q_t_draft_pulls q_t_draft_bears q_t_draft_strong q_t_draft_boatWide q_t_draft_boatDeep (v_t_filled) out   o1 0 t_tape t_names t_nameLines t_nameNumbers t_fault t_faultPlace t_draft_flow t_draft_tape t_draft_reaches t_draft_ropes t_draft_hands t_draft_boats t_draft_muds t_draft_loose t_draft_kind t_draft_wide t_draft_bank t_draft_mud t_draft_ropeAt t_draft_pulls t_draft_bears t_draft_strong t_draft_boatWide t_draft_boatDeep t_named t_end t_at t_sort t_place t_value t_code _ _ _ hm hW (lv_sub hl [1, 0] rfl)
    · have hm := (if_neg c3).symm.trans hm
      refine lv_iconst (v := 1) hx hb dX5_readLine_26 (by decide) ?_
      refine lv_goto (tgt := 31) hx hb dX5_readLine_27 (by decide) ?_
      exact w_X5_readLine_B31 X q_t q_t_tape q_t_names q_t_nameLines q_t_nameNumbers q_t_draft q_t_draft_kind q_t_draft_wide q_t_draft_bank q_t_draft_mud q_t_draft_ropeAt q_t_draft_pulls q_t_draft_bears q_t_draft_strong q_t_draft_boatWide q_t_draft_boatDeep (v_t_filled) out   o1 1 t_tape t_names t_nameLines t_nameNumbers t_fault t_faultPlace t_draft_flow t_draft_tape t_draft_reaches t_draft_ropes t_draft_hands t_draft_boats t_draft_muds t_draft_loose t_draft_kind t_draft_wide t_draft_bank t_draft_mud t_draft_ropeAt t_draft_pulls t_draft_bears t_draft_strong t_draft_boatWide t_draft_boatDeep t_named t_end t_at t_sort t_place t_value t_code _ _ _ hm hW (lv_sub hl [1, 0] rfl)
  · have hm := (if_pos c2).symm.trans hm
    refine lv_aload_n hx hb dX5_readLine_10 rfl (lv_at hl 1 rfl) ?_
    refine lv_iconst (v := 1) hx hb dX5_readLine_11 (by decide) ?_
    obtain ⟨o37, ho37, hm⟩ := bd_s hm
    refine mx_callV (C := RX5) (T := TX5) (N := 15) (ci := 5) (n := 1) (As := [.int 1]) (rest := []) (st1 := [.int o37.1]) (w2 := [xO q_t 5 [.ref q_t_tape, .ref q_t_names, .ref q_t_nameLines, .ref q_t_nameNumbers, v_t_filled, .int o37.2.1, .int o37.2.2, .ref q_t_draft, .int t_named, .int t_end, .int t_at, .int t_sort, .int t_place, .int t_value, .long t_code], xB G q_t_tape 900 t_tape, xJ G q_t_names 24 t_names, xI G q_t_nameLines 24 t_nameLines, xI G q_t_nameNumbers 24 t_nameNumbers, xO q_t_draft 6 [.int t_draft_flow, .int t_draft_tape, .int t_draft_reaches, .int t_draft_ropes, .int t_draft_hands, .int t_draft_boats, .int t_draft_muds, .int t_draft_loose, .ref q_t_draft_kind, .ref q_t_draft_wide, .ref q_t_draft_bank, .ref q_t_draft_mud, .ref q_t_draft_ropeAt, .ref q_t_draft_pulls, .ref q_t_draft_bears, .ref q_t_draft_strong, .ref q_t_draft_boatWide, .ref q_t_draft_boatDeep], xI G q_t_draft_kind 6 t_draft_kind, xI G q_t_draft_wide 6 t_draft_wide, xI G q_t_draft_bank 6 t_draft_bank, xI G q_t_draft_mud 6 t_draft_mud, xI G q_t_draft_ropeAt 7 t_draft_ropeAt, xI G q_t_draft_pulls 7 t_draft_pulls, xI G q_t_draft_bears 7 t_draft_bears, xI G q_t_draft_strong 6 t_draft_strong, xI G q_t_draft_boatWide 5 t_draft_boatWide, xI G q_t_draft_boatDeep 5 t_draft_boatDeep]) X hW hl.1 (c_X5_fail l G q_t (.ref q_t_tape) (.ref q_t_names) (.ref q_t_nameLines) (.ref q_t_nameNumbers) (v_t_filled) (.ref q_t_draft) (.int t_named) (.int t_end) (.int t_at) (.int t_sort) (.int t_value) (.long t_code) t_fault t_faultPlace t_place 1 o37 ho37) 0 rfl rfl kw_227 kw_228 kw_229 kw_15 kw_230 (by decide +kernel) ⟨rfl, rfl⟩ ⟨by decide, by decide⟩ ⟨Nat.zero_le _, Nat.zero_le _⟩ [0] (by decide) rfl rfl rfl rfl rfl rfl (Nat.le_of_ble_eq_true rfl) rfl dX5_readLine_12 (fun H locs hW => ?_)
    obtain ⟨hg38, hm⟩ := gd_s hm
    obtain rfl := Option.some.inj hm
    exact mx_zret X (nbl_s hg38) hW dX5_readLine_15

abbrev rm_X5_read : Room := { frames := 5, cells := 0, slots := 0, locals := 108 }
noncomputable def f_X5_read_L50 (k_84 : Int32 → (Nat → Int64) → (Nat → Int32) → (Nat → Int32) → Int32 → Int32 → Int32 → Int32 → Int32 → Int32 → Int32 → Int32 → Int32 → Int32 → (Nat → Int32) → (Nat → Int32) → (Nat → Int32) → (Nat → Int32) → (Nat → Int32) → (Nat → Int32) → (Nat → Int32) → (Nat → Int32) → (Nat → Int32) → (Nat → Int32) → Int32 → Int32 → Int32 → Int32 → Int32 → Int64 → Option (Int32 × (Nat → Int64) × (Nat → Int32) × (Nat → Int32) × Int32 × Int32 × Int32 × Int32 × Int32 × Int32 × Int32 × Int32 × Int32 × Int32 × Int32 × (Nat → Int32) × (Nat → Int32) × (Nat → Int32) × (Nat → Int32) × (Nat → Int32) × (Nat → Int32) × (Nat → Int32) × (Nat → Int32) × (Nat → Int32) × (Nat → Int32) × Int32 × Int32 × Int32 × Int32 × Int32 × Int32 × Int64)) (t_tape : Nat → Int32) (t_end : Int32) : Nat → Int32 → Int32 → (Nat → Int64) → (Nat → Int32) → (Nat → Int32) → Int32 → Int32 → Int32 → Int32 → Int32 → Int32 → Int32 → Int32 → Int32 → Int32 → (Nat → Int32) → (Nat → Int32) → (Nat → Int32) → (Nat → Int32) → (Nat → Int32) → (Nat → Int32) → (Nat → Int32) → (Nat → Int32) → (Nat → Int32) → (Nat → Int32) → Int32 → Int32 → Int32 → Int32 → Int32 → Int64 → Option (Int32 × (Nat → Int64) × (Nat → Int32) × (Nat → Int32) × Int32 × Int32 × Int32 × Int32 × Int32 × Int32 × Int32 × Int32 × Int32 × Int32 × Int32 × (Nat → Int32) × (Nat → Int32) × (Nat → Int32) × (Nat → Int32) × (Nat → Int32) × (Nat → Int32) × (Nat → Int32) × (Nat → Int32) × (Nat → Int32) × (Nat → Int32) × Int32 × Int32 × Int32 × Int32 × Int32 × Int32 × Int64)
  | 0, _, _, _, _, _, _, _, _, _, _, _, _, _, _, _, _, _, _, _, _, _, _, _, _, _, _, _, _, _, _, _ => none
  | n + 1, x2, x3, t_names, t_nameLines, t_nameNumbers, t_fault, t_faultPlace, t_draft_flow, t_draft_tape, t_draft_reaches, t_draft_ropes, t_draft_hands, t_draft_boats, t_draft_muds, t_draft_loose, t_draft_kind, t_draft_wide, t_draft_bank, t_draft_mud, t_draft_ropeAt, t_draft_pulls, t_draft_bears, t_draft_strong, t_draft_boatWide, t_draft_boatDeep, t_named, t_at, t_sort, t_place, t_value, t_code =>
    (if 900 ≤ x3 then
      k_84 x2 t_names t_nameLines t_nameNumbers t_fault t_faultPlace t_draft_flow t_draft_tape t_draft_reaches t_draft_ropes t_draft_hands t_draft_boats t_draft_muds t_draft_loose t_draft_kind t_draft_wide t_draft_bank t_draft_mud t_draft_ropeAt t_draft_pulls t_draft_bears t_draft_strong t_draft_boatWide t_draft_boatDeep t_named t_at t_sort t_place t_value t_code
    else
      (if x2 = 0 then
        k_84 x2 t_names t_nameLines t_nameNumbers t_fault t_faultPlace t_draft_flow t_draft_tape t_draft_reaches t_draft_ropes t_draft_hands t_draft_boats t_draft_muds t_draft_loose t_draft_kind t_draft_wide t_draft_bank t_draft_mud t_draft_ropeAt t_draft_pulls t_draft_bears t_draft_strong t_draft_boatWide t_draft_boatDeep t_named t_at t_sort t_place t_value t_code
      else
        (if t_sort = 3 then
          (f_X5_next t_tape t_end t_at t_sort t_place t_value t_code).bind fun o8 => (f_X5_readLine t_tape t_names t_nameLines t_nameNumbers t_fault t_faultPlace t_draft_flow t_draft_tape t_draft_reaches t_draft_ropes t_draft_hands t_draft_boats t_draft_muds t_draft_loose t_draft_kind t_draft_wide t_draft_bank t_draft_mud t_draft_ropeAt t_draft_pulls t_draft_bears t_draft_strong t_draft_boatWide t_draft_boatDeep t_named t_end o8.1 o8.2.1 o8.2.2.1 o8.2.2.2.1 o8.2.2.2.2).bind fun o9 =>f_X5_read_L50 k_84 t_tape t_end n o9.1 (x3 + 1) o9.2.1 o9.2.2.1 o9.2.2.2.1 o9.2.2.2.2.1 o9.2.2.2.2.2.1 o9.2.2.2.2.2.2.1 o9.2.2.2.2.2.2.2.1 o9.2.2.2.2.2.2.2.2.1 o9.2.2.2.2.2.2.2.2.2.1 o9.2.2.2.2.2.2.2.2.2.2.1 o9.2.2.2.2.2.2.2.2.2.2.2.1 o9.2.2.2.2.2.2.2.2.2.2.2.2.1 o9.2.2.2.2.2.2.2.2.2.2.2.2.2.1 o9.2.2.2.2.2.2.2.2.2.2.2.2.2.2.1 o9.2.2.2.2.2.2.2.2.2.2.2.2.2.2.2.1 o9.2.2.2.2.2.2.2.2.2.2.2.2.2.2.2.2.1 o9.2.2.2.2.2.2.2.2.2.2.2.2.2.2.2.2.2.1 o9.2.2.2.2.2.2.2.2.2.2.2.2.2.2.2.2.2.2.1 o9.2.2.2.2.2.2.2.2.2.2.2.2.2.2.2.2.2.2.2.1 o9.2.2.2.2.2.2.2.2.2.2.2.2.2.2.2.2.2.2.2.2.1 o9.2.2.2.2.2.2.2.2.2.2.2.2.2.2.2.2.2.2.2.2.2.1 o9.2.2.2.2.2.2.2.2.2.2.2.2.2.2.2.2.2.2.2.2.2.2.1 o9.2.2.2.2.2.2.2.2.2.2.2.2.2.2.2.2.2.2.2.2.2.2.2.1 o9.2.2.2.2.2.2.2.2.2.2.2.2.2.2.2.2.2.2.2.2.2.2.2.2.1 o9.2.2.2.2.2.2.2.2.2.2.2.2.2.2.2.2.2.2.2.2.2.2.2.2.2.1 o9.2.2.2.2.2.2.2.2.2.2.2.2.2.2.2.2.2.2.2.2.2.2.2.2.2.2.1 o9.2.2.2.2.2.2.2.2.2.2.2.2.2.2.2.2.2.2.2.2.2.2.2.2.2.2.2.1 o9.2.2.2.2.2.2.2.2.2.2.2.2.2.2.2.2.2.2.2.2.2.2.2.2.2.2.2.2.1 o9.2.2.2.2.2.2.2.2.2.2.2.2.2.2.2.2.2.2.2.2.2.2.2.2.2.2.2.2.2
        else
          k_84 x2 t_names t_nameLines t_nameNumbers t_fault t_faultPlace t_draft_flow t_draft_tape t_draft_reaches t_draft_ropes t_draft_hands t_draft_boats t_draft_muds t_draft_loose t_draft_kind t_draft_wide t_draft_bank t_draft_mud t_draft_ropeAt t_draft_pulls t_draft_bears t_draft_strong t_draft_boatWide t_draft_boatDeep t_named t_at t_sort t_place t_value t_code)))
noncomputable def f_X5_read_B84  (x2 : Int32) (t_names : Nat → Int64) (t_nameLines : Nat → Int32) (t_nameNumbers : Nat → Int32) (t_filled : Int32) (t_fault : Int32) (t_faultPlace : Int32) (t_draft_flow : Int32) (t_draft_tape : Int32) (t_draft_reaches : Int32) (t_draft_ropes : Int32) (t_draft_hands : Int32) (t_draft_boats : Int32) (t_draft_muds : Int32) (t_draft_loose : Int32) (t_draft_kind : Nat → Int32) (t_draft_wide : Nat → Int32) (t_draft_bank : Nat → Int32) (t_draft_mud : Nat → Int32) (t_draft_ropeAt : Nat → Int32) (t_draft_pulls : Nat → Int32) (t_draft_bears : Nat → Int32) (t_draft_strong : Nat → Int32) (t_draft_boatWide : Nat → Int32) (t_draft_boatDeep : Nat → Int32) (t_named : Int32) (t_end : Int32) (t_at : Int32) (t_sort : Int32) (t_place : Int32) (t_value : Int32) (t_code : Int64) : Option (Int32 × (Nat → Int64) × (Nat → Int32) × (Nat → Int32) × Int32 × Int32 × Int32 × Int32 × Int32 × Int32 × Int32 × Int32 × Int32 × Int32 × Int32 × (Nat → Int32) × (Nat → Int32) × (Nat → Int32) × (Nat → Int32) × (Nat → Int32) × (Nat → Int32) × (Nat → Int32) × (Nat → Int32) × (Nat → Int32) × (Nat → Int32) × Int32 × Int32 × Int32 × Int32 × Int32 × Int32 × Int64) :=
  (if x2 = 0 then
    some (0, t_names, t_nameLines, t_nameNumbers, t_filled, t_fault, t_faultPlace, t_draft_flow, t_draft_tape, t_draft_reaches, t_draft_ropes, t_draft_hands, t_draft_boats, t_draft_muds, t_draft_loose, t_draft_kind, t_draft_wide, t_draft_bank, t_draft_mud, t_draft_ropeAt, t_draft_pulls, t_draft_bears, t_draft_strong, t_draft_boatWide, t_draft_boatDeep, t_named, t_end, t_at, t_sort, t_place, t_value, t_code)
  else
    (if t_sort = 0 then
      (if 0 < t_draft_reaches then
        some (1, t_names, t_nameLines, t_nameNumbers, t_filled, t_fault, t_faultPlace, t_draft_flow, t_draft_tape, t_draft_reaches, t_draft_ropes, t_draft_hands, t_draft_boats, t_draft_muds, t_draft_loose, t_draft_kind, t_draft_wide, t_draft_bank, t_draft_mud, t_draft_ropeAt, t_draft_pulls, t_draft_bears, t_draft_strong, t_draft_boatWide, t_draft_boatDeep, t_named, t_end, t_at, t_sort, t_place, t_value, t_code)
      else
        (f_X5_fail 6 t_fault t_faultPlace t_place).bind fun o13 => (if o13.1 = 0 then
          some (0, t_names, t_nameLines, t_nameNumbers, t_filled, o13.2.1, o13.2.2, t_draft_flow, t_draft_tape, t_draft_reaches, t_draft_ropes, t_draft_hands, t_draft_boats, t_draft_muds, t_draft_loose, t_draft_kind, t_draft_wide, t_draft_bank, t_draft_mud, t_draft_ropeAt, t_draft_pulls, t_draft_bears, t_draft_strong, t_draft_boatWide, t_draft_boatDeep, t_named, t_end, t_at, t_sort, t_place, t_value, t_code)
        else
          some (1, t_names, t_nameLines, t_nameNumbers, t_filled, o13.2.1, o13.2.2, t_draft_flow, t_draft_tape, t_draft_reaches, t_draft_ropes, t_draft_hands, t_draft_boats, t_draft_muds, t_draft_loose, t_draft_kind, t_draft_wide, t_draft_bank, t_draft_mud, t_draft_ropeAt, t_draft_pulls, t_draft_bears, t_draft_strong, t_draft_boatWide, t_draft_boatDeep, t_named, t_end, t_at, t_sort, t_place, t_value, t_code)))
    else
      (f_X5_fail 1 t_fault t_faultPlace t_place).bind fun o15 => gd (nbl o15.1) <| some (o15.1, t_names, t_nameLines, t_nameNumbers, t_filled, o15.2.1, o15.2.2, t_draft_flow, t_draft_tape, t_draft_reaches, t_draft_ropes, t_draft_hands, t_draft_boats, t_draft_muds, t_draft_loose, t_draft_kind, t_draft_wide, t_draft_bank, t_draft_mud, t_draft_ropeAt, t_draft_pulls, t_draft_bears, t_draft_strong, t_draft_boatWide, t_draft_boatDeep, t_named, t_end, t_at, t_sort, t_place, t_value, t_code)))
noncomputable def f_X5_read (p1 : Int32) (t_tape : Nat → Int32) (t_names : Nat → Int64) (t_nameLines : Nat → Int32) (t_nameNumbers : Nat → Int32) (t_filled : Int32) (t_fault : Int32) (t_faultPlace : Int32) (t_draft_flow : Int32) (t_draft_tape : Int32) (t_draft_reaches : Int32) (t_draft_ropes : Int32) (t_draft_hands : Int32) (t_draft_boats : Int32) (t_draft_muds : Int32) (t_draft_loose : Int32) (t_draft_kind : Nat → Int32) (t_draft_wide : Nat → Int32) (t_draft_bank : Nat → Int32) (t_draft_mud : Nat → Int32) (t_draft_ropeAt : Nat → Int32) (t_draft_pulls : Nat → Int32) (t_draft_bears : Nat → Int32) (t_draft_strong : Nat → Int32) (t_draft_boatWide : Nat → Int32) (t_draft_boatDeep : Nat → Int32) (t_named : Int32) (t_end : Int32) (t_at : Int32) (t_sort : Int32) (t_place : Int32) (t_value : Int32) (t_code : Int64) : Option (Int32 × (Nat → Int64) × (Nat → Int32) × (Nat → Int32) × Int32 × Int32 × Int32 × Int32 × Int32 × Int32 × Int32 × Int32 × Int32 × Int32 × Int32 × (Nat → Int32) × (Nat → Int32) × (Nat → Int32) × (Nat → Int32) × (Nat → Int32) × (Nat → Int32) × (Nat → Int32) × (Nat → Int32) × (Nat → Int32) × (Nat → Int32) × Int32 × Int32 × Int32 × Int32 × Int32 × Int32 × Int64) :=
  nm (if t_filled < p1 then t_filled else p1) fun z1 => (f_X6_empty t_draft_flow t_draft_tape t_draft_reaches t_draft_ropes t_draft_hands t_draft_boats t_draft_muds t_draft_loose t_draft_mud).bind fun o2 => (f_X5_next t_tape z1 0 t_sort t_place t_value t_code).bind fun o3 => (f_X5_readLine t_tape t_names t_nameLines t_nameNumbers 0 t_faultPlace o2.1 o2.2.1 o2.2.2.1 o2.2.2.2.1 o2.2.2.2.2.1 o2.2.2.2.2.2.1 o2.2.2.2.2.2.2.1 o2.2.2.2.2.2.2.2.1 t_draft_kind t_draft_wide t_draft_bank o2.2.2.2.2.2.2.2.2 t_draft_ropeAt t_draft_pulls t_draft_bears t_draft_strong t_draft_boatWide t_draft_boatDeep 0 z1 o3.1 o3.2.1 o3.2.2.1 o3.2.2.2.1 o3.2.2.2.2).bind fun o4 => f_X5_read_L50 (fun x2_50 t_names_50 t_nameLines_50 t_nameNumbers_50 t_fault_50 t_faultPlace_50 t_draft_flow_50 t_draft_tape_50 t_draft_reaches_50 t_draft_ropes_50 t_draft_hands_50 t_draft_boats_50 t_draft_muds_50 t_draft_loose_50 t_draft_kind_50 t_draft_wide_50 t_draft_bank_50 t_draft_mud_50 t_draft_ropeAt_50 t_draft_pulls_50 t_draft_bears_50 t_draft_strong_50 t_draft_boatWide_50 t_draft_boatDeep_50 t_named_50 t_at_50 t_sort_50 t_place_50 t_value_50 t_code_50 =>
    f_X5_read_B84  x2_50 t_names_50 t_nameLines_50 t_nameNumbers_50 0 t_fault_50 t_faultPlace_50 t_draft_flow_50 t_draft_tape_50 t_draft_reaches_50 t_draft_ropes_50 t_draft_hands_50 t_draft_boats_50 t_draft_muds_50 t_draft_loose_50 t_draft_kind_50 t_draft_wide_50 t_draft_bank_50 t_draft_mud_50 t_draft_ropeAt_50 t_draft_pulls_50 t_draft_bears_50 t_draft_strong_50 t_draft_boatWide_50 t_draft_boatDeep_50 t_named_50 z1 t_at_50 t_sort_50 t_place_50 t_value_50 t_code_50) t_tape z1 2000 o4.1 0 o4.2.1 o4.2.2.1 o4.2.2.2.1 o4.2.2.2.2.1 o4.2.2.2.2.2.1 o4.2.2.2.2.2.2.1 o4.2.2.2.2.2.2.2.1 o4.2.2.2.2.2.2.2.2.1 o4.2.2.2.2.2.2.2.2.2.1 o4.2.2.2.2.2.2.2.2.2.2.1 o4.2.2.2.2.2.2.2.2.2.2.2.1 o4.2.2.2.2.2.2.2.2.2.2.2.2.1 o4.2.2.2.2.2.2.2.2.2.2.2.2.2.1 o4.2.2.2.2.2.2.2.2.2.2.2.2.2.2.1 o4.2.2.2.2.2.2.2.2.2.2.2.2.2.2.2.1 o4.2.2.2.2.2.2.2.2.2.2.2.2.2.2.2.2.1 o4.2.2.2.2.2.2.2.2.2.2.2.2.2.2.2.2.2.1 o4.2.2.2.2.2.2.2.2.2.2.2.2.2.2.2.2.2.2.1 o4.2.2.2.2.2.2.2.2.2.2.2.2.2.2.2.2.2.2.2.1 o4.2.2.2.2.2.2.2.2.2.2.2.2.2.2.2.2.2.2.2.2.1 o4.2.2.2.2.2.2.2.2.2.2.2.2.2.2.2.2.2.2.2.2.2.1 o4.2.2.2.2.2.2.2.2.2.2.2.2.2.2.2.2.2.2.2.2.2.2.1 o4.2.2.2.2.2.2.2.2.2.2.2.2.2.2.2.2.2.2.2.2.2.2.2.1 o4.2.2.2.2.2.2.2.2.2.2.2.2.2.2.2.2.2.2.2.2.2.2.2.2.1 o4.2.2.2.2.2.2.2.2.2.2.2.2.2.2.2.2.2.2.2.2.2.2.2.2.2.1 o4.2.2.2.2.2.2.2.2.2.2.2.2.2.2.2.2.2.2.2.2.2.2.2.2.2.2.1 o4.2.2.2.2.2.2.2.2.2.2.2.2.2.2.2.2.2.2.2.2.2.2.2.2.2.2.2.1 o4.2.2.2.2.2.2.2.2.2.2.2.2.2.2.2.2.2.2.2.2.2.2.2.2.2.2.2.2.1 o4.2.2.2.2.2.2.2.2.2.2.2.2.2.2.2.2.2.2.2.2.2.2.2.2.2.2.2.2.2
set_option maxHeartbeats 4000000 in
set_option maxRecDepth 100000 in
theorem w_X5_read_L50 {p : Program} {l : Launch} {e : Env} {s : State} {m : MethodId} {args : Array Value} {below : List Frame} {meth : Method} {c : Code} {A : Nat → Prop} {G : mx_G} (X : mx_X p s m args meth c RX5 "read" cX5_read 4 (some .boolean) G) (q_t : Nat) (q_t_tape : Nat) (q_t_names : Nat) (q_t_nameLines : Nat) (q_t_nameNumbers : Nat) (q_t_draft : Nat) (q_t_draft_kind : Nat) (q_t_draft_wide : Nat) (q_t_draft_bank : Nat) (q_t_draft_mud : Nat) (q_t_draft_ropeAt : Nat) (q_t_draft_pulls : Nat) (q_t_draft_bears : Nat) (q_t_draft_strong : Nat) (q_t_draft_boatWide : Nat) (q_t_draft_boatDeep : Nat) (t_tape : Nat → Int32) (t_filled : Int32) (t_end : Int32)  (out : Int32 × (Nat → Int64) × (Nat → Int32) × (Nat → Int32) × Int32 × Int32 × Int32 × Int32 × Int32 × Int32 × Int32 × Int32 × Int32 × Int32 × Int32 × (Nat → Int32) × (Nat → Int32) × (Nat → Int32) × (Nat → Int32) × (Nat → Int32) × (Nat → Int32) × (Nat → Int32) × (Nat → Int32) × (Nat → Int32) × (Nat → Int32) × Int32 × Int32 × Int32 × Int32 × Int32 × Int32 × Int64) (k_84 : Int32 → (Nat → Int64) → (Nat → Int32) → (Nat → Int32) → Int32 → Int32 → Int32 → Int32 → Int32 → Int32 → Int32 → Int32 → Int32 → Int32 → (Nat → Int32) → (Nat → Int32) → (Nat → Int32) → (Nat → Int32) → (Nat → Int32) → (Nat → Int32) → (Nat → Int32) → (Nat → Int32) → (Nat → Int32) → (Nat → Int32) → Int32 → Int32 → Int32 → Int32 → Int32 → Int64 → Option (Int32 × (Nat → Int64) × (Nat → Int32) × (Nat → Int32) × Int32 × Int32 × Int32 × Int32 × Int32 × Int32 × Int32 × Int32 × Int32 × Int32 × Int32 × (Nat → Int32) × (Nat → Int32) × (Nat → Int32) × (Nat → Int32) × (Nat → Int32) × (Nat → Int32) × (Nat → Int32) × (Nat → Int32) × (Nat → Int32) × (Nat → Int32) × Int32 × Int32 × Int32 × Int32 × Int32 × Int32 × Int64)) (hk_84 : ∀ (x2 : Int32) (t_names : Nat → Int64) (t_nameLines : Nat → Int32) (t_nameNumbers : Nat → Int32) (t_fault : Int32) (t_faultPlace : Int32) (t_draft_flow : Int32) (t_draft_tape : Int32) (t_draft_reaches : Int32) (t_draft_ropes : Int32) (t_draft_hands : Int32) (t_draft_boats : Int32) (t_draft_muds : Int32) (t_draft_loose : Int32) (t_draft_kind : Nat → Int32) (t_draft_wide : Nat → Int32) (t_draft_bank : Nat → Int32) (t_draft_mud : Nat → Int32) (t_draft_ropeAt : Nat → Int32) (t_draft_pulls : Nat → Int32) (t_draft_bears : Nat → Int32) (t_draft_strong : Nat → Int32) (t_draft_boatWide : Nat → Int32) (t_draft_boatDeep : Nat → Int32) (t_named : Int32) (t_at : Int32) (t_sort : Int32) (t_place : Int32) (t_value : Int32) (t_code : Int64) (H : Heap) (locs : List Loc) (ls : Array Slot), k_84 x2 t_names t_nameLines t_nameNumbers t_fault t_faultPlace t_draft_flow t_draft_tape t_draft_reaches t_draft_ropes t_draft_hands t_draft_boats t_draft_muds t_draft_loose t_draft_kind t_draft_wide t_draft_bank t_draft_mud t_draft_ropeAt t_draft_pulls t_draft_bears t_draft_strong t_draft_boatWide t_draft_boatDeep t_named t_at t_sort t_place t_value t_code = some out → mx_W G s A [xO q_t 5 [.ref q_t_tape, .ref q_t_names, .ref q_t_nameLines, .ref q_t_nameNumbers, .int t_filled, .int t_fault, .int t_faultPlace, .ref q_t_draft, .int t_named, .int t_end, .int t_at, .int t_sort, .int t_place, .int t_value, .long t_code], xB G q_t_tape 900 t_tape, xJ G q_t_names 24 t_names, xI G q_t_nameLines 24 t_nameLines, xI G q_t_nameNumbers 24 t_nameNumbers, xO q_t_draft 6 [.int t_draft_flow, .int t_draft_tape, .int t_draft_reaches, .int t_draft_ropes, .int t_draft_hands, .int t_draft_boats, .int t_draft_muds, .int t_draft_loose, .ref q_t_draft_kind, .ref q_t_draft_wide, .ref q_t_draft_bank, .ref q_t_draft_mud, .ref q_t_draft_ropeAt, .ref q_t_draft_pulls, .ref q_t_draft_bears, .ref q_t_draft_strong, .ref q_t_draft_boatWide, .ref q_t_draft_boatDeep], xI G q_t_draft_kind 6 t_draft_kind, xI G q_t_draft_wide 6 t_draft_wide, xI G q_t_draft_bank 6 t_draft_bank, xI G q_t_draft_mud 6 t_draft_mud, xI G q_t_draft_ropeAt 7 t_draft_ropeAt, xI G q_t_draft_pulls 7 t_draft_pulls, xI G q_t_draft_bears 7 t_draft_bears, xI G q_t_draft_strong 6 t_draft_strong, xI G q_t_draft_boatWide 5 t_draft_boatWide, xI G q_t_draft_boatDeep 5 t_draft_boatDeep] H locs → lv_has ls 4 [(0, .ref q_t), (2, .int x2)] → W p l e rm_X5_read s m args below meth c H locs 0 0 (MQ below (mx_Q G (some (.int out.1)) [xO q_t 5 [.ref q_t_tape, .ref q_t_names, .ref q_t_nameLines, .ref q_t_nameNumbers, .int out.2.2.2.2.1, .int out.2.2.2.2.2.1, .int out.2.2.2.2.2.2.1, .ref q_t_draft, .int out.2.2.2.2.2.2.2.2.2.2.2.2.2.2.2.2.2.2.2.2.2.2.2.2.2.1, .int out.2.2.2.2.2.2.2.2.2.2.2.2.2.2.2.2.2.2.2.2.2.2.2.2.2.2.1, .int out.2.2.2.2.2.2.2.2.2.2.2.2.2.2.2.2.2.2.2.2.2.2.2.2.2.2.2.1, .int out.2.2.2.2.2.2.2.2.2.2.2.2.2.2.2.2.2.2.2.2.2.2.2.2.2.2.2.2.1, .int out.2.2.2.2.2.2.2.2.2.2.2.2.2.2.2.2.2.2.2.2.2.2.2.2.2.2.2.2.2.1, .int out.2.2.2.2.2.2.2.2.2.2.2.2.2.2.2.2.2.2.2.2.2.2.2.2.2.2.2.2.2.2.1, .long out.2.2.2.2.2.2.2.2.2.2.2.2.2.2.2.2.2.2.2.2.2.2.2.2.2.2.2.2.2.2.2], xB G q_t_tape 900 t_tape, xJ G q_t_names 24 out.2.1, xI G q_t_nameLines 24 out.2.2.1, xI G q_t_nameNumbers 24 out.2.2.2.1, xO q_t_draft 6 [.int out.2.2.2.2.2.2.2.1, .int out.2.2.2.2.2.2.2.2.1, .int out.2.2.2.2.2.2.2.2.2.1, .int out.2.2.2.2.2.2.2.2.2.2.1, .int out.2.2.2.2.2.2.2.2.2.2.2.1, .int out.2.2.2.2.2.2.2.2.2.2.2.2.1, .int out.2.2.2.2.2.2.2.2.2.2.2.2.2.1, .int out.2.2.2.2.2.2.2.2.2.2.2.2.2.2.1, .ref q_t_draft_kind, .ref q_t_draft_wide, .ref q_t_draft_bank, .ref q_t_draft_mud, .ref q_t_draft_ropeAt, .ref q_t_draft_pulls, .ref q_t_draft_bears, .ref q_t_draft_strong, .ref q_t_draft_boatWide, .ref q_t_draft_boatDeep], xI G q_t_draft_kind 6 out.2.2.2.2.2.2.2.2.2.2.2.2.2.2.2.1, xI G q_t_draft_wide 6 out.2.2.2.2.2.2.2.2.2.2.2.2.2.2.2.2.1, xI G q_t_draft_bank 6 out.2.2.2.2.2.2.2.2.2.2.2.2.2.2.2.2.2.1, xI G q_t_draft_mud 6 out.2.2.2.2.2.2.2.2.2.2.2.2.2.2.2.2.2.2.1, xI G q_t_draft_ropeAt 7 out.2.2.2.2.2.2.2.2.2.2.2.2.2.2.2.2.2.2.2.1, xI G q_t_draft_pulls 7 out.2.2.2.2.2.2.2.2.2.2.2.2.2.2.2.2.2.2.2.2.1, xI G q_t_draft_bears 7 out.2.2.2.2.2.2.2.2.2.2.2.2.2.2.2.2.2.2.2.2.2.1, xI G q_t_draft_strong 6 out.2.2.2.2.2.2.2.2.2.2.2.2.2.2.2.2.2.2.2.2.2.2.1, xI G q_t_draft_boatWide 5 out.2.2.2.2.2.2.2.2.2.2.2.2.2.2.2.2.2.2.2.2.2.2.2.1, xI G q_t_draft_boatDeep 5 out.2.2.2.2.2.2.2.2.2.2.2.2.2.2.2.2.2.2.2.2.2.2.2.2.1] A) args s 0 0 A) (F0 m 84 ls [])) : ∀ (n : Nat) (x2 : Int32) (x3 : Int32) (t_names : Nat → Int64) (t_nameLines : Nat → Int32) (t_nameNumbers : Nat → Int32) (t_fault : Int32) (t_faultPlace : Int32) (t_draft_flow : Int32) (t_draft_tape : Int32) (t_draft_reaches : Int32) (t_draft_ropes : Int32) (t_draft_hands : Int32) (t_draft_boats : Int32) (t_draft_muds : Int32) (t_draft_loose : Int32) (t_draft_kind : Nat → Int32) (t_draft_wide : Nat → Int32) (t_draft_bank : Nat → Int32) (t_draft_mud : Nat → Int32) (t_draft_ropeAt : Nat → Int32) (t_draft_pulls : Nat → Int32) (t_draft_bears : Nat → Int32) (t_draft_strong : Nat → Int32) (t_draft_boatWide : Nat → Int32) (t_draft_boatDeep : Nat → Int32) (t_named : Int32) (t_at : Int32) (t_sort : Int32) (t_place : Int32) (t_value : Int32) (t_code : Int64) (H : Heap) (locs : List Loc) (ls : Array Slot), f_X5_read_L50 k_84 t_tape t_end n x2 x3 t_names t_nameLines t_nameNumbers t_fault t_faultPlace t_draft_flow t_draft_tape t_draft_reaches t_draft_ropes t_draft_hands t_draft_boats t_draft_muds t_draft_loose t_draft_kind t_draft_wide t_draft_bank t_draft_mud t_draft_ropeAt t_draft_pulls t_draft_bears t_draft_strong t_draft_boatWide t_draft_boatDeep t_named t_at t_sort t_place t_value t_code = some out → mx_W G s A [xO q_t 5 [.ref q_t_tape, .ref q_t_names, .ref q_t_nameLines, .ref q_t_nameNumbers, .int t_filled, .int t_fault, .int t_faultPlace, .ref q_t_draft, .int t_named, .int t_end, .int t_at, .int t_sort, .int t_place, .int t_value, .long t_code], xB G q_t_tape 900 t_tape, xJ G q_t_names 24 t_names, xI G q_t_nameLines 24 t_nameLines, xI G q_t_nameNumbers 24 t_nameNumbers, xO q_t_draft 6 [.int t_draft_flow, .int t_draft_tape, .int t_draft_reaches, .int t_draft_ropes, .int t_draft_hands, .int t_draft_boats, .int t_draft_muds, .int t_draft_loose, .ref q_t_draft_kind, .ref q_t_draft_wide, .ref q_t_draft_bank, .ref q_t_draft_mud, .ref q_t_draft_ropeAt, .ref q_t_draft_pulls, .ref q_t_draft_bears, .ref q_t_draft_strong, .ref q_t_draft_boatWide, .ref q_t_draft_boatDeep], xI G q_t_draft_kind 6 t_draft_kind, xI G q_t_draft_wide 6 t_draft_wide, xI G q_t_draft_bank 6 t_draft_bank, xI G q_t_draft_mud 6 t_draft_mud, xI G q_t_draft_ropeAt 7 t_draft_ropeAt, xI G q_t_draft_pulls 7 t_draft_pulls, xI G q_t_draft_bears 7 t_draft_bears, xI G q_t_draft_strong 6 t_draft_strong, xI G q_t_draft_boatWide 5 t_draft_boatWide, xI G q_t_draft_boatDeep 5 t_draft_boatDeep] H locs → lv_has ls 4 [(0, .ref q_t), (2, .int x2), (3, .int x3)] → W p l e rm_X5_read s m args below meth c H locs 0 0 (MQ below (mx_Q G (some (.int out.1)) [xO q_t 5 [.ref q_t_tape, .ref q_t_names, .ref q_t_nameLines, .ref q_t_nameNumbers, .int out.2.2.2.2.1, .int out.2.2.2.2.2.1, .int out.2.2.2.2.2.2.1, .ref q_t_draft, .int out.2.2.2.2.2.2.2.2.2.2.2.2.2.2.2.2.2.2.2.2.2.2.2.2.2.1, .int out.2.2.2.2.2.2.2.2.2.2.2.2.2.2.2.2.2.2.2.2.2.2.2.2.2.2.1, .int out.2.2.2.2.2.2.2.2.2.2.2.2.2.2.2.2.2.2.2.2.2.2.2.2.2.2.2.1, .int out.2.2.2.2.2.2.2.2.2.2.2.2.2.2.2.2.2.2.2.2.2.2.2.2.2.2.2.2.1, .int out.2.2.2.2.2.2.2.2.2.2.2.2.2.2.2.2.2.2.2.2.2.2.2.2.2.2.2.2.2.1, .int out.2.2.2.2.2.2.2.2.2.2.2.2.2.2.2.2.2.2.2.2.2.2.2.2.2.2.2.2.2.2.1, .long out.2.2.2.2.2.2.2.2.2.2.2.2.2.2.2.2.2.2.2.2.2.2.2.2.2.2.2.2.2.2.2], xB G q_t_tape 900 t_tape, xJ G q_t_names 24 out.2.1, xI G q_t_nameLines 24 out.2.2.1, xI G q_t_nameNumbers 24 out.2.2.2.1, xO q_t_draft 6 [.int out.2.2.2.2.2.2.2.1, .int out.2.2.2.2.2.2.2.2.1, .int out.2.2.2.2.2.2.2.2.2.1, .int out.2.2.2.2.2.2.2.2.2.2.1, .int out.2.2.2.2.2.2.2.2.2.2.2.1, .int out.2.2.2.2.2.2.2.2.2.2.2.2.1, .int out.2.2.2.2.2.2.2.2.2.2.2.2.2.1, .int out.2.2.2.2.2.2.2.2.2.2.2.2.2.2.1, .ref q_t_draft_kind, .ref q_t_draft_wide, .ref q_t_draft_bank, .ref q_t_draft_mud, .ref q_t_draft_ropeAt, .ref q_t_draft_pulls, .ref q_t_draft_bears, .ref q_t_draft_strong, .ref q_t_draft_boatWide, .ref q_t_draft_boatDeep], xI G q_t_draft_kind 6 out.2.2.2.2.2.2.2.2.2.2.2.2.2.2.2.1, xI G q_t_draft_wide 6 out.2.2.2.2.2.2.2.2.2.2.2.2.2.2.2.2.1, xI G q_t_draft_bank 6 out.2.2.2.2.2.2.2.2.2.2.2.2.2.2.2.2.2.1, xI G q_t_draft_mud 6 out.2.2.2.2.2.2.2.2.2.2.2.2.2.2.2.2.2.2.1, xI G q_t_draft_ropeAt 7 out.2.2.2.2.2.2.2.2.2.2.2.2.2.2.2.2.2.2.2.1, xI G q_t_draft_pulls 7 out.2.2.2.2.2.2.2.2.2.2.2.2.2.2.2.2.2.2.2.2.1, xI G q_t_draft_bears 7 out.2.2.2.2.2.2.2.2.2.2.2.2.2.2.2.2.2.2.2.2.2.1, xI G q_t_draft_strong 6 out.2.2.2.2.2.2.2.2.2.2.2.2.2.2.2.2.2.2.2.2.2.2.1, xI G q_t_draft_boatWide 5 out.2.2.2.2.2.2.2.2.2.2.2.2.2.2.2.2.2.2.2.2.2.2.2.1, xI G q_t_draft_boatDeep 5 out.2.2.2.2.2.2.2.2.2.2.2.2.2.2.2.2.2.2.2.2.2.2.2.2.1] A) args s 0 0 A) (F0 m 50 ls []) := by
  obtain ⟨hx, hb, hml, hown, hts, hKN, -⟩ := id X
  intro n
  induction n with
  | zero => intro x2 x3 t_names t_nameLines t_nameNumbers t_fault t_faultPlace t_draft_flow t_draft_tape t_draft_reaches t_draft_ropes t_draft_hands t_draft_boats t_draft_muds t_draft_loose t_draft_kind t_draft_wide t_draft_bank t_draft_mud t_draft_ropeAt t_draft_pulls t_draft_bears t_draft_strong t_draft_boatWide t_draft_boatDeep t_named t_at t_sort t_place t_value t_code H locs ls hm hW hl; exact absurd (show none = some out from hm) (fun h => by cases h)
  | succ n ih =>
    intro x2 x3 t_names t_nameLines t_nameNumbers t_fault t_faultPlace t_draft_flow t_draft_tape t_draft_reaches t_draft_ropes t_draft_hands t_draft_boats t_draft_muds t_draft_loose t_draft_kind t_draft_wide t_draft_bank t_draft_mud t_draft_ropeAt t_draft_pulls t_draft_bears t_draft_strong t_draft_boatWide t_draft_boatDeep t_named t_at t_sort t_place t_value t_code H locs ls hm hW hl
    rw [f_X5_read_L50] at hm
    refine lv_iload_n hx hb dX5_read_50 rfl (lv_at hl 2 rfl) ?_
    refine lv_sipush (v := 900) hx hb dX5_read_51 (by decide) ?_
    refine lv_icmp_ge (tgt := 84) hx hb dX5_read_54 (by decide) (fun c5 => ?_) (fun c5 => ?_)
    · have hm := (if_pos c5).symm.trans hm
      exact hk_84 x2 t_names t_nameLines t_nameNumbers t_fault t_faultPlace t_draft_flow t_draft_tape t_draft_reaches t_draft_ropes t_draft_hands t_draft_boats t_draft_muds t_draft_loose t_draft_kind t_draft_wide t_draft_bank t_draft_mud t_draft_ropeAt t_draft_pulls t_draft_bears t_draft_strong t_draft_boatWide t_draft_boatDeep t_named t_at t_sort t_place t_value t_code _ _ _ hm hW (lv_sub hl [0, 1] rfl)
    · have hm := (if_neg c5).symm.trans hm
      refine lv_iload_n hx hb dX5_read_57 rfl (lv_at hl 1 rfl) ?_
      refine lv_if_eq (tgt := 84) hx hb dX5_read_58 (by decide) (fun c6 => ?_) (fun c6 => ?_)
      · have hm := (if_pos c6).symm.trans hm
        exact hk_84 x2 t_names t_nameLines t_nameNumbers t_fault t_faultPlace t_draft_flow t_draft_tape t_draft_reaches t_draft_ropes t_draft_hands t_draft_boats t_draft_muds t_draft_loose t_draft_kind t_draft_wide t_draft_bank t_draft_mud t_draft_ropeAt t_draft_pulls t_draft_bears t_draft_strong t_draft_boatWide t_draft_boatDeep t_named t_at t_sort t_place t_value t_code _ _ _ hm hW (lv_sub hl [0, 1] rfl)
      · have hm := (if_neg c6).symm.trans hm
        refine lv_aload_n hx hb dX5_read_61 rfl (lv_at hl 0 rfl) ?_
        refine mx_get (C := RX5) (T := TX5) (N := 15) (ci := 5) X hW 0 rfl rfl tbc_X5 11 (by decide) kw_182 rfl dX5_read_62 ?_
        refine lv_iconst (v := 3) hx hb dX5_read_65 (by decide) ?_
        refine lv_icmp_ne (tgt := 84) hx hb dX5_read_66 (by decide) (fun c7 => ?_) (fun c7 => ?_)
        · have hm := (if_neg c7).symm.trans hm
          exact hk_84 x2 t_names t_nameLines t_nameNumbers t_fault t_faultPlace t_draft_flow t_draft_tape t_draft_reaches t_draft_ropes t_draft_hands t_draft_boats t_draft_muds t_draft_loose t_draft_kind t_draft_wide t_draft_bank t_draft_mud t_draft_ropeAt t_draft_pulls t_draft_bears t_draft_strong t_draft_boatWide t_draft_boatDeep t_named t_at t_sort t_place t_value t_code _ _ _ hm hW (lv_sub hl [0, 1] rfl)
        · have hm := (if_pos c7).symm.trans hm
          refine lv_aload_n hx hb dX5_read_69 rfl (lv_at hl 0 rfl) ?_
          obtain ⟨o8, ho8, hm⟩ := bd_s hm
          refine mx_callV (C := RX5) (T := TX5) (N := 15) (ci := 5) (n := 0) (As := []) (rest := []) (st1 := []) (w2 := [xO q_t 5 [.ref q_t_tape, .ref q_t_names, .ref q_t_nameLines, .ref q_t_nameNumbers, .int t_filled, .int t_fault, .int t_faultPlace, .ref q_t_draft, .int t_named, .int t_end, .int o8.1, .int o8.2.1, .int o8.2.2.1, .int o8.2.2.2.1, .long o8.2.2.2.2], xB G q_t_tape 900 t_tape, xJ G q_t_names 24 t_names, xI G q_t_nameLines 24 t_nameLines, xI G q_t_nameNumbers 24 t_nameNumbers, xO q_t_draft 6 [.int t_draft_flow, .int t_draft_tape, .int t_draft_reaches, .int t_draft_ropes, .int t_draft_hands, .int t_draft_boats, .int t_draft_muds, .int t_draft_loose, .ref q_t_draft_kind, .ref q_t_draft_wide, .ref q_t_draft_bank, .ref q_t_draft_mud, .ref q_t_draft_ropeAt, .ref q_t_draft_pulls, .ref q_t_draft_bears, .ref q_t_draft_strong, .ref q_t_draft_boatWide, .ref q_t_draft_boatDeep], xI G q_t_draft_kind 6 t_draft_kind, xI G q_t_draft_wide 6 t_draft_wide, xI G q_t_draft_bank 6 t_draft_bank, xI G q_t_draft_mud 6 t_draft_mud, xI G q_t_draft_ropeAt 7 t_draft_ropeAt, xI G q_t_draft_pulls 7 t_draft_pulls, xI G q_t_draft_bears 7 t_draft_bears, xI G q_t_draft_strong 6 t_draft_strong, xI G q_t_draft_boatWide 5 t_draft_boatWide, xI G q_t_draft_boatDeep 5 t_draft_boatDeep]) X hW hl.1 (c_X5_next l G q_t q_t_tape (.ref q_t_names) (.ref q_t_nameLines) (.ref q_t_nameNumbers) (.int t_filled) (.int t_fault) (.int t_faultPlace) (.ref q_t_draft) (.int t_named) t_tape t_end t_at t_sort t_place t_value t_code o8 ho8) 0 rfl rfl kw_196 kw_197 kw_198 kw_15 kw_199 (by decide +kernel) ⟨rfl, rfl⟩ ⟨by decide, by decide⟩ ⟨Nat.zero_le _, Nat.zero_le _⟩ [0, 1] (by decide) rfl rfl rfl rfl rfl rfl (Nat.le_of_ble_eq_true rfl) rfl dX5_read_70 (fun H locs hW => ?_)
          refine lv_aload_n hx hb dX5_read_73 rfl (lv_at hl 0 rfl) ?_
          obtain ⟨o9, ho9, hm⟩ := bd_s hm
          refine mx_callV (C := RX5) (T := TX5) (N := 15) (ci := 5) (n := 0) (As := []) (rest := []) (st1 := [.int o9.1]) (w2 := [xO q_t 5 [.ref q_t_tape, .ref q_t_names, .ref q_t_nameLines, .ref q_t_nameNumbers, .int t_filled, .int o9.2.2.2.2.1, .int o9.2.2.2.2.2.1, .ref q_t_draft, .int o9.2.2.2.2.2.2.2.2.2.2.2.2.2.2.2.2.2.2.2.2.2.2.2.2.1, .int t_end, .int o9.2.2.2.2.2.2.2.2.2.2.2.2.2.2.2.2.2.2.2.2.2.2.2.2.2.1, .int o9.2.2.2.2.2.2.2.2.2.2.2.2.2.2.2.2.2.2.2.2.2.2.2.2.2.2.1, .int o9.2.2.2.2.2.2.2.2.2.2.2.2.2.2.2.2.2.2.2.2.2.2.2.2.2.2.2.1, .int o9.2.2.2.2.2.2.2.2.2.2.2.2.2.2.2.2.2.2.2.2.2.2.2.2.2.2.2.2.1, .long o9.2.2.2.2.2.2.2.2.2.2.2.2.2.2.2.2.2.2.2.2.2.2.2.2.2.2.2.2.2], xB G q_t_tape 900 t_tape, xJ G q_t_names 24 o9.2.1, xI G q_t_nameLines 24 o9.2.2.1, xI G q_t_nameNumbers 24 o9.2.2.2.1, xO q_t_draft 6 [.int o9.2.2.2.2.2.2.1, .int o9.2.2.2.2.2.2.2.1, .int o9.2.2.2.2.2.2.2.2.1, .int o9.2.2.2.2.2.2.2.2.2.1, .int o9.2.2.2.2.2.2.2.2.2.2.1, .int o9.2.2.2.2.2.2.2.2.2.2.2.1, .int o9.2.2.2.2.2.2.2.2.2.2.2.2.1, .int o9.2.2.2.2.2.2.2.2.2.2.2.2.2.1, .ref q_t_draft_kind, .ref q_t_draft_wide, .ref q_t_draft_bank, .ref q_t_draft_mud, .ref q_t_draft_ropeAt, .ref q_t_draft_pulls, .ref q_t_draft_bears, .ref q_t_draft_strong, .ref q_t_draft_boatWide, .ref q_t_draft_boatDeep], xI G q_t_draft_kind 6 o9.2.2.2.2.2.2.2.2.2.2.2.2.2.2.1, xI G q_t_draft_wide 6 o9.2.2.2.2.2.2.2.2.2.2.2.2.2.2.2.1, xI G q_t_draft_bank 6 o9.2.2.2.2.2.2.2.2.2.2.2.2.2.2.2.2.1, xI G q_t_draft_mud 6 o9.2.2.2.2.2.2.2.2.2.2.2.2.2.2.2.2.2.1, xI G q_t_draft_ropeAt 7 o9.2.2.2.2.2.2.2.2.2.2.2.2.2.2.2.2.2.2.1, xI G q_t_draft_pulls 7 o9.2.2.2.2.2.2.2.2.2.2.2.2.2.2.2.2.2.2.2.1, xI G q_t_draft_bears 7 o9.2.2.2.2.2.2.2.2.2.2.2.2.2.2.2.2.2.2.2.2.1, xI G q_t_draft_strong 6 o9.2.2.2.2.2.2.2.2.2.2.2.2.2.2.2.2.2.2.2.2.2.1, xI G q_t_draft_boatWide 5 o9.2.2.2.2.2.2.2.2.2.2.2.2.2.2.2.2.2.2.2.2.2.2.1, xI G q_t_draft_boatDeep 5 o9.2.2.2.2.2.2.2.2.2.2.2.2.2.2.2.2.2.2.2.2.2.2.2.1]) X hW hl.1 (c_X5_readLine l G q_t q_t_tape q_t_names q_t_nameLines q_t_nameNumbers q_t_draft q_t_draft_kind q_t_draft_wide q_t_draft_bank q_t_draft_mud q_t_draft_ropeAt q_t_draft_pulls q_t_draft_bears q_t_draft_strong q_t_draft_boatWide q_t_draft_boatDeep (.int t_filled) t_tape t_names t_nameLines t_nameNumbers t_fault t_faultPlace t_draft_flow t_draft_tape t_draft_reaches t_draft_ropes t_draft_hands t_draft_boats t_draft_muds t_draft_loose t_draft_kind t_draft_wide t_draft_bank t_draft_mud t_draft_ropeAt t_draft_pulls t_draft_bears t_draft_strong t_draft_boatWide t_draft_boatDeep t_named t_end o8.1 o8.2.1 o8.2.2.1 o8.2.2.2.1 o8.2.2.2.2 o9 ho9) 0 rfl rfl kw_211 kw_212 kw_213 kw_15 kw_214 (by decide +kernel) ⟨rfl, rfl⟩ ⟨by decide, by decide⟩ ⟨Nat.zero_le _, Nat.zero_le _⟩ [0, 1, 2, 3, 4, 5, 6, 7, 8, 9, 10, 11, 12, 13, 14, 15] (by decide) rfl rfl rfl rfl rfl rfl (Nat.le_of_ble_eq_true rfl) rfl dX5_read_74 (fun H locs hW => ?_)
          refine lv_istore_n (lv' := [(2, .int o9.1), (0, .ref q_t), (3, .int x3)]) hx hb dX5_read_77 rfl hl (by decide) rfl (fun ls hl => ?_)
          refine lv_iinc (v := x3 + 1) (lv' := [(3, .int (x3 + 1)), (2, .int o9.1), (0, .ref q_t)]) hx hb dX5_read_78 hl (k := 2) rfl rfl (by decide) rfl (fun ls hl => ?_)
          refine lv_goto (tgt := 50) hx hb dX5_read_81 (by decide) ?_
          exact ih o9.1 (x3 + 1) o9.2.1 o9.2.2.1 o9.2.2.2.1 o9.2.2.2.2.1 o9.2.2.2.2.2.1 o9.2.2.2.2.2.2.1 o9.2.2.2.2.2.2.2.1 o9.2.2.2.2.2.2.2.2.1 o9.2.2.2.2.2.2.2.2.2.1 o9.2.2.2.2.2.2.2.2.2.2.1 o9.2.2.2.2.2.2.2.2.2.2.2.1 o9.2.2.2.2.2.2.2.2.2.2.2.2.1 o9.2.2.2.2.2.2.2.2.2.2.2.2.2.1 o9.2.2.2.2.2.2.2.2.2.2.2.2.2.2.1 o9.2.2.2.2.2.2.2.2.2.2.2.2.2.2.2.1 o9.2.2.2.2.2.2.2.2.2.2.2.2.2.2.2.2.1 o9.2.2.2.2.2.2.2.2.2.2.2.2.2.2.2.2.2.1 o9.2.2.2.2.2.2.2.2.2.2.2.2.2.2.2.2.2.2.1 o9.2.2.2.2.2.2.2.2.2.2.2.2.2.2.2.2.2.2.2.1 o9.2.2.2.2.2.2.2.2.2.2.2.2.2.2.2.2.2.2.2.2.1 o9.2.2.2.2.2.2.2.2.2.2.2.2.2.2.2.2.2.2.2.2.2.1 o9.2.2.2.2.2.2.2.2.2.2.2.2.2.2.2.2.2.2.2.2.2.2.1 o9.2.2.2.2.2.2.2.2.2.2.2.2.2.2.2.2.2.2.2.2.2.2.2.1 o9.2.2.2.2.2.2.2.2.2.2.2.2.2.2.2.2.2.2.2.2.2.2.2.2.1 o9.2.2.2.2.2.2.2.2.2.2.2.2.2.2.2.2.2.2.2.2.2.2.2.2.2.1 o9.2.2.2.2.2.2.2.2.2.2.2.2.2.2.2.2.2.2.2.2.2.2.2.2.2.2.1 o9.2.2.2.2.2.2.2.2.2.2.2.2.2.2.2.2.2.2.2.2.2.2.2.2.2.2.2.1 o9.2.2.2.2.2.2.2.2.2.2.2.2.2.2.2.2.2.2.2.2.2.2.2.2.2.2.2.2.1 o9.2.2.2.2.2.2.2.2.2.2.2.2.2.2.2.2.2.2.2.2.2.2.2.2.2.2.2.2.2 _ _ _ hm hW (lv_sub hl [2, 1, 0] rfl)
set_option maxHeartbeats 4000000 in
set_option maxRecDepth 100000 in
theorem w_X5_read_B84 {p : Program} {l : Launch} {e : Env} {s : State} {m : MethodId} {args : Array Value} {below : List Frame} {meth : Method} {c : Code} {A : Nat → Prop} {G : mx_G} (X : mx_X p s m args meth c RX5 "read" cX5_read 4 (some .boolean) G) (q_t : Nat) (q_t_tape : Nat) (q_t_names : Nat) (q_t_nameLines : Nat) (q_t_nameNumbers : Nat) (q_t_draft : Nat) (q_t_draft_kind : Nat) (q_t_draft_wide : Nat) (q_t_draft_bank : Nat) (q_t_draft_mud : Nat) (q_t_draft_ropeAt : Nat) (q_t_draft_pulls : Nat) (q_t_draft_bears : Nat) (q_t_draft_strong : Nat) (q_t_draft_boatWide : Nat) (q_t_draft_boatDeep : Nat) (t_tape : Nat → Int32) (out : Int32 × (Nat → Int64) × (Nat → Int32) × (Nat → Int32) × Int32 × Int32 × Int32 × Int32 × Int32 × Int32 × Int32 × Int32 × Int32 × Int32 × Int32 × (Nat → Int32) × (Nat → Int32) × (Nat → Int32) × (Nat → Int32) × (Nat → Int32) × (Nat → Int32) × (Nat → Int32) × (Nat → Int32) × (Nat → Int32) × (Nat → Int32) × Int32 × Int32 × Int32 × Int32 × Int32 × Int32 × Int64)   : ∀ (x2 : Int32) (t_names : Nat → Int64) (t_nameLines : Nat → Int32) (t_nameNumbers : Nat → Int32) (t_filled : Int32) (t_fault : Int32) (t_faultPlace : Int32) (t_draft_flow : Int32) (t_draft_tape : Int32) (t_draft_reaches : Int32) (t_draft_ropes : Int32) (t_draft_hands : Int32) (t_draft_boats : Int32) (t_draft_muds : Int32) (t_draft_loose : Int32) (t_draft_kind : Nat → Int32) (t_draft_wide : Nat → Int32) (t_draft_bank : Nat → Int32) (t_draft_mud : Nat → Int32) (t_draft_ropeAt : Nat → Int32) (t_draft_pulls : Nat → Int32) (t_draft_bears : Nat → Int32) (t_draft_strong : Nat → Int32) (t_draft_boatWide : Nat → Int32) (t_draft_boatDeep : Nat → Int32) (t_named : Int32) (t_end : Int32) (t_at : Int32) (t_sort : Int32) (t_place : Int32) (t_value : Int32) (t_code : Int64) (H : Heap) (locs : List Loc) (ls : Array Slot), f_X5_read_B84  x2 t_names t_nameLines t_nameNumbers t_filled t_fault t_faultPlace t_draft_flow t_draft_tape t_draft_reaches t_draft_ropes t_draft_hands t_draft_boats t_draft_muds t_draft_loose t_draft_kind t_draft_wide t_draft_bank t_draft_mud t_draft_ropeAt t_draft_pulls t_draft_bears t_draft_strong t_draft_boatWide t_draft_boatDeep t_named t_end t_at t_sort t_place t_value t_code = some out → mx_W G s A [xO q_t 5 [.ref q_t_tape, .ref q_t_names, .ref q_t_nameLines, .ref q_t_nameNumbers, .int t_filled, .int t_fault, .int t_faultPlace, .ref q_t_draft, .int t_named, .int t_end, .int t_at, .int t_sort, .int t_place, .int t_value, .long t_code], xB G q_t_tape 900 t_tape, xJ G q_t_names 24 t_names, xI G q_t_nameLines 24 t_nameLines, xI G q_t_nameNumbers 24 t_nameNumbers, xO q_t_draft 6 [.int t_draft_flow, .int t_draft_tape, .int t_draft_reaches, .int t_draft_ropes, .int t_draft_hands, .int t_draft_boats, .int t_draft_muds, .int t_draft_loose, .ref q_t_draft_kind, .ref q_t_draft_wide, .ref q_t_draft_bank, .ref q_t_draft_mud, .ref q_t_draft_ropeAt, .ref q_t_draft_pulls, .ref q_t_draft_bears, .ref q_t_draft_strong, .ref q_t_draft_boatWide, .ref q_t_draft_boatDeep], xI G q_t_draft_kind 6 t_draft_kind, xI G q_t_draft_wide 6 t_draft_wide, xI G q_t_draft_bank 6 t_draft_bank, xI G q_t_draft_mud 6 t_draft_mud, xI G q_t_draft_ropeAt 7 t_draft_ropeAt, xI G q_t_draft_pulls 7 t_draft_pulls, xI G q_t_draft_bears 7 t_draft_bears, xI G q_t_draft_strong 6 t_draft_strong, xI G q_t_draft_boatWide 5 t_draft_boatWide, xI G q_t_draft_boatDeep 5 t_draft_boatDeep] H locs → lv_has ls 4 [(0, .ref q_t), (2, .int x2)] → W p l e rm_X5_read s m args below meth c H locs 0 0 (MQ below (mx_Q G (some (.int out.1)) [xO q_t 5 [.ref q_t_tape, .ref q_t_names, .ref q_t_nameLines, .ref q_t_nameNumbers, .int out.2.2.2.2.1, .int out.2.2.2.2.2.1, .int out.2.2.2.2.2.2.1, .ref q_t_draft, .int out.2.2.2.2.2.2.2.2.2.2.2.2.2.2.2.2.2.2.2.2.2.2.2.2.2.1, .int out.2.2.2.2.2.2.2.2.2.2.2.2.2.2.2.2.2.2.2.2.2.2.2.2.2.2.1, .int out.2.2.2.2.2.2.2.2.2.2.2.2.2.2.2.2.2.2.2.2.2.2.2.2.2.2.2.1, .int out.2.2.2.2.2.2.2.2.2.2.2.2.2.2.2.2.2.2.2.2.2.2.2.2.2.2.2.2.1, .int out.2.2.2.2.2.2.2.2.2.2.2.2.2.2.2.2.2.2.2.2.2.2.2.2.2.2.2.2.2.1, .int out.2.2.2.2.2.2.2.2.2.2.2.2.2.2.2.2.2.2.2.2.2.2.2.2.2.2.2.2.2.2.1, .long out.2.2.2.2.2.2.2.2.2.2.2.2.2.2.2.2.2.2.2.2.2.2.2.2.2.2.2.2.2.2.2], xB G q_t_tape 900 t_tape, xJ G q_t_names 24 out.2.1, xI G q_t_nameLines 24 out.2.2.1, xI G q_t_nameNumbers 24 out.2.2.2.1, xO q_t_draft 6 [.int out.2.2.2.2.2.2.2.1, .int out.2.2.2.2.2.2.2.2.1, .int out.2.2.2.2.2.2.2.2.2.1, .int out.2.2.2.2.2.2.2.2.2.2.1, .int out.2.2.2.2.2.2.2.2.2.2.2.1, .int out.2.2.2.2.2.2.2.2.2.2.2.2.1, .int out.2.2.2.2.2.2.2.2.2.2.2.2.2.1, .int out.2.2.2.2.2.2.2.2.2.2.2.2.2.2.1, .ref q_t_draft_kind, .ref q_t_draft_wide, .ref q_t_draft_bank, .ref q_t_draft_mud, .ref q_t_draft_ropeAt, .ref q_t_draft_pulls, .ref q_t_draft_bears, .ref q_t_draft_strong, .ref q_t_draft_boatWide, .ref q_t_draft_boatDeep], xI G q_t_draft_kind 6 out.2.2.2.2.2.2.2.2.2.2.2.2.2.2.2.1, xI G q_t_draft_wide 6 out.2.2.2.2.2.2.2.2.2.2.2.2.2.2.2.2.1, xI G q_t_draft_bank 6 out.2.2.2.2.2.2.2.2.2.2.2.2.2.2.2.2.2.1, xI G q_t_draft_mud 6 out.2.2.2.2.2.2.2.2.2.2.2.2.2.2.2.2.2.2.1, xI G q_t_draft_ropeAt 7 out.2.2.2.2.2.2.2.2.2.2.2.2.2.2.2.2.2.2.2.1, xI G q_t_draft_pulls 7 out.2.2.2.2.2.2.2.2.2.2.2.2.2.2.2.2.2.2.2.2.1, xI G q_t_draft_bears 7 out.2.2.2.2.2.2.2.2.2.2.2.2.2.2.2.2.2.2.2.2.2.1, xI G q_t_draft_strong 6 out.2.2.2.2.2.2.2.2.2.2.2.2.2.2.2.2.2.2.2.2.2.2.1, xI G q_t_draft_boatWide 5 out.2.2.2.2.2.2.2.2.2.2.2.2.2.2.2.2.2.2.2.2.2.2.2.1, xI G q_t_draft_boatDeep 5 out.2.2.2.2.2.2.2.2.2.2.2.2.2.2.2.2.2.2.2.2.2.2.2.2.1] A) args s 0 0 A) (F0 m 84 ls []) := by
  obtain ⟨hx, hb, hml, hown, hts, hKN, -⟩ := id X
  intro x2 t_names t_nameLines t_nameNumbers t_filled t_fault t_faultPlace t_draft_flow t_draft_tape t_draft_reaches t_draft_ropes t_draft_hands t_draft_boats t_draft_muds t_draft_loose t_draft_kind t_draft_wide t_draft_bank t_draft_mud t_draft_ropeAt t_draft_pulls t_draft_bears t_draft_strong t_draft_boatWide t_draft_boatDeep t_named t_end t_at t_sort t_place t_value t_code H locs ls hm hW hl
  unfold f_X5_read_B84 at hm
  refine lv_iload_n hx hb dX5_read_84 rfl (lv_at hl 1 rfl) ?_
  refine lv_if_ne (tgt := 90) hx hb dX5_read_85 (by decide) (fun c10 => ?_) (fun c10 => ?_)
  · have hm := (if_neg c10).symm.trans hm
    refine lv_aload_n hx hb dX5_read_90 rfl (lv_at hl 0 rfl) ?_
    refine mx_get (C := RX5) (T := TX5) (N := 15) (ci := 5) X hW 0 rfl rfl tbc_X5 11 (by decide) kw_182 rfl dX5_read_91 ?_
    refine lv_if_eq (tgt := 103) hx hb dX5_read_94 (by decide) (fun c11 => ?_) (fun c11 => ?_)
    · have hm := (if_pos c11).symm.trans hm
      refine lv_aload_n hx hb dX5_read_103 rfl (lv_at hl 0 rfl) ?_
      refine mx_get (C := RX5) (T := TX5) (N := 15) (ci := 5) X hW 0 rfl rfl tbc_X5 7 (by decide) kw_64 rfl dX5_read_104 ?_
      refine mx_get (C := RX6) (T := TX6) (N := 18) (ci := 6) X hW 5 rfl rfl tbc_X6 2 (by decide) kw_183 rfl dX5_read_107 ?_
      refine lv_if_gt (tgt := 122) hx hb dX5_read_110 (by decide) (fun c12 => ?_) (fun c12 => ?_)
      · have hm := (if_pos c12).symm.trans hm
        refine lv_iconst (v := 1) hx hb dX5_read_122 (by decide) ?_
        refine lv_goto (tgt := 127) hx hb dX5_read_123 (by decide) ?_
        obtain rfl := Option.some.inj hm
        exact mx_zret X nb1 hW dX5_read_127
      · have hm := (if_neg c12).symm.trans hm
        refine lv_aload_n hx hb dX5_read_113 rfl (lv_at hl 0 rfl) ?_
        refine lv_bipush (v := 6) hx hb dX5_read_114 (by decide) ?_
        obtain ⟨o13, ho13, hm⟩ := bd_s hm
        refine mx_callV (C := RX5) (T := TX5) (N := 15) (ci := 5) (n := 1) (As := [.int 6]) (rest := []) (st1 := [.int o13.1]) (w2 := [xO q_t 5 [.ref q_t_tape, .ref q_t_names, .ref q_t_nameLines, .ref q_t_nameNumbers, .int t_filled, .int o13.2.1, .int o13.2.2, .ref q_t_draft, .int t_named, .int t_end, .int t_at, .int t_sort, .int t_place, .int t_value, .long t_code], xB G q_t_tape 900 t_tape, xJ G q_t_names 24 t_names, xI G q_t_nameLines 24 t_nameLines, xI G q_t_nameNumbers 24 t_nameNumbers, xO q_t_draft 6 [.int t_draft_flow, .int t_draft_tape, .int t_draft_reaches, .int t_draft_ropes, .int t_draft_hands, .int t_draft_boats, .int t_draft_muds, .int t_draft_loose, .ref q_t_draft_kind, .ref q_t_draft_wide, .ref q_t_draft_bank, .ref q_t_draft_mud, .ref q_t_draft_ropeAt, .ref q_t_draft_pulls, .ref q_t_draft_bears, .ref q_t_draft_strong, .ref q_t_draft_boatWide, .ref q_t_draft_boatDeep], xI G q_t_draft_kind 6 t_draft_kind, xI G q_t_draft_wide 6 t_draft_wide, xI G q_t_draft_bank 6 t_draft_bank, xI G q_t_draft_mud 6 t_draft_mud, xI G q_t_draft_ropeAt 7 t_draft_ropeAt, xI G q_t_draft_pulls 7 t_draft_pulls, xI G q_t_draft_bears 7 t_draft_bears, xI G q_t_draft_strong 6 t_draft_strong, xI G q_t_draft_boatWide 5 t_draft_boatWide, xI G q_t_draft_boatDeep 5 t_draft_boatDeep]) X hW hl.1 (c_X5_fail l G q_t (.ref q_t_tape) (.ref q_t_names) (.ref q_t_nameLines) (.ref q_t_nameNumbers) (.int t_filled) (.ref q_t_draft) (.int t_named) (.int t_end) (.int t_at) (.int t_sort) (.int t_value) (.long t_code) t_fault t_faultPlace t_place 6 o13 ho13) 0 rfl rfl kw_227 kw_228 kw_229 kw_15 kw_230 (by decide +kernel) ⟨rfl, rfl⟩ ⟨by decide, by decide⟩ ⟨Nat.zero_le _, Nat.zero_le _⟩ [0] (by decide) rfl rfl rfl rfl rfl rfl (Nat.le_of_ble_eq_true rfl) rfl dX5_read_116 (fun H locs hW => ?_)
        refine lv_if_eq (tgt := 126) hx hb dX5_read_119 (by decide) (fun c14 => ?_) (fun c14 => ?_)
        · have hm := (if_pos c14).symm.trans hm
          refine lv_iconst (v := 0) hx hb dX5_read_126 (by decide) ?_
          obtain rfl := Option.some.inj hm
          exact mx_zret X nb0 hW dX5_read_127
        · have hm := (if_neg c14).symm.trans hm
          refine lv_iconst (v := 1) hx hb dX5_read_122 (by decide) ?_
          refine lv_goto (tgt := 127) hx hb dX5_read_123 (by decide) ?_
          obtain rfl := Option.some.inj hm
          exact mx_zret X nb1 hW dX5_read_127
    · have hm := (if_neg c11).symm.trans hm
      refine lv_aload_n hx hb dX5_read_97 rfl (lv_at hl 0 rfl) ?_
      refine lv_iconst (v := 1) hx hb dX5_read_98 (by decide) ?_
      obtain ⟨o15, ho15, hm⟩ := bd_s hm
      refine mx_callV (C := RX5) (T := TX5) (N := 15) (ci := 5) (n := 1) (As := [.int 1]) (rest := []) (st1 := [.int o15.1]) (w2 := [xO q_t 5 [.ref q_t_tape, .ref q_t_names, .ref q_t_nameLines, .ref q_t_nameNumbers, .int t_filled, .int o15.2.1, .int o15.2.2, .ref q_t_draft, .int t_named, .int t_end, .int t_at, .int t_sort, .int t_place, .int t_value, .long t_code], xB G q_t_tape 900 t_tape, xJ G q_t_names 24 t_names, xI G q_t_nameLines 24 t_nameLines, xI G q_t_nameNumbers 24 t_nameNumbers, xO q_t_draft 6 [.int t_draft_flow, .int t_draft_tape, .int t_draft_reaches, .int t_draft_ropes, .int t_draft_hands, .int t_draft_boats, .int t_draft_muds, .int t_draft_loose, .ref q_t_draft_kind, .ref q_t_draft_wide, .ref q_t_draft_bank, .ref q_t_draft_mud, .ref q_t_draft_ropeAt, .ref q_t_draft_pulls, .ref q_t_draft_bears, .ref q_t_draft_strong, .ref q_t_draft_boatWide, .ref q_t_draft_boatDeep], xI G q_t_draft_kind 6 t_draft_kind, xI G q_t_draft_wide 6 t_draft_wide, xI G q_t_draft_bank 6 t_draft_bank, xI G q_t_draft_mud 6 t_draft_mud, xI G q_t_draft_ropeAt 7 t_draft_ropeAt, xI G q_t_draft_pulls 7 t_draft_pulls, xI G q_t_draft_bears 7 t_draft_bears, xI G q_t_draft_strong 6 t_draft_strong, xI G q_t_draft_boatWide 5 t_draft_boatWide, xI G q_t_draft_boatDeep 5 t_draft_boatDeep]) X hW hl.1 (c_X5_fail l G q_t (.ref q_t_tape) (.ref q_t_names) (.ref q_t_nameLines) (.ref q_t_nameNumbers) (.int t_filled) (.ref q_t_draft) (.int t_named) (.int t_end) (.int t_at) (.int t_sort) (.int t_value) (.long t_code) t_fault t_faultPlace t_place 1 o15 ho15) 0 rfl rfl kw_227 kw_228 kw_229 kw_15 kw_230 (by decide +kernel) ⟨rfl, rfl⟩ ⟨by decide, by decide⟩ ⟨Nat.zero_le _, Nat.zero_le _⟩ [0] (by decide) rfl rfl rfl rfl rfl rfl (Nat.le_of_ble_eq_true rfl) rfl dX5_read_99 (fun H locs hW => ?_)
      obtain ⟨hg16, hm⟩ := gd_s hm
      obtain rfl := Option.some.inj hm
      exact mx_zret X (nbl_s hg16) hW dX5_read_102
  · have hm := (if_pos c10).symm.trans hm
    refine lv_iconst (v := 0) hx hb dX5_read_88 (by decide) ?_
    obtain rfl := Option.some.inj hm
    exact mx_zret X nb0 hW dX5_read_89
set_option maxHeartbeats 4000000 in
set_option maxRecDepth 100000 in
theorem c_X5_read (l : Launch) (G : mx_G) (q_t : Nat) (q_t_tape : Nat) (q_t_names : Nat) (q_t_nameLines : Nat) (q_t_nameNumbers : Nat) (q_t_draft : Nat) (q_t_draft_kind : Nat) (q_t_draft_wide : Nat) (q_t_draft_bank : Nat) (q_t_draft_mud : Nat) (q_t_draft_ropeAt : Nat) (q_t_draft_pulls : Nat) (q_t_draft_bears : Nat) (q_t_draft_strong : Nat) (q_t_draft_boatWide : Nat) (q_t_draft_boatDeep : Nat) (t_tape : Nat → Int32) (t_names : Nat → Int64) (t_nameLines : Nat → Int32) (t_nameNumbers : Nat → Int32) (t_filled : Int32) (t_fault : Int32) (t_faultPlace : Int32) (t_draft_flow : Int32) (t_draft_tape : Int32) (t_draft_reaches : Int32) (t_draft_ropes : Int32) (t_draft_hands : Int32) (t_draft_boats : Int32) (t_draft_muds : Int32) (t_draft_loose : Int32) (t_draft_kind : Nat → Int32) (t_draft_wide : Nat → Int32) (t_draft_bank : Nat → Int32) (t_draft_mud : Nat → Int32) (t_draft_ropeAt : Nat → Int32) (t_draft_pulls : Nat → Int32) (t_draft_bears : Nat → Int32) (t_draft_strong : Nat → Int32) (t_draft_boatWide : Nat → Int32) (t_draft_boatDeep : Nat → Int32) (t_named : Int32) (t_end : Int32) (t_at : Int32) (t_sort : Int32) (t_place : Int32) (t_value : Int32) (t_code : Int64) (p1 : Int32) (out : Int32 × (Nat → Int64) × (Nat → Int32) × (Nat → Int32) × Int32 × Int32 × Int32 × Int32 × Int32 × Int32 × Int32 × Int32 × Int32 × Int32 × Int32 × (Nat → Int32) × (Nat → Int32) × (Nat → Int32) × (Nat → Int32) × (Nat → Int32) × (Nat → Int32) × (Nat → Int32) × (Nat → Int32) × (Nat → Int32) × (Nat → Int32) × Int32 × Int32 × Int32 × Int32 × Int32 × Int32 × Int64) (hm : f_X5_read p1 t_tape t_names t_nameLines t_nameNumbers t_filled t_fault t_faultPlace t_draft_flow t_draft_tape t_draft_reaches t_draft_ropes t_draft_hands t_draft_boats t_draft_muds t_draft_loose t_draft_kind t_draft_wide t_draft_bank t_draft_mud t_draft_ropeAt t_draft_pulls t_draft_bears t_draft_strong t_draft_boatWide t_draft_boatDeep t_named t_end t_at t_sort t_place t_value t_code = some out) : mx_C l yX5_read cX5_read 4 (some .boolean) rm_X5_read G [.ref q_t, .int p1] [xO q_t 5 [.ref q_t_tape, .ref q_t_names, .ref q_t_nameLines, .ref q_t_nameNumbers, .int t_filled, .int t_fault, .int t_faultPlace, .ref q_t_draft, .int t_named, .int t_end, .int t_at, .int t_sort, .int t_place, .int t_value, .long t_code], xB G q_t_tape 900 t_tape, xJ G q_t_names 24 t_names, xI G q_t_nameLines 24 t_nameLines, xI G q_t_nameNumbers 24 t_nameNumbers, xO q_t_draft 6 [.int t_draft_flow, .int t_draft_tape, .int t_draft_reaches, .int t_draft_ropes, .int t_draft_hands, .int t_draft_boats, .int t_draft_muds, .int t_draft_loose, .ref q_t_draft_kind, .ref q_t_draft_wide, .ref q_t_draft_bank, .ref q_t_draft_mud, .ref q_t_draft_ropeAt, .ref q_t_draft_pulls, .ref q_t_draft_bears, .ref q_t_draft_strong, .ref q_t_draft_boatWide, .ref q_t_draft_boatDeep], xI G q_t_draft_kind 6 t_draft_kind, xI G q_t_draft_wide 6 t_draft_wide, xI G q_t_draft_bank 6 t_draft_bank, xI G q_t_draft_mud 6 t_draft_mud, xI G q_t_draft_ropeAt 7 t_draft_ropeAt, xI G q_t_draft_pulls 7 t_draft_pulls, xI G q_t_draft_bears 7 t_draft_bears, xI G q_t_draft_strong 6 t_draft_strong, xI G q_t_draft_boatWide 5 t_draft_boatWide, xI G q_t_draft_boatDeep 5 t_draft_boatDeep] (some (.int out.1)) [xO q_t 5 [.ref q_t_tape, .ref q_t_names, .ref q_t_nameLines, .ref q_t_nameNumbers, .int out.2.2.2.2.1, .int out.2.2.2.2.2.1, .int out.2.2.2.2.2.2.1, .ref q_t_draft, .int out.2.2.2.2.2.2.2.2.2.2.2.2.2.2.2.2.2.2.2.2.2.2.2.2.2.1, .int out.2.2.2.2.2.2.2.2.2.2.2.2.2.2.2.2.2.2.2.2.2.2.2.2.2.2.1, .int out.2.2.2.2.2.2.2.2.2.2.2.2.2.2.2.2.2.2.2.2.2.2.2.2.2.2.2.1, .int out.2.2.2.2.2.2.2.2.2.2.2.2.2.2.2.2.2.2.2.2.2.2.2.2.2.2.2.2.1, .int out.2.2.2.2.2.2.2.2.2.2.2.2.2.2.2.2.2.2.2.2.2.2.2.2.2.2.2.2.2.1, .int out.2.2.2.2.2.2.2.2.2.2.2.2.2.2.2.2.2.2.2.2.2.2.2.2.2.2.2.2.2.2.1, .long out.2.2.2.2.2.2.2.2.2.2.2.2.2.2.2.2.2.2.2.2.2.2.2.2.2.2.2.2.2.2.2], xB G q_t_tape 900 t_tape, xJ G q_t_names 24 out.2.1, xI G q_t_nameLines 24 out.2.2.1, xI G q_t_nameNumbers 24 out.2.2.2.1, xO q_t_draft 6 [.int out.2.2.2.2.2.2.2.1, .int out.2.2.2.2.2.2.2.2.1, .int out.2.2.2.2.2.2.2.2.2.1, .int out.2.2.2.2.2.2.2.2.2.2.1, .int out.2.2.2.2.2.2.2.2.2.2.2.1, .int out.2.2.2.2.2.2.2.2.2.2.2.2.1, .int out.2.2.2.2.2.2.2.2.2.2.2.2.2.1, .int out.2.2.2.2.2.2.2.2.2.2.2.2.2.2.1, .ref q_t_draft_kind, .ref q_t_draft_wide, .ref q_t_draft_bank, .ref q_t_draft_mud, .ref q_t_draft_ropeAt, .ref q_t_draft_pulls, .ref q_t_draft_bears, .ref q_t_draft_strong, .ref q_t_draft_boatWide, .ref q_t_draft_boatDeep], xI G q_t_draft_kind 6 out.2.2.2.2.2.2.2.2.2.2.2.2.2.2.2.1, xI G q_t_draft_wide 6 out.2.2.2.2.2.2.2.2.2.2.2.2.2.2.2.2.1, xI G q_t_draft_bank 6 out.2.2.2.2.2.2.2.2.2.2.2.2.2.2.2.2.2.1, xI G q_t_draft_mud 6 out.2.2.2.2.2.2.2.2.2.2.2.2.2.2.2.2.2.2.1, xI G q_t_draft_ropeAt 7 out.2.2.2.2.2.2.2.2.2.2.2.2.2.2.2.2.2.2.2.1, xI G q_t_draft_pulls 7 out.2.2.2.2.2.2.2.2.2.2.2.2.2.2.2.2.2.2.2.2.1, xI G q_t_draft_bears 7 out.2.2.2.2.2.2.2.2.2.2.2.2.2.2.2.2.2.2.2.2.2.1, xI G q_t_draft_strong 6 out.2.2.2.2.2.2.2.2.2.2.2.2.2.2.2.2.2.2.2.2.2.2.1, xI G q_t_draft_boatWide 5 out.2.2.2.2.2.2.2.2.2.2.2.2.2.2.2.2.2.2.2.2.2.2.2.1, xI G q_t_draft_boatDeep 5 out.2.2.2.2.2.2.2.2.2.2.2.2.2.2.2.2.2.2.2.2.2.2.2.2.1] := by
  refine mx_enter (own := RX5) (name := "read") (lv := [(0, .ref q_t), (1, .int p1)]) (by decide) rfl rfl (Nat.le_of_ble_eq_true rfl) rfl ?_
  intro p e s m args below meth c A ls X hW hl
  obtain ⟨hx, hb, hml, hown, hts, hKN, -⟩ := id X
  unfold f_X5_read at hm
  refine lv_aload_n hx hb dX5_read_0 rfl (lv_at hl 0 rfl) ?_
  refine lv_iload_n hx hb dX5_read_1 rfl (lv_at hl 1 rfl) ?_
  refine lv_aload_n hx hb dX5_read_2 rfl (lv_at hl 0 rfl) ?_
  refine mx_get (C := RX5) (T := TX5) (N := 15) (ci := 5) X hW 0 rfl rfl tbc_X5 4 (by decide) kw_154 rfl dX5_read_3 ?_
  refine mx_min X hl.1 kw_174 ⟨by decide, Nat.le_of_ble_eq_true rfl⟩ ⟨Nat.zero_le _, Nat.zero_le _⟩ dX5_read_6 ?_
  refine lv_topi (fun z1 ez1 => ?_)
  have hm := nm_s ez1 hm
  refine mx_put (C := RX5) (T := TX5) (N := 15) (ci := 5) (w2 := [xO q_t 5 [.ref q_t_tape, .ref q_t_names, .ref q_t_nameLines, .ref q_t_nameNumbers, .int t_filled, .int t_fault, .int t_faultPlace, .ref q_t_draft, .int t_named, .int z1, .int t_at, .int t_sort, .int t_place, .int t_value, .long t_code], xB G q_t_tape 900 t_tape, xJ G q_t_names 24 t_names, xI G q_t_nameLines 24 t_nameLines, xI G q_t_nameNumbers 24 t_nameNumbers, xO q_t_draft 6 [.int t_draft_flow, .int t_draft_tape, .int t_draft_reaches, .int t_draft_ropes, .int t_draft_hands, .int t_draft_boats, .int t_draft_muds, .int t_draft_loose, .ref q_t_draft_kind, .ref q_t_draft_wide, .ref q_t_draft_bank, .ref q_t_draft_mud, .ref q_t_draft_ropeAt, .ref q_t_draft_pulls, .ref q_t_draft_bears, .ref q_t_draft_strong, .ref q_t_draft_boatWide, .ref q_t_draft_boatDeep], xI G q_t_draft_kind 6 t_draft_kind, xI G q_t_draft_wide 6 t_draft_wide, xI G q_t_draft_bank 6 t_draft_bank, xI G q_t_draft_mud 6 t_draft_mud, xI G q_t_draft_ropeAt 7 t_draft_ropeAt, xI G q_t_draft_pulls 7 t_draft_pulls, xI G q_t_draft_bears 7 t_draft_bears, xI G q_t_draft_strong 6 t_draft_strong, xI G q_t_draft_boatWide 5 t_draft_boatWide, xI G q_t_draft_boatDeep 5 t_draft_boatDeep]) X hW 0 rfl rfl tbc_X5 tyX5 tyX5_ok nmX5 9 (by decide) kw_178 rfl rfl rfl rfl (Nat.le_of_ble_eq_true rfl) rfl dX5_read_9 (fun H locs hW => ?_)
  refine lv_aload_n hx hb dX5_read_12 rfl (lv_at hl 0 rfl) ?_
  refine lv_iconst (v := 0) hx hb dX5_read_13 (by decide) ?_
  refine mx_put (C := RX5) (T := TX5) (N := 15) (ci := 5) (w2 := [xO q_t 5 [.ref q_t_tape, .ref q_t_names, .ref q_t_nameLines, .ref q_t_nameNumbers, .int 0, .int t_fault, .int t_faultPlace, .ref q_t_draft, .int t_named, .int z1, .int t_at, .int t_sort, .int t_place, .int t_value, .long t_code], xB G q_t_tape 900 t_tape, xJ G q_t_names 24 t_names, xI G q_t_nameLines 24 t_nameLines, xI G q_t_nameNumbers 24 t_nameNumbers, xO q_t_draft 6 [.int t_draft_flow, .int t_draft_tape, .int t_draft_reaches, .int t_draft_ropes, .int t_draft_hands, .int t_draft_boats, .int t_draft_muds, .int t_draft_loose, .ref q_t_draft_kind, .ref q_t_draft_wide, .ref q_t_draft_bank, .ref q_t_draft_mud, .ref q_t_draft_ropeAt, .ref q_t_draft_pulls, .ref q_t_draft_bears, .ref q_t_draft_strong, .ref q_t_draft_boatWide, .ref q_t_draft_boatDeep], xI G q_t_draft_kind 6 t_draft_kind, xI G q_t_draft_wide 6 t_draft_wide, xI G q_t_draft_bank 6 t_draft_bank, xI G q_t_draft_mud 6 t_draft_mud, xI G q_t_draft_ropeAt 7 t_draft_ropeAt, xI G q_t_draft_pulls 7 t_draft_pulls, xI G q_t_draft_bears 7 t_draft_bears, xI G q_t_draft_strong 6 t_draft_strong, xI G q_t_draft_boatWide 5 t_draft_boatWide, xI G q_t_draft_boatDeep 5 t_draft_boatDeep]) X hW 0 rfl rfl tbc_X5 tyX5 tyX5_ok nmX5 4 (by decide) kw_154 rfl rfl rfl rfl (Nat.le_of_ble_eq_true rfl) rfl dX5_read_14 (fun H locs hW => ?_)
  refine lv_aload_n hx hb dX5_read_17 rfl (lv_at hl 0 rfl) ?_
  refine lv_iconst (v := 0) hx hb dX5_read_18 (by decide) ?_
  refine mx_put (C := RX5) (T := TX5) (N := 15) (ci := 5) (w2 := [xO q_t 5 [.ref q_t_tape, .ref q_t_names, .ref q_t_nameLines, .ref q_t_nameNumbers, .int 0, .int t_fault, .int t_faultPlace, .ref q_t_draft, .int t_named, .int z1, .int 0, .int t_sort, .int t_place, .int t_value, .long t_code], xB G q_t_tape 900 t_tape, xJ G q_t_names 24 t_names, xI G q_t_nameLines 24 t_nameLines, xI G q_t_nameNumbers 24 t_nameNumbers, xO q_t_draft 6 [.int t_draft_flow, .int t_draft_tape, .int t_draft_reaches, .int t_draft_ropes, .int t_draft_hands, .int t_draft_boats, .int t_draft_muds, .int t_draft_loose, .ref q_t_draft_kind, .ref q_t_draft_wide, .ref q_t_draft_bank, .ref q_t_draft_mud, .ref q_t_draft_ropeAt, .ref q_t_draft_pulls, .ref q_t_draft_bears, .ref q_t_draft_strong, .ref q_t_draft_boatWide, .ref q_t_draft_boatDeep], xI G q_t_draft_kind 6 t_draft_kind, xI G q_t_draft_wide 6 t_draft_wide, xI G q_t_draft_bank 6 t_draft_bank, xI G q_t_draft_mud 6 t_draft_mud, xI G q_t_draft_ropeAt 7 t_draft_ropeAt, xI G q_t_draft_pulls 7 t_draft_pulls, xI G q_t_draft_bears 7 t_draft_bears, xI G q_t_draft_strong 6 t_draft_strong, xI G q_t_draft_boatWide 5 t_draft_boatWide, xI G q_t_draft_boatDeep 5 t_draft_boatDeep]) X hW 0 rfl rfl tbc_X5 tyX5 tyX5_ok nmX5 10 (by decide) kw_179 rfl rfl rfl rfl (Nat.le_of_ble_eq_true rfl) rfl dX5_read_19 (fun H locs hW => ?_)
  refine lv_aload_n hx hb dX5_read_22 rfl (lv_at hl 0 rfl) ?_
  refine lv_iconst (v := 0) hx hb dX5_read_23 (by decide) ?_
  refine mx_put (C := RX5) (T := TX5) (N := 15) (ci := 5) (w2 := [xO q_t 5 [.ref q_t_tape, .ref q_t_names, .ref q_t_nameLines, .ref q_t_nameNumbers, .int 0, .int 0, .int t_faultPlace, .ref q_t_draft, .int t_named, .int z1, .int 0, .int t_sort, .int t_place, .int t_value, .long t_code], xB G q_t_tape 900 t_tape, xJ G q_t_names 24 t_names, xI G q_t_nameLines 24 t_nameLines, xI G q_t_nameNumbers 24 t_nameNumbers, xO q_t_draft 6 [.int t_draft_flow, .int t_draft_tape, .int t_draft_reaches, .int t_draft_ropes, .int t_draft_hands, .int t_draft_boats, .int t_draft_muds, .int t_draft_loose, .ref q_t_draft_kind, .ref q_t_draft_wide, .ref q_t_draft_bank, .ref q_t_draft_mud, .ref q_t_draft_ropeAt, .ref q_t_draft_pulls, .ref q_t_draft_bears, .ref q_t_draft_strong, .ref q_t_draft_boatWide, .ref q_t_draft_boatDeep], xI G q_t_draft_kind 6 t_draft_kind, xI G q_t_draft_wide 6 t_draft_wide, xI G q_t_draft_bank 6 t_draft_bank, xI G q_t_draft_mud 6 t_draft_mud, xI G q_t_draft_ropeAt 7 t_draft_ropeAt, xI G q_t_draft_pulls 7 t_draft_pulls, xI G q_t_draft_bears 7 t_draft_bears, xI G q_t_draft_strong 6 t_draft_strong, xI G q_t_draft_boatWide 5 t_draft_boatWide, xI G q_t_draft_boatDeep 5 t_draft_boatDeep]) X hW 0 rfl rfl tbc_X5 tyX5 tyX5_ok nmX5 5 (by decide) kw_180 rfl rfl rfl rfl (Nat.le_of_ble_eq_true rfl) rfl dX5_read_24 (fun H locs hW => ?_)
  refine lv_aload_n hx hb dX5_read_27 rfl (lv_at hl 0 rfl) ?_
  refine lv_iconst (v := 0) hx hb dX5_read_28 (by decide) ?_
  refine mx_put (C := RX5) (T := TX5) (N := 15) (ci := 5) (w2 := [xO q_t 5 [.ref q_t_tape, .ref q_t_names, .ref q_t_nameLines, .ref q_t_nameNumbers, .int 0, .int 0, .int t_faultPlace, .ref q_t_draft, .int 0, .int z1, .int 0, .int t_sort, .int t_place, .int t_value, .long t_code], xB G q_t_tape 900 t_tape, xJ G q_t_names 24 t_names, xI G q_t_nameLines 24 t_nameLines, xI G q_t_nameNumbers 24 t_nameNumbers, xO q_t_draft 6 [.int t_draft_flow, .int t_draft_tape, .int t_draft_reaches, .int t_draft_ropes, .int t_draft_hands, .int t_draft_boats, .int t_draft_muds, .int t_draft_loose, .ref q_t_draft_kind, .ref q_t_draft_wide, .ref q_t_draft_bank, .ref q_t_draft_mud, .ref q_t_draft_ropeAt, .ref q_t_draft_pulls, .ref q_t_draft_bears, .ref q_t_draft_strong, .ref q_t_draft_boatWide, .ref q_t_draft_boatDeep], xI G q_t_draft_kind 6 t_draft_kind, xI G q_t_draft_wide 6 t_draft_wide, xI G q_t_draft_bank 6 t_draft_bank, xI G q_t_draft_mud 6 t_draft_mud, xI G q_t_draft_ropeAt 7 t_draft_ropeAt, xI G q_t_draft_pulls 7 t_draft_pulls, xI G q_t_draft_bears 7 t_draft_bears, xI G q_t_draft_strong 6 t_draft_strong, xI G q_t_draft_boatWide 5 t_draft_boatWide, xI G q_t_draft_boatDeep 5 t_draft_boatDeep]) X hW 0 rfl rfl tbc_X5 tyX5 tyX5_ok nmX5 8 (by decide) kw_181 rfl rfl rfl rfl (Nat.le_of_ble_eq_true rfl) rfl dX5_read_29 (fun H locs hW => ?_)
  refine lv_aload_n hx hb dX5_read_32 rfl (lv_at hl 0 rfl) ?_
  refine mx_get (C := RX5) (T := TX5) (N := 15) (ci := 5) X hW 0 rfl rfl tbc_X5 7 (by decide) kw_64 rfl dX5_read_33 ?_
  obtain ⟨o2, ho2, hm⟩ := bd_s hm
  refine mx_callV (C := RX6) (T := TX6) (N := 18) (ci := 6) (n := 0) (As := []) (rest := []) (st1 := []) (w2 := [xO q_t 5 [.ref q_t_tape, .ref q_t_names, .ref q_t_nameLines, .ref q_t_nameNumbers, .int 0, .int 0, .int t_faultPlace, .ref q_t_draft, .int 0, .int z1, .int 0, .int t_sort, .int t_place, .int t_value, .long t_code], xB G q_t_tape 900 t_tape, xJ G q_t_names 24 t_names, xI G q_t_nameLines 24 t_nameLines, xI G q_t_nameNumbers 24 t_nameNumbers, xO q_t_draft 6 [.int o2.1, .int o2.2.1, .int o2.2.2.1, .int o2.2.2.2.1, .int o2.2.2.2.2.1, .int o2.2.2.2.2.2.1, .int o2.2.2.2.2.2.2.1, .int o2.2.2.2.2.2.2.2.1, .ref q_t_draft_kind, .ref q_t_draft_wide, .ref q_t_draft_bank, .ref q_t_draft_mud, .ref q_t_draft_ropeAt, .ref q_t_draft_pulls, .ref q_t_draft_bears, .ref q_t_draft_strong, .ref q_t_draft_boatWide, .ref q_t_draft_boatDeep], xI G q_t_draft_kind 6 t_draft_kind, xI G q_t_draft_wide 6 t_draft_wide, xI G q_t_draft_bank 6 t_draft_bank, xI G q_t_draft_mud 6 o2.2.2.2.2.2.2.2.2, xI G q_t_draft_ropeAt 7 t_draft_ropeAt, xI G q_t_draft_pulls 7 t_draft_pulls, xI G q_t_draft_bears 7 t_draft_bears, xI G q_t_draft_strong 6 t_draft_strong, xI G q_t_draft_boatWide 5 t_draft_boatWide, xI G q_t_draft_boatDeep 5 t_draft_boatDeep]) X hW hl.1 (c_X6_empty l G q_t_draft q_t_draft_mud (.ref q_t_draft_kind) (.ref q_t_draft_wide) (.ref q_t_draft_bank) (.ref q_t_draft_ropeAt) (.ref q_t_draft_pulls) (.ref q_t_draft_bears) (.ref q_t_draft_strong) (.ref q_t_draft_boatWide) (.ref q_t_draft_boatDeep) t_draft_flow t_draft_tape t_draft_reaches t_draft_ropes t_draft_hands t_draft_boats t_draft_muds t_draft_loose t_draft_mud o2 ho2) 0 rfl rfl kw_184 kw_185 kw_186 kw_51 kw_187 (by decide +kernel) ⟨rfl, rfl⟩ ⟨by decide, by decide⟩ ⟨Nat.zero_le _, Nat.zero_le _⟩ [5, 9] (by decide) rfl rfl rfl rfl rfl rfl (Nat.le_of_ble_eq_true rfl) rfl dX5_read_36 (fun H locs hW => ?_)
  refine lv_aload_n hx hb dX5_read_39 rfl (lv_at hl 0 rfl) ?_
  obtain ⟨o3, ho3, hm⟩ := bd_s hm
  refine mx_callV (C := RX5) (T := TX5) (N := 15) (ci := 5) (n := 0) (As := []) (rest := []) (st1 := []) (w2 := [xO q_t 5 [.ref q_t_tape, .ref q_t_names, .ref q_t_nameLines, .ref q_t_nameNumbers, .int 0, .int 0, .int t_faultPlace, .ref q_t_draft, .int 0, .int z1, .int o3.1, .int o3.2.1, .int o3.2.2.1, .int o3.2.2.2.1, .long o3.2.2.2.2], xB G q_t_tape 900 t_tape, xJ G q_t_names 24 t_names, xI G q_t_nameLines 24 t_nameLines, xI G q_t_nameNumbers 24 t_nameNumbers, xO q_t_draft 6 [.int o2.1, .int o2.2.1, .int o2.2.2.1, .int o2.2.2.2.1, .int o2.2.2.2.2.1, .int o2.2.2.2.2.2.1, .int o2.2.2.2.2.2.2.1, .int o2.2.2.2.2.2.2.2.1, .ref q_t_draft_kind, .ref q_t_draft_wide, .ref q_t_draft_bank, .ref q_t_draft_mud, .ref q_t_draft_ropeAt, .ref q_t_draft_pulls, .ref q_t_draft_bears, .ref q_t_draft_strong, .ref q_t_draft_boatWide, .ref q_t_draft_boatDeep], xI G q_t_draft_kind 6 t_draft_kind, xI G q_t_draft_wide 6 t_draft_wide, xI G q_t_draft_bank 6 t_draft_bank, xI G q_t_draft_mud 6 o2.2.2.2.2.2.2.2.2, xI G q_t_draft_ropeAt 7 t_draft_ropeAt, xI G q_t_draft_pulls 7 t_draft_pulls, xI G q_t_draft_bears 7 t_draft_bears, xI G q_t_draft_strong 6 t_draft_strong, xI G q_t_draft_boatWide 5 t_draft_boatWide, xI G q_t_draft_boatDeep 5 t_draft_boatDeep]) X hW hl.1 (c_X5_next l G q_t q_t_tape (.ref q_t_names) (.ref q_t_nameLines) (.ref q_t_nameNumbers) (.int 0) (.int 0) (.int t_faultPlace) (.ref q_t_draft) (.int 0) t_tape z1 0 t_sort t_place t_value t_code o3 ho3) 0 rfl rfl kw_196 kw_197 kw_198 kw_15 kw_199 (by decide +kernel) ⟨rfl, rfl⟩ ⟨by decide, by decide⟩ ⟨Nat.zero_le _, Nat.zero_le _⟩ [0, 1] (by decide) rfl rfl rfl rfl rfl rfl (Nat.le_of_ble_eq_true rfl) rfl dX5_read_40 (fun H locs hW => ?_)
  refine lv_aload_n hx hb dX5_read_43 rfl (lv_at hl 0 rfl) ?_
  obtain ⟨o4, ho4, hm⟩ := bd_s hm
  refine mx_callV (C := RX5) (T := TX5) (N := 15) (ci := 5) (n := 0) (As := []) (rest := []) (st1 := [.int o4.1]) (w2 := [xO q_t 5 [.ref q_t_tape, .ref q_t_names, .ref q_t_nameLines, .ref q_t_nameNumbers, .int 0, .int o4.2.2.2.2.1, .int o4.2.2.2.2.2.1, .ref q_t_draft, .int o4.2.2.2.2.2.2.2.2.2.2.2.2.2.2.2.2.2.2.2.2.2.2.2.2.1, .int z1, .int o4.2.2.2.2.2.2.2.2.2.2.2.2.2.2.2.2.2.2.2.2.2.2.2.2.2.1, .int o4.2.2.2.2.2.2.2.2.2.2.2.2.2.2.2.2.2.2.2.2.2.2.2.2.2.2.1, .int o4.2.2.2.2.2.2.2.2.2.2.2.2.2.2.2.2.2.2.2.2.2.2.2.2.2.2.2.1, .int o4.2.2.2.2.2.2.2.2.2.2.2.2.2.2.2.2.2.2.2.2.2.2.2.2.2.2.2.2.1, .long o4.2.2.2.2.2.2.2.2.2.2.2.2.2.2.2.2.2.2.2.2.2.2.2.2.2.2.2.2.2], xB G q_t_tape 900 t_tape, xJ G q_t_names 24 o4.2.1, xI G q_t_nameLines 24 o4.2.2.1, xI G q_t_nameNumbers 24 o4.2.2.2.1, xO q_t_draft 6 [.int o4.2.2.2.2.2.2.1, .int o4.2.2.2.2.2.2.2.1, .int o4.2.2.2.2.2.2.2.2.1, .int o4.2.2.2.2.2.2.2.2.2.1, .int o4.2.2.2.2.2.2.2.2.2.2.1, .int o4.2.2.2.2.2.2.2.2.2.2.2.1, .int o4.2.2.2.2.2.2.2.2.2.2.2.2.1, .int o4.2.2.2.2.2.2.2.2.2.2.2.2.2.1, .ref q_t_draft_kind, .ref q_t_draft_wide, .ref q_t_draft_bank, .ref q_t_draft_mud, .ref q_t_draft_ropeAt, .ref q_t_draft_pulls, .ref q_t_draft_bears, .ref q_t_draft_strong, .ref q_t_draft_boatWide, .ref q_t_draft_boatDeep], xI G q_t_draft_kind 6 o4.2.2.2.2.2.2.2.2.2.2.2.2.2.2.1, xI G q_t_draft_wide 6 o4.2.2.2.2.2.2.2.2.2.2.2.2.2.2.2.1, xI G q_t_draft_bank 6 o4.2.2.2.2.2.2.2.2.2.2.2.2.2.2.2.2.1, xI G q_t_draft_mud 6 o4.2.2.2.2.2.2.2.2.2.2.2.2.2.2.2.2.2.1, xI G q_t_draft_ropeAt 7 o4.2.2.2.2.2.2.2.2.2.2.2.2.2.2.2.2.2.2.1, xI G q_t_draft_pulls 7 o4.2.2.2.2.2.2.2.2.2.2.2.2.2.2.2.2.2.2.2.1, xI G q_t_draft_bears 7 o4.2.2.2.2.2.2.2.2.2.2.2.2.2.2.2.2.2.2.2.2.1, xI G q_t_draft_strong 6 o4.2.2.2.2.2.2.2.2.2.2.2.2.2.2.2.2.2.2.2.2.2.1, xI G q_t_draft_boatWide 5 o4.2.2.2.2.2.2.2.2.2.2.2.2.2.2.2.2.2.2.2.2.2.2.1, xI G q_t_draft_boatDeep 5 o4.2.2.2.2.2.2.2.2.2.2.2.2.2.2.2.2.2.2.2.2.2.2.2.1]) X hW hl.1 (c_X5_readLine l G q_t q_t_tape q_t_names q_t_nameLines q_t_nameNumbers q_t_draft q_t_draft_kind q_t_draft_wide q_t_draft_bank q_t_draft_mud q_t_draft_ropeAt q_t_draft_pulls q_t_draft_bears q_t_draft_strong q_t_draft_boatWide q_t_draft_boatDeep (.int 0) t_tape t_names t_nameLines t_nameNumbers 0 t_faultPlace o2.1 o2.2.1 o2.2.2.1 o2.2.2.2.1 o2.2.2.2.2.1 o2.2.2.2.2.2.1 o2.2.2.2.2.2.2.1 o2.2.2.2.2.2.2.2.1 t_draft_kind t_draft_wide t_draft_bank o2.2.2.2.2.2.2.2.2 t_draft_ropeAt t_draft_pulls t_draft_bears t_draft_strong t_draft_boatWide t_draft_boatDeep 0 z1 o3.1 o3.2.1 o3.2.2.1 o3.2.2.2.1 o3.2.2.2.2 o4 ho4) 0 rfl rfl kw_211 kw_212 kw_213 kw_15 kw_214 (by decide +kernel) ⟨rfl, rfl⟩ ⟨by decide, by decide⟩ ⟨Nat.zero_le _, Nat.zero_le _⟩ [0, 1, 2, 3, 4, 5, 6, 7, 8, 9, 10, 11, 12, 13, 14, 15] (by decide) rfl rfl rfl rfl rfl rfl (Nat.le_of_ble_eq_true rfl) rfl dX5_read_44 (fun H locs hW => ?_)
  refine lv_istore_n (lv' := [(2, .int o4.1), (0, .ref q_t), (1, .int p1)]) hx hb dX5_read_47 rfl hl (by decide) rfl (fun ls hl => ?_)
  refine lv_iconst (v := 0) hx hb dX5_read_48 (by decide) ?_
  refine lv_istore_n (lv' := [(3, .int 0), (2, .int o4.1), (0, .ref q_t), (1, .int p1)]) hx hb dX5_read_49 rfl hl (by decide) rfl (fun ls hl => ?_)
  refine w_X5_read_L50 X q_t q_t_tape q_t_names q_t_nameLines q_t_nameNumbers q_t_draft q_t_draft_kind q_t_draft_wide q_t_draft_bank q_t_draft_mud q_t_draft_ropeAt q_t_draft_pulls q_t_draft_bears q_t_draft_strong q_t_draft_boatWide q_t_draft_boatDeep t_tape 0 z1 out _ (fun x2_50 t_names_50 t_nameLines_50 t_nameNumbers_50 t_fault_50 t_faultPlace_50 t_draft_flow_50 t_draft_tape_50 t_draft_reaches_50 t_draft_ropes_50 t_draft_hands_50 t_draft_boats_50 t_draft_muds_50 t_draft_loose_50 t_draft_kind_50 t_draft_wide_50 t_draft_bank_50 t_draft_mud_50 t_draft_ropeAt_50 t_draft_pulls_50 t_draft_bears_50 t_draft_strong_50 t_draft_boatWide_50 t_draft_boatDeep_50 t_named_50 t_at_50 t_sort_50 t_place_50 t_value_50 t_code_50 H locs ls hm hW hl => ?_) _ o4.1 0 o4.2.1 o4.2.2.1 o4.2.2.2.1 o4.2.2.2.2.1 o4.2.2.2.2.2.1 o4.2.2.2.2.2.2.1 o4.2.2.2.2.2.2.2.1 o4.2.2.2.2.2.2.2.2.1 o4.2.2.2.2.2.2.2.2.2.1 o4.2.2.2.2.2.2.2.2.2.2.1 o4.2.2.2.2.2.2.2.2.2.2.2.1 o4.2.2.2.2.2.2.2.2.2.2.2.2.1 o4.2.2.2.2.2.2.2.2.2.2.2.2.2.1 o4.2.2.2.2.2.2.2.2.2.2.2.2.2.2.1 o4.2.2.2.2.2.2.2.2.2.2.2.2.2.2.2.1 o4.2.2.2.2.2.2.2.2.2.2.2.2.2.2.2.2.1 o4.2.2.2.2.2.2.2.2.2.2.2.2.2.2.2.2.2.1 o4.2.2.2.2.2.2.2.2.2.2.2.2.2.2.2.2.2.2.1 o4.2.2.2.2.2.2.2.2.2.2.2.2.2.2.2.2.2.2.2.1 o4.2.2.2.2.2.2.2.2.2.2.2.2.2.2.2.2.2.2.2.2.1 o4.2.2.2.2.2.2.2.2.2.2.2.2.2.2.2.2.2.2.2.2.2.1 o4.2.2.2.2.2.2.2.2.2.2.2.2.2.2.2.2.2.2.2.2.2.2.1 o4.2.2.2.2.2.2.2.2.2.2.2.2.2.2.2.2.2.2.2.2.2.2.2.1 o4.2.2.2.2.2.2.2.2.2.2.2.2.2.2.2.2.2.2.2.2.2.2.2.2.1 o4.2.2.2.2.2.2.2.2.2.2.2.2.2.2.2.2.2.2.2.2.2.2.2.2.2.1 o4.2.2.2.2.2.2.2.2.2.2.2.2.2.2.2.2.2.2.2.2.2.2.2.2.2.2.1 o4.2.2.2.2.2.2.2.2.2.2.2.2.2.2.2.2.2.2.2.2.2.2.2.2.2.2.2.1 o4.2.2.2.2.2.2.2.2.2.2.2.2.2.2.2.2.2.2.2.2.2.2.2.2.2.2.2.2.1 o4.2.2.2.2.2.2.2.2.2.2.2.2.2.2.2.2.2.2.2.2.2.2.2.2.2.2.2.2.2 _ _ _ hm hW (lv_sub hl [2, 1, 0] rfl)
  exact w_X5_read_B84 X q_t q_t_tape q_t_names q_t_nameLines q_t_nameNumbers q_t_draft q_t_draft_kind q_t_draft_wide q_t_draft_bank q_t_draft_mud q_t_draft_ropeAt q_t_draft_pulls q_t_draft_bears q_t_draft_strong q_t_draft_boatWide q_t_draft_boatDeep t_tape out   x2_50 t_names_50 t_nameLines_50 t_nameNumbers_50 0 t_fault_50 t_faultPlace_50 t_draft_flow_50 t_draft_tape_50 t_draft_reaches_50 t_draft_ropes_50 t_draft_hands_50 t_draft_boats_50 t_draft_muds_50 t_draft_loose_50 t_draft_kind_50 t_draft_wide_50 t_draft_bank_50 t_draft_mud_50 t_draft_ropeAt_50 t_draft_pulls_50 t_draft_bears_50 t_draft_strong_50 t_draft_boatWide_50 t_draft_boatDeep_50 t_named_50 z1 t_at_50 t_sort_50 t_place_50 t_value_50 t_code_50 _ _ _ hm hW (lv_sub hl [0, 1] rfl)
