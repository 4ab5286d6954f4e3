/-! String constants of the reference: length() and charAt() of the JDK, over the literals by their places -/
abbrev sK (G : mx_G) (i : Nat) : Nat := G.2.2.2.2.2.1 i
/-- the length of literal i, its char at k -/
def slen (i : Nat) : Nat := mx_len.getD i 0
def sch (i k : Nat) : Int32 := (mx_byt.getD i []).getD k 0 &&& 255
theorem slen_lt : ∀ i, i < 20 → slen i < 2 ^ 31 := by decide +kernel
def sok (i : Nat) : Bool := decide (i < 20)
theorem sok_s {i : Nat} (h : sok i = true) : i < 20 := of_decide_eq_true h
section STR
variable {p : Program} {l : Launch} {e : Env} {R : Room} {s : State} {m : MethodId} {args : Array Value} {below : List Frame} {meth : Method} {c : Code} {H : Heap} {locs : List Loc} {cells slots : Nat} {Q : State → Prop}
variable {own name : String} {cc : ByteArray} {nL : Nat} {ret : Option FieldType} {G : mx_G} {A : Nat → Prop} {w : va_W} {pc : Nat} {ls : Array Slot} {rest st st1 : List Value}
theorem mx_nret {w1 : va_W} {v : Int32} {ty : FieldType} (X : mx_X p s m args meth c own name cc nL (some ty) G) (hn : narrow ty (.int v) = .int v) (hW : mx_W G s A w1 H locs) (hdg : decode cc pc = .ok (.ireturn, 1)) : W p l e R s m args below meth c H locs cells slots (MQ below (mx_Q G (some (.int v)) w1 A) args s cells slots A) (F0 m pc ls [.int v]) :=
  W.zret X.1 X.2.1 X.2.2.2.2.2.2.1 hn (fun t ht _ => ⟨⟨rfl, by rw [ht]; exact hW.1, hW.2.1⟩, hW.2.2.1.F ht⟩) hW.2.2.1.2.2 hdg X.2.2.2.2.2.2.2.1
theorem mx_ldcS {idx : Nat} {tx : String} (i : Nat) (X : mx_X p s m args meth c "RiverCorsetModel" name cc nL ret G) (hW : mx_W G s A w H locs) (hq : mx_lit[i]? = some (idx, tx)) (hdg : decode cc pc = .ok (.ldc idx, 2))
    (kk : W p l e R s m args below meth c H locs cells slots Q (F0 m (pc + 2) ls (.ref (sK G i) :: rest))) : W p l e R s m args below meth c H locs cells slots Q (F0 m pc ls rest) :=
  va_ldcS X.1 X.2.1 X.2.2.2.1 (hW.2.2.2.2.2.1 i _ hq) hdg kk
theorem mx_ldcSw {idx : Nat} {tx : String} (i : Nat) (X : mx_X p s m args meth c "RiverCorsetModel" name cc nL ret G) (hW : mx_W G s A w H locs) (hq : mx_lit[i]? = some (idx, tx)) (hdg : decode cc pc = .ok (.ldc_w idx, 3))
    (kk : W p l e R s m args below meth c H locs cells slots Q (F0 m (pc + 3) ls (.ref (sK G i) :: rest))) : W p l e R s m args below meth c H locs cells slots Q (F0 m pc ls rest) := by
  intro T hT Y
  obtain ⟨t, a1, b1⟩ := kk T hT Y
  have hZ := hW.2.2.2.2.2.1 i _ hq
  exact ⟨t, Y.ldcStringW X.1 X.2.2.2.1 (text := tx) (a := sK G i) hZ.1 hZ.2 (g := F0 m pc ls rest) rfl (by rw [X.2.1]; exact hdg) t a1, b1⟩
/-- a call of an instance method of a String literal, that leaves the heap alone -/
theorem mx_callK {y : MethodName} {bytes : ByteArray} {maxL n idx : Nat} {ret' : Option FieldType} {rm : Room} {As : List Value} {rv : Option Value} (i : Nat) (hi : i < 20)
    (X : mx_X p s m args meth c own name cc nL ret G) (hW : mx_W G s A w H locs) (hls : ls.size = nL) (hM : mx_C l y bytes maxL ret' rm G (.ref (sK G i) :: As) [] rv [])
    (h1 : Cond.methodLink own idx y ∈ TB) (h2 : Cond.instanceMethod y ∈ TB) (h3 : Cond.selects "java/lang/String" y y ∈ TB) (h4 : Cond.initialized "java/lang/String" ∈ TB) (h5 : Cond.code y bytes maxL ret' ∈ TB) (hd : y.cls = "java/lang/String" ∧ y.cls ≠ "java/lang/invoke/MethodHandle" ∧ y.cls ≠ "java/lang/invoke/VarHandle" ∧ (parseMethodDescriptor y.desc).map (fun d => d.parameters.length) = some n)
    (hm0 : rm.cells = 0 ∧ rm.slots = 0) (hR : rm.frames + 1 ≤ R.frames ∧ 8 + (maxL + 11) + rm.locals ≤ R.locals) (hcl : cells ≤ R.cells ∧ slots ≤ R.slots)
    (hlen : As.length = n) (hst : st = As.reverse ++ .ref (sK G i) :: rest) (hcat : (rest.map fun v => v.category).sum ≤ 8) (hst1 : rv.toList ++ rest = st1) (hdg : decode cc pc = .ok (.invokevirtual idx, 3))
    (kk : ∀ (H1 : Heap) (locs1 : List Loc), mx_W G s A w H1 locs1 → W p l e R s m args below meth c H1 locs1 cells slots Q (F0 m (pc + 3) ls st1)) : W p l e R s m args below meth c H locs cells slots Q (F0 m pc ls st) := by
  subst hst1
  have hin := mx_inC (wc := []) hW [] rfl rfl
  obtain ⟨hx, hb, hml, hown, hts, hKN, -⟩ := X
  have hrec : ∃ cell : Cell, H[sK G i]? = some cell ∧ cell.vm.isStatics = false ∧ s.vm.findClass "java/lang/String" = some cell.cls := vk_recv hW.2.2.2.2.1 hi hW.2.2.1
  refine mx_after (y := y) (wc := []) (w1 := []) (va_runV (cc := cc) (nL := nL) (Ts := TB) (own := own) ⟨hx, hb, hml, hown, hts⟩ (hM H.size) (cwV n hts (mx_gV (c0 := .initialized "java/lang/String") h1 h2 h3 h4 h5) rfl hm0.1 hm0.2 hd hR) ⟨mx_blind, hrec, fun U hU hWm => ⟨rfl, by rw [hU], by rw [hU]; exact hin.1, hKN.moved hWm, hin.2, by rw [hU]; exact mx_ST.moved hWm hW.2.2.2.2 hW.2.2.1 (va_free hW.2.1 hW.2.2.1 hW.2.2.2.1 [] rfl)⟩⟩ rfl hlen hls hst (lv_room hcat) hdg ⟨hcl.1, hcl.2⟩) hW [] rfl rfl rfl rfl kk
theorem mx_aald {a n : Nat} {f : Nat → Nat} {i : Int32} (X : mx_X p s m args meth c own name cc nL ret G) (hW : mx_W G s A w H locs) (q0 : Nat) (he : w[q0]? = some (xS G a n (fun j => some (f j)))) (hin : vp_in i n) (hdg : decode cc pc = .ok (.aaload, 1))
    (kk : W p l e R s m args below meth c H locs cells slots Q (F0 m (pc + 1) ls (.ref (f i.toNatClampNeg) :: rest))) : W p l e R s m args below meth c H locs cells slots Q (F0 m pc ls (.int i :: .ref a :: rest)) :=
  va_aldq X.1 X.2.1 X.2.2.2.2.2.1.1 hW.1 q0 3 he rfl hin hdg kk
end STR
abbrev rm_J0 : Room := { frames := 0, cells := 0, slots := 0, locals := 0 }
abbrev rm_J1 : Room := { frames := 1, cells := 0, slots := 0, locals := 24 }
abbrev rm_J2 : Room := { frames := 2, cells := 0, slots := 0, locals := 48 }
abbrev rm_J3 : Room := { frames := 3, cells := 0, slots := 0, locals := 72 }
theorem c_coder (l : Launch) (G : mx_G) (i : Nat) (hi : i < 20) : mx_C l yJ0_coder_7d493 cJ0_coder_7d493 1 (some .byte) rm_J0 G [.ref (sK G i)] [] (some (.int 0)) [] := by
  refine mx_enter (own := RJ0) (name := "coder") (lv := [(0, .ref (sK G i))]) (by decide) rfl rfl (Nat.le_of_ble_eq_true rfl) rfl ?_
  intro p e s m args below meth c A ls X hW hl
  obtain ⟨hx, hb, hml, hown, hts, hKN, -⟩ := id X
  have hE := hW.2.2.2.2.1.1 i hi
  refine va_gets (C := "java/lang/String") hx hb hW.2.2.2.2.2.2.1 hW.2.2.1 hown (hts _ kw_429) (fun _ h => h) dJ0_coder_7d493_0 ?_
  refine lv_if_eq (tgt := 13) hx hb dJ0_coder_7d493_3 (by decide) (fun c1 => absurd c1 (by decide)) (fun c1 => ?_)
  refine lv_aload_n hx hb dJ0_coder_7d493_6 rfl (lv_at hl 0 rfl) ?_
  refine vk_getf hx hb hE.2.1 hW.2.2.1 hown (hts _ kw_430) (fun _ h => h) dJ0_coder_7d493_7 ?_
  refine lv_goto (tgt := 14) hx hb dJ0_coder_7d493_10 (by decide) ?_
  exact mx_nret X rfl hW dJ0_coder_7d493_14
theorem c_isLatin1 (l : Launch) (G : mx_G) (i : Nat) (hi : i < 20) : mx_C l yJ0_isLatin1_aae02 cJ0_isLatin1_aae02 1 (some .boolean) rm_J0 G [.ref (sK G i)] [] (some (.int 1)) [] := by
  refine mx_enter (own := RJ0) (name := "isLatin1") (lv := [(0, .ref (sK G i))]) (by decide) rfl rfl (Nat.le_of_ble_eq_true rfl) rfl ?_
  intro p e s m args below meth c A ls X hW hl
  obtain ⟨hx, hb, hml, hown, hts, hKN, -⟩ := id X
  have hE := hW.2.2.2.2.1.1 i hi
  refine va_gets (C := "java/lang/String") hx hb hW.2.2.2.2.2.2.1 hW.2.2.1 hown (hts _ kw_429) (fun _ h => h) dJ0_isLatin1_aae02_0 ?_
  refine lv_if_eq (tgt := 17) hx hb dJ0_isLatin1_aae02_3 (by decide) (fun c1 => absurd c1 (by decide)) (fun c1 => ?_)
  refine lv_aload_n hx hb dJ0_isLatin1_aae02_6 rfl (lv_at hl 0 rfl) ?_
  refine vk_getf hx hb hE.2.1 hW.2.2.1 hown (hts _ kw_430) (fun _ h => h) dJ0_isLatin1_aae02_7 ?_
  refine lv_if_ne (tgt := 17) hx hb dJ0_isLatin1_aae02_10 (by decide) (fun c1 => absurd rfl c1) (fun c1 => ?_)
  refine lv_iconst (v := 1) hx hb dJ0_isLatin1_aae02_13 (by decide) ?_
  refine lv_goto (tgt := 18) hx hb dJ0_isLatin1_aae02_14 (by decide) ?_
  exact mx_nret X rfl hW dJ0_isLatin1_aae02_18
theorem c_length (l : Launch) (G : mx_G) (i : Nat) (hi : i < 20) : mx_C l yJ0_length_8abf5 cJ0_length_8abf5 1 (some .int) rm_J1 G [.ref (sK G i)] [] (some (.int (nI (slen i)))) [] := by
  refine mx_enter (own := RJ0) (name := "length") (lv := [(0, .ref (sK G i))]) (by decide) rfl rfl (Nat.le_of_ble_eq_true rfl) rfl ?_
  intro p e s m args below meth c A ls X hW hl
  obtain ⟨hx, hb, hml, hown, hts, hKN, -⟩ := id X
  have hE := hW.2.2.2.2.1.1 i hi
  refine lv_aload_n hx hb dJ0_length_8abf5_0 rfl (lv_at hl 0 rfl) ?_
  refine vk_getf hx hb hE.2.2.1 hW.2.2.1 hown (hts _ kw_424) (fun _ h => h) dJ0_length_8abf5_1 ?_
  refine va_tlen (v := nI (slen i)) hx hb hE.2.2.2 hW.2.2.1 rfl dJ0_length_8abf5_4 ?_
  refine lv_aload_n hx hb dJ0_length_8abf5_5 rfl (lv_at hl 0 rfl) ?_
  refine mx_callK (n := 0) (As := []) (rest := [.int (nI (slen i))]) (st1 := [.int 0, .int (nI (slen i))]) i hi X hW hl.1 (c_coder l G i hi) kw_425 kw_426 kw_427 kw_422 kw_428 (by decide +kernel) ⟨rfl, rfl⟩ ⟨by decide, by decide⟩ ⟨Nat.zero_le _, Nat.zero_le _⟩ rfl rfl (Nat.le_of_ble_eq_true rfl) rfl dJ0_length_8abf5_6 (fun H locs hW => ?_)
  refine lv_ishr hx hb dJ0_length_8abf5_9 ?_
  rw [sc_shr0 (slen_lt i hi)]
  exact mx_iret X hW dJ0_length_8abf5_10
theorem c_pcheck (l : Launch) (G : mx_G) (k n : Int32) (v : Value) (hv : v = .null ∨ ∃ t, v = .ref t) (h0 : ¬ k < 0) (h1 : k < n) : mx_C l yJ3_checkIndex_8e157 cJ3_checkIndex_8e157 3 (some .int) rm_J0 G [.int k, .int n, v] [] (some (.int k)) [] := by
  rcases hv with rfl | ⟨t, rfl⟩
  · refine mx_enter (own := RJ3) (name := "checkIndex") (lv := [(0, .int k), (1, .int n), (2, .null)]) (by decide) rfl rfl (Nat.le_of_ble_eq_true rfl) rfl ?_
    intro p e s m args below meth c A ls X hW hl
    obtain ⟨hx, hb, hml, hown, hts, hKN, -⟩ := id X
    refine lv_iload_n hx hb dJ3_checkIndex_8e157_0 rfl (lv_at hl 0 rfl) ?_
    refine lv_if_lt (tgt := 9) hx hb dJ3_checkIndex_8e157_1 (by decide) (fun c1 => absurd c1 h0) (fun c1 => ?_)
    refine lv_iload_n hx hb dJ3_checkIndex_8e157_4 rfl (lv_at hl 0 rfl) ?_
    refine lv_iload_n hx hb dJ3_checkIndex_8e157_5 rfl (lv_at hl 1 rfl) ?_
    refine lv_icmp_lt (tgt := 16) hx hb dJ3_checkIndex_8e157_6 (by decide) (fun c1 => ?_) (fun c1 => absurd h1 c1)
    refine lv_iload_n hx hb dJ3_checkIndex_8e157_16 rfl (lv_at hl 0 rfl) ?_
    exact mx_iret X hW dJ3_checkIndex_8e157_17
  · refine mx_enter (own := RJ3) (name := "checkIndex") (lv := [(0, .int k), (1, .int n), (2, .ref t)]) (by decide) rfl rfl (Nat.le_of_ble_eq_true rfl) rfl ?_
    intro p e s m args below meth c A ls X hW hl
    obtain ⟨hx, hb, hml, hown, hts, hKN, -⟩ := id X
    refine lv_iload_n hx hb dJ3_checkIndex_8e157_0 rfl (lv_at hl 0 rfl) ?_
    refine lv_if_lt (tgt := 9) hx hb dJ3_checkIndex_8e157_1 (by decide) (fun c1 => absurd c1 h0) (fun c1 => ?_)
    refine lv_iload_n hx hb dJ3_checkIndex_8e157_4 rfl (lv_at hl 0 rfl) ?_
    refine lv_iload_n hx hb dJ3_checkIndex_8e157_5 rfl (lv_at hl 1 rfl) ?_
    refine lv_icmp_lt (tgt := 16) hx hb dJ3_checkIndex_8e157_6 (by decide) (fun c1 => ?_) (fun c1 => absurd h1 c1)
    refine lv_iload_n hx hb dJ3_checkIndex_8e157_16 rfl (lv_at hl 0 rfl) ?_
    exact mx_iret X hW dJ3_checkIndex_8e157_17
theorem c_check (l : Launch) (G : mx_G) (k n : Int32) (h0 : ¬ k < 0) (h1 : k < n) : mx_C l yJ0_checkIndex_df160 cJ0_checkIndex_df160 2 none rm_J1 G [.int k, .int n] [] none [] := by
  refine mx_enter (own := RJ0) (name := "checkIndex") (lv := [(0, .int k), (1, .int n)]) (by decide) rfl rfl (Nat.le_of_ble_eq_true rfl) rfl ?_
  intro p e s m args below meth c A ls X hW hl
  obtain ⟨hx, hb, hml, hown, hts, hKN, -⟩ := id X
  refine lv_iload_n hx hb dJ0_checkIndex_df160_0 rfl (lv_at hl 0 rfl) ?_
  refine lv_iload_n hx hb dJ0_checkIndex_df160_1 rfl (lv_at hl 1 rfl) ?_
  obtain ⟨v, hv, hZ⟩ : ∃ v : Value, (v = .null ∨ ∃ t, v = .ref t) ∧ va_Z "jdk/internal/util/Preconditions" "SIOOBE_FORMATTER" "Ljava/util/function/BiFunction;" v A s s.heap := by
    rcases hW.2.2.2.2.2.2.2 with h | ⟨t, h⟩
    · exact ⟨_, Or.inl rfl, h⟩
    · exact ⟨_, Or.inr ⟨t, rfl⟩, h⟩
  refine va_gets (C := "jdk/internal/util/Preconditions") hx hb hZ hW.2.2.1 hown (hts _ kw_446) (fun _ h => h) dJ0_checkIndex_df160_2 ?_
  refine mx_callS (n := 3) (As := [.int k, .int n, v]) (rest := []) (st1 := [.int k]) (w2 := []) X hW hl.1 (c_pcheck l G k n v hv h0 h1) kw_447 kw_448 kw_449 kw_450 (by decide +kernel) ⟨rfl, rfl⟩ ⟨by decide, by decide⟩ ⟨Nat.zero_le _, Nat.zero_le _⟩ [] (by decide) rfl rfl rfl rfl rfl rfl (Nat.le_of_ble_eq_true rfl) rfl dJ0_checkIndex_df160_5 (fun H locs hW => ?_)
  refine lv_pop hx hb dJ0_checkIndex_df160_8 rfl ?_
  exact mx_vret X hW dJ0_checkIndex_df160_9
theorem c_l1charAt (l : Launch) (G : mx_G) (i : Nat) (hi : i < 20) (k : Int32) (hk : vp_in k (slen i)) : mx_C l yJ1_charAt_3b067 cJ1_charAt_3b067 2 (some .char) rm_J2 G [.ref (G.2.2.2.2.2.2 i), .int k] [] (some (.int (sch i k.toNatClampNeg))) [] := by
  refine mx_enter (own := RJ1) (name := "charAt") (lv := [(0, .ref (G.2.2.2.2.2.2 i)), (1, .int k)]) (by decide) rfl rfl (Nat.le_of_ble_eq_true rfl) rfl ?_
  intro p e s m args below meth c A ls X hW hl
  obtain ⟨hx, hb, hml, hown, hts, hKN, -⟩ := id X
  have hE := hW.2.2.2.2.1.1 i hi
  have hlt : k < nI (slen i) := by
    obtain ⟨j, hj, rfl⟩ := vp_in_of hk (slen_lt i hi)
    exact nI_lt hj (slen_lt i hi)
  refine lv_iload_n hx hb dJ1_charAt_3b067_0 rfl (lv_at hl 1 rfl) ?_
  refine lv_aload_n hx hb dJ1_charAt_3b067_1 rfl (lv_at hl 0 rfl) ?_
  refine va_tlen (v := nI (slen i)) hx hb hE.2.2.2 hW.2.2.1 rfl dJ1_charAt_3b067_2 ?_
  refine mx_callS (n := 2) (As := [.int k, .int (nI (slen i))]) (rest := []) (st1 := []) (w2 := []) X hW hl.1 (c_check l G k (nI (slen i)) (fun h => hk (Or.inl h)) hlt) kw_443 kw_444 kw_422 kw_445 (by decide +kernel) ⟨rfl, rfl⟩ ⟨by decide, by decide⟩ ⟨Nat.zero_le _, Nat.zero_le _⟩ [] (by decide) rfl rfl rfl rfl rfl rfl (Nat.le_of_ble_eq_true rfl) rfl dJ1_charAt_3b067_3 (fun H locs hW => ?_)
  refine lv_aload_n hx hb dJ1_charAt_3b067_6 rfl (lv_at hl 0 rfl) ?_
  refine lv_iload_n hx hb dJ1_charAt_3b067_7 rfl (lv_at hl 1 rfl) ?_
  refine va_tb hx hb hE.2.2.2 hW.2.2.1 hk rfl dJ1_charAt_3b067_8 ?_
  refine lv_sipush (v := 255) hx hb dJ1_charAt_3b067_9 (by decide) ?_
  refine lv_iand hx hb dJ1_charAt_3b067_12 ?_
  refine lv_i2c (v := sch i k.toNatClampNeg) hx hb dJ1_charAt_3b067_13 (sc_c2 _) ?_
  exact mx_nret X (sc_nar _) hW dJ1_charAt_3b067_14
theorem c_charAt (l : Launch) (G : mx_G) (i : Nat) (hi : i < 20) (k : Int32) (hk : vp_in k (slen i)) : mx_C l yJ0_charAt_5068e cJ0_charAt_5068e 2 (some .char) rm_J3 G [.ref (sK G i), .int k] [] (some (.int (sch i k.toNatClampNeg))) [] := by
  refine mx_enter (own := RJ0) (name := "charAt") (lv := [(0, .ref (sK G i)), (1, .int k)]) (by decide) rfl rfl (Nat.le_of_ble_eq_true rfl) rfl ?_
  intro p e s m args below meth c A ls X hW hl
  obtain ⟨hx, hb, hml, hown, hts, hKN, -⟩ := id X
  have hE := hW.2.2.2.2.1.1 i hi
  refine lv_aload_n hx hb dJ0_charAt_5068e_0 rfl (lv_at hl 0 rfl) ?_
  refine mx_callK (n := 0) (As := []) (rest := []) (st1 := [.int 1]) i hi X hW hl.1 (c_isLatin1 l G i hi) kw_435 kw_436 kw_437 kw_422 kw_438 (by decide +kernel) ⟨rfl, rfl⟩ ⟨by decide, by decide⟩ ⟨Nat.zero_le _, Nat.zero_le _⟩ rfl rfl (Nat.le_of_ble_eq_true rfl) rfl dJ0_charAt_5068e_1 (fun H locs hW => ?_)
  refine lv_if_eq (tgt := 16) hx hb dJ0_charAt_5068e_4 (by decide) (fun c1 => absurd c1 (by decide)) (fun c1 => ?_)
  refine lv_aload_n hx hb dJ0_charAt_5068e_7 rfl (lv_at hl 0 rfl) ?_
  refine vk_getf hx hb hE.2.2.1 hW.2.2.1 hown (hts _ kw_424) (fun _ h => h) dJ0_charAt_5068e_8 ?_
  refine lv_iload_n hx hb dJ0_charAt_5068e_11 rfl (lv_at hl 1 rfl) ?_
  refine mx_callS (n := 2) (As := [.ref (G.2.2.2.2.2.2 i), .int k]) (rest := []) (st1 := [.int (sch i k.toNatClampNeg)]) (w2 := []) X hW hl.1 (c_l1charAt l G i hi k hk) kw_439 kw_440 kw_441 kw_442 (by decide +kernel) ⟨rfl, rfl⟩ ⟨by decide, by decide⟩ ⟨Nat.zero_le _, Nat.zero_le _⟩ [] (by decide) rfl rfl rfl rfl rfl rfl (Nat.le_of_ble_eq_true rfl) rfl dJ0_charAt_5068e_12 (fun H locs hW => ?_)
  exact mx_nret X (sc_nar _) hW dJ0_charAt_5068e_15
/-- exchange: the draft goes out, the old river is the draft -/
theorem c_X5_exchange (l : Launch) (G : mx_G) (q_t qd qa : Nat) (v0 v1 v2 v3 v4 v5 v6 v8 v9 v10 v11 v12 v13 v14 : Value) : mx_C l yX5_exchange cX5_exchange 3 (some (.object "RiverCorset$River")) rm_J0 G [.ref q_t, .ref qa] [xO q_t 5 [v0, v1, v2, v3, v4, v5, v6, .ref qd, v8, v9, v10, v11, v12, v13, v14]] (some (.ref qd)) [xO q_t 5 [v0, v1, v2, v3, v4, v5, v6, .ref qa, v8, v9, v10, v11, v12, v13, v14]] := by
  refine mx_enter (own := RX5) (name := "exchange") (lv := [(0, .ref q_t), (1, .ref qa)]) (by decide) rfl rfl (Nat.le_of_ble_eq_true rfl) rfl ?_
  intro p e s m args below meth c A ls X hW hl
  obtain ⟨hx, hb, hml, hown, hts, hKN, -⟩ := id X
  refine lv_aload_n hx hb dX5_exchange_0 rfl (lv_at hl 0 rfl) ?_
  refine mx_get (C := RX5) (T := TX5) (N := 15) (ci := 5) X hW 0 rfl rfl tbc_X5 7 (by decide) kw_64 rfl dX5_exchange_1 ?_
  refine lv_astore_n (lv' := [(2, .ref qd), (0, .ref q_t), (1, .ref qa)]) hx hb dX5_exchange_4 rfl hl (by decide) rfl (fun ls hl => ?_)
  refine lv_aload_n hx hb dX5_exchange_5 rfl (lv_at hl 1 rfl) ?_
  refine lv_aload_n hx hb dX5_exchange_6 rfl (lv_at hl 2 rfl) ?_
  refine mx_put (C := RX5) (T := TX5) (N := 15) (ci := 5) (w2 := [xO q_t 5 [v0, v1, v2, v3, v4, v5, v6, .ref qa, v8, v9, v10, v11, v12, v13, v14]]) X hW 0 rfl rfl tbc_X5 tyX5 tyX5_ok nmX5 7 (by decide) kw_64 rfl rfl rfl rfl (Nat.le_of_ble_eq_true rfl) rfl dX5_exchange_7 (fun H locs hW => ?_)
  refine lv_aload_n hx hb dX5_exchange_10 rfl (lv_at hl 0 rfl) ?_
  exact mx_aret X hW dX5_exchange_11
