/-! the law's switch -/
def lwPc (k : Nat) : Nat := [280, 353, 378, 391, 404, 441, 478, 491, 504, 517, 530, 543, 556, 569, 606, 631, 656, 681, 706, 719, 732, 745, 758, 771, 784, 797, 822, 847, 872, 885, 910, 935, 948, 961, 974, 987, 1000, 1013, 1078, 1091, 1104, 1141, 1178, 1215, 1252, 1277, 1302, 1327, 1352, 1365, 1390, 1403, 1416, 1441, 1497, 1522].getD k 0
def lwOff (k : Nat) : Int := ([240, 313, 338, 351, 364, 401, 438, 451, 464, 477, 490, 503, 516, 529, 566, 591, 616, 641, 666, 679, 692, 705, 718, 731, 744, 757, 782, 807, 832, 845, 870, 895, 908, 921, 934, 947, 960, 973, 1038, 1051, 1064, 1101, 1138, 1175, 1212, 1237, 1262, 1287, 1312, 1325, 1350, 1363, 1376, 1401, 1457, 1482] : List Int).getD k 0
theorem and63 (x : Int32) : ∃ v : Nat, v < 64 ∧ x &&& 63 = nI v := by
  refine ⟨(x &&& 63).toBitVec.toNat, ?_, ?_⟩
  · rw [Int32.toBitVec_and, BitVec.toNat_and]
    exact Nat.lt_of_le_of_lt Nat.and_le_right (by decide)
  · apply Int32.toBitVec_inj.mp
    simp [nI]
theorem lw_sw_in : ∀ v, v < 56 → ¬ (nI v).toInt < 0 ∧ ¬ (55 : Int) < (nI v).toInt ∧ (#[240, 313, 338, 351, 364, 401, 438, 451, 464, 477, 490, 503, 516, 529, 566, 591, 616, 641, 666, 679, 692, 705, 718, 731, 744, 757, 782, 807, 832, 845, 870, 895, 908, 921, 934, 947, 960, 973, 1038, 1051, 1064, 1101, 1138, 1175, 1212, 1237, 1262, 1287, 1312, 1325, 1350, 1363, 1376, 1401, 1457, 1482] : Array Int)[((nI v).toInt - 0).toNat]? = some (lwOff v) ∧ ((40 : Nat) : Int) + lwOff v = ((lwPc v : Nat) : Int) := by decide +kernel
theorem lw_sw_out : ∀ v, v < 64 → ¬ v < 56 → (nI v).toInt < 0 ∨ (55 : Int) < (nI v).toInt := by decide +kernel
section LAWH
variable {p : Program} {l : Launch} {e : Env} {s : State} {m : MethodId} {args : Array Value} {below : List Frame} {meth : Method} {c : Code} {H : Heap} {locs : List Loc} {cells slots : Nat} {Q : State → Prop}
variable {name : String} {ret : Option FieldType} {G : mx_G} {A : Nat → Prop} {ls : Array Slot} {b L : Nat} {xs : Nat → Int32} {i : Int32} {cap qo b0 m0 : Nat}
theorem h_any (X : mx_X p s m args meth c RL name cL_law 7 ret G) (hAO : va_AO "RiverCorset$State" s) (hst : l.stackTraces = false) (hNS : nseK A s s.heap) (hX : va_X b L xs s s.heap) (hbl : b < s.heap.size) (hbA : ¬ A b) (hcl : cells + 20 ≤ room_1.cells ∧ slots + 200 ≤ room_1.slots) (h5 : vp_in (i + 1) L ∧ vp_in (i + 2) L ∧ vp_in (i + 3) L ∧ vp_in (i + 4) L ∧ vp_in (i + 5) L) (hcap : cap < 2 ^ 15) (hl : lv_has ls 7 [(0, .ref b), (1, .ref b0), (2, .ref m0), (3, .ref qo), (4, .int i)]) (hI : lwI G s A cap qo b0 m0 H locs) (kk : ∀ (ls : Array Slot) (H1 : Heap) (locs1 : List Loc), lv_has ls 7 [(0, .ref b), (1, .ref b0), (2, .ref m0), (3, .ref qo), (4, .int i)] → lwI G s A (cap + 1) qo b0 m0 H1 locs1 → W p l e room_1 s m args below meth c H1 locs1 (cells + 20) (slots + 200) Q (F0 m 1535 ls [])) (k : Nat) (hk : k < 56) : W p l e room_1 s m args below meth c H locs cells slots Q (F0 m (lwPc k) ls []) :=
  match k, hk with
  | 0, _ => h_0 X hAO hst hNS hX hbl hbA hcl h5 hcap hl hI kk
  | 1, _ => h_1 X hAO hst hNS hX hbl hbA hcl h5 hcap hl hI kk
  | 2, _ => h_2 X hAO hst hNS hX hbl hbA hcl h5 hcap hl hI kk
  | 3, _ => h_3 X hAO hst hNS hX hbl hbA hcl h5 hcap hl hI kk
  | 4, _ => h_4 X hAO hst hNS hX hbl hbA hcl h5 hcap hl hI kk
  | 5, _ => h_5 X hAO hst hNS hX hbl hbA hcl h5 hcap hl hI kk
  | 6, _ => h_6 X hAO hst hNS hX hbl hbA hcl h5 hcap hl hI kk
  | 7, _ => h_7 X hAO hst hNS hX hbl hbA hcl h5 hcap hl hI kk
  | 8, _ => h_8 X hAO hst hNS hX hbl hbA hcl h5 hcap hl hI kk
  | 9, _ => h_9 X hAO hst hNS hX hbl hbA hcl h5 hcap hl hI kk
  | 10, _ => h_10 X hAO hst hNS hX hbl hbA hcl h5 hcap hl hI kk
  | 11, _ => h_11 X hAO hst hNS hX hbl hbA hcl h5 hcap hl hI kk
  | 12, _ => h_12 X hAO hst hNS hX hbl hbA hcl h5 hcap hl hI kk
  | 13, _ => h_13 X hAO hst hNS hX hbl hbA hcl h5 hcap hl hI kk
  | 14, _ => h_14 X hAO hst hNS hX hbl hbA hcl h5 hcap hl hI kk
  | 15, _ => h_15 X hAO hst hNS hX hbl hbA hcl h5 hcap hl hI kk
  | 16, _ => h_16 X hAO hst hNS hX hbl hbA hcl h5 hcap hl hI kk
  | 17, _ => h_17 X hAO hst hNS hX hbl hbA hcl h5 hcap hl hI kk
  | 18, _ => h_18 X hAO hst hNS hX hbl hbA hcl h5 hcap hl hI kk
  | 19, _ => h_19 X hAO hst hNS hX hbl hbA hcl h5 hcap hl hI kk
  | 20, _ => h_20 X hAO hst hNS hX hbl hbA hcl h5 hcap hl hI kk
  | 21, _ => h_21 X hAO hst hNS hX hbl hbA hcl h5 hcap hl hI kk
  | 22, _ => h_22 X hAO hst hNS hX hbl hbA hcl h5 hcap hl hI kk
  | 23, _ => h_23 X hAO hst hNS hX hbl hbA hcl h5 hcap hl hI kk
  | 24, _ => h_24 X hAO hst hNS hX hbl hbA hcl h5 hcap hl hI kk
  | 25, _ => h_25 X hAO hst hNS hX hbl hbA hcl h5 hcap hl hI kk
  | 26, _ => h_26 X hAO hst hNS hX hbl hbA hcl h5 hcap hl hI kk
  | 27, _ => h_27 X hAO hst hNS hX hbl hbA hcl h5 hcap hl hI kk
  | 28, _ => h_28 X hAO hst hNS hX hbl hbA hcl h5 hcap hl hI kk
  | 29, _ => h_29 X hAO hst hNS hX hbl hbA hcl h5 hcap hl hI kk
  | 30, _ => h_30 X hAO hst hNS hX hbl hbA hcl h5 hcap hl hI kk
  | 31, _ => h_31 X hAO hst hNS hX hbl hbA hcl h5 hcap hl hI kk
  | 32, _ => h_32 X hAO hst hNS hX hbl hbA hcl h5 hcap hl hI kk
  | 33, _ => h_33 X hAO hst hNS hX hbl hbA hcl h5 hcap hl hI kk
  | 34, _ => h_34 X hAO hst hNS hX hbl hbA hcl h5 hcap hl hI kk
  | 35, _ => h_35 X hAO hst hNS hX hbl hbA hcl h5 hcap hl hI kk
  | 36, _ => h_36 X hAO hst hNS hX hbl hbA hcl h5 hcap hl hI kk
  | 37, _ => h_37 X hAO hst hNS hX hbl hbA hcl h5 hcap hl hI kk
  | 38, _ => h_38 X hAO hst hNS hX hbl hbA hcl h5 hcap hl hI kk
  | 39, _ => h_39 X hAO hst hNS hX hbl hbA hcl h5 hcap hl hI kk
  | 40, _ => h_40 X hAO hst hNS hX hbl hbA hcl h5 hcap hl hI kk
  | 41, _ => h_41 X hAO hst hNS hX hbl hbA hcl h5 hcap hl hI kk
  | 42, _ => h_42 X hAO hst hNS hX hbl hbA hcl h5 hcap hl hI kk
  | 43, _ => h_43 X hAO hst hNS hX hbl hbA hcl h5 hcap hl hI kk
  | 44, _ => h_44 X hAO hst hNS hX hbl hbA hcl h5 hcap hl hI kk
  | 45, _ => h_45 X hAO hst hNS hX hbl hbA hcl h5 hcap hl hI kk
  | 46, _ => h_46 X hAO hst hNS hX hbl hbA hcl h5 hcap hl hI kk
  | 47, _ => h_47 X hAO hst hNS hX hbl hbA hcl h5 hcap hl hI kk
  | 48, _ => h_48 X hAO hst hNS hX hbl hbA hcl h5 hcap hl hI kk
  | 49, _ => h_49 X hAO hst hNS hX hbl hbA hcl h5 hcap hl hI kk
  | 50, _ => h_50 X hAO hst hNS hX hbl hbA hcl h5 hcap hl hI kk
  | 51, _ => h_51 X hAO hst hNS hX hbl hbA hcl h5 hcap hl hI kk
  | 52, _ => h_52 X hAO hst hNS hX hbl hbA hcl h5 hcap hl hI kk
  | 53, _ => h_53 X hAO hst hNS hX hbl hbA hcl h5 hcap hl hI kk
  | 54, _ => h_54 X hAO hst hNS hX hbl hbA hcl h5 hcap hl hI kk
  | 55, _ => h_55 X hAO hst hNS hX hbl hbA hcl h5 hcap hl hI kk
  | k + 56, h => absurd h (by omega)
theorem h_sw (X : mx_X p s m args meth c RL name cL_law 7 ret G) (hAO : va_AO "RiverCorset$State" s) (hst : l.stackTraces = false) (hNS : nseK A s s.heap) (hX : va_X b L xs s s.heap) (hbl : b < s.heap.size) (hbA : ¬ A b) (hcl : cells + 20 ≤ room_1.cells ∧ slots + 200 ≤ room_1.slots) (h5 : vp_in (i + 1) L ∧ vp_in (i + 2) L ∧ vp_in (i + 3) L ∧ vp_in (i + 4) L ∧ vp_in (i + 5) L) (hcap : cap < 2 ^ 15) (hl : lv_has ls 7 [(0, .ref b), (1, .ref b0), (2, .ref m0), (3, .ref qo), (4, .int i)]) (hI : lwI G s A cap qo b0 m0 H locs) (kk : ∀ (ls : Array Slot) (H1 : Heap) (locs1 : List Loc), lv_has ls 7 [(0, .ref b), (1, .ref b0), (2, .ref m0), (3, .ref qo), (4, .int i)] → lwI G s A (cap + 1) qo b0 m0 H1 locs1 → W p l e room_1 s m args below meth c H1 locs1 (cells + 20) (slots + 200) Q (F0 m 1535 ls [])) {v : Nat} (hv : v < 64) : W p l e room_1 s m args below meth c H locs cells slots Q (F0 m 40 ls [.int (nI v)]) := by
  obtain ⟨hx, hb, hml, hown, hts, hKN, -⟩ := id X
  by_cases h : v < 56
  · obtain ⟨c1, c2, c3, c4⟩ := lw_sw_in v h
    exact lv_tableIn (tgt := lwPc v) hx hb dL_law_40 c1 c2 c3 c4 (h_any X hAO hst hNS hX hbl hbA hcl h5 hcap hl hI kk v h)
  · refine lv_tableOut (tgt := 1535) hx hb dL_law_40 (lw_sw_out v hv h) (by decide) ?_
    exact W.widen (Nat.le_add_right _ _) (Nat.le_add_right _ _) (kk ls H locs hl (lwI_up hI))
theorem lw_i6 (j n : Nat) {k : Int32} (hk : k = nI n) : nI (6 * j) + k = nI (6 * j + n) := by rw [hk, nI_add]
/-- the law's loop: j calls have been made -/
theorem law_loop (X : mx_X p s m args meth c RL name cL_law 7 ret G) (hAO : va_AO "RiverCorset$State" s) (hst : l.stackTraces = false) (hNS : nseK A s s.heap) (hX : va_X b L xs s s.heap) (hbl : b < s.heap.size) (hbA : ¬ A b) (hL : L ≤ 3072) (kend : ∀ (ls : Array Slot) (H : Heap) (locs : List Loc) (j : Nat), j ≤ 512 → lwI G s A j qo b0 m0 H locs → W p l e room_1 s m args below meth c H locs (200 + 20 * j) (6000 + 200 * j) Q (F0 m 1541 ls [])) : ∀ (d j : Nat), 6 * j ≤ L → L < 6 * (j + d) + 6 → ∀ (ls : Array Slot) (H : Heap) (locs : List Loc), lv_has ls 7 [(0, .ref b), (1, .ref b0), (2, .ref m0), (3, .ref qo), (4, .int (nI (6 * j)))] → lwI G s A j qo b0 m0 H locs → W p l e room_1 s m args below meth c H locs (200 + 20 * j) (6000 + 200 * j) Q (F0 m 23 ls []) := by
  obtain ⟨hx, hb, hml, hown, hts, hKN, -⟩ := id X
  have hWS : ∀ {j : Nat} {H : Heap} {locs : List Loc}, lwI G s A j qo b0 m0 H locs → va_S A s.heap H locs := by
    intro j H locs h
    rcases h with ⟨qa, aK, aM, aKw, aMw, ci, cf, cn, cc, fo, qm, vr, mi, mf, mw, qr, ri, rf, rn, kl, kb, kf, ks, kw, mlM, mbM, mfM, msM, mwM, rfl, rfl, hW, hr⟩ | ⟨qa, aK, aM, aKw, aMw, ci, cf, cn, cc, fo, qm, vr, mi, mf, mw, kl, kb, kf, ks, kw, mlM, mbM, mfM, msM, mwM, rfl, rfl, hW, hr⟩
    · exact hW.2.2.1
    · exact hW.2.2.1
  intro d
  induction d with
  | zero =>
    intro j hj hd ls H locs hl hI
    refine lv_iload hx hb dL_law_23 (lv_at hl 4 rfl) ?_
    refine lv_aload_n hx hb dL_law_25 rfl (lv_at hl 0 rfl) ?_
    refine va_slen hx hb hX hbl hbA (hWS hI) dL_law_26 ?_
    refine lv_bipush (v := 6) hx hb dL_law_27 (by decide) ?_
    refine lv_isub hx hb dL_law_29 ?_
    refine lv_icmp_gt (tgt := 1541) hx hb dL_law_30 (by decide) (fun _ => kend ls H locs j (by omega) hI) (fun h => ?_)
    exfalso
    apply h
    show nI L - nI 6 < nI (6 * j)
    rw [i32_lt, pk_sub_toInt (by omega) (by decide), nI_toInt (by omega)]
    omega
  | succ d ih =>
    intro j hj hd ls H locs hl hI
    refine lv_iload hx hb dL_law_23 (lv_at hl 4 rfl) ?_
    refine lv_aload_n hx hb dL_law_25 rfl (lv_at hl 0 rfl) ?_
    refine va_slen hx hb hX hbl hbA (hWS hI) dL_law_26 ?_
    refine lv_bipush (v := 6) hx hb dL_law_27 (by decide) ?_
    refine lv_isub hx hb dL_law_29 ?_
    refine lv_icmp_gt (tgt := 1541) hx hb dL_law_30 (by decide) (fun _ => kend ls H locs j (by omega) hI) (fun h => ?_)
    have hle : 6 * j + 6 ≤ L := by
      have h2 : ¬ nI L - nI 6 < nI (6 * j) := h
      rw [i32_lt, pk_sub_toInt (by omega) (by decide), nI_toInt (by omega)] at h2
      omega
    refine lv_aload_n hx hb dL_law_33 rfl (lv_at hl 0 rfl) ?_
    refine lv_iload hx hb dL_law_34 (lv_at hl 4 rfl) ?_
    refine va_sld hx hb hX hbl hbA (hWS hI) (vp_in_nI (by omega) (by omega)) dL_law_36 ?_
    refine lv_bipush (v := 63) hx hb dL_law_37 (by decide) ?_
    refine lv_iand hx hb dL_law_39 ?_
    obtain ⟨v, hv, e⟩ := and63 (xs (nI (6 * j)).toNatClampNeg)
    rw [e]
    refine h_sw (i := nI (6 * j)) X hAO hst hNS hX hbl hbA ⟨Nat.le_trans (show 200 + 20 * j + 20 ≤ 20000 by omega) (by decide), Nat.le_trans (show 6000 + 200 * j + 200 ≤ 200000 by omega) (by decide)⟩ ⟨?_, ?_, ?_, ?_, ?_⟩ (Nat.lt_of_le_of_lt (show j ≤ 512 by omega) (by decide)) hl hI (fun ls H1 locs1 hl hI => ?_) hv
    · rw [lw_i6 (k := 1) j 1 rfl]; exact vp_in_nI (by omega) (by omega)
    · rw [lw_i6 (k := 2) j 2 rfl]; exact vp_in_nI (by omega) (by omega)
    · rw [lw_i6 (k := 3) j 3 rfl]; exact vp_in_nI (by omega) (by omega)
    · rw [lw_i6 (k := 4) j 4 rfl]; exact vp_in_nI (by omega) (by omega)
    · rw [lw_i6 (k := 5) j 5 rfl]; exact vp_in_nI (by omega) (by omega)
    · refine lv_iinc (v := nI (6 * (j + 1))) (lv' := [(4, .int (nI (6 * (j + 1)))), (0, .ref b), (1, .ref b0), (2, .ref m0), (3, .ref qo)]) hx hb dL_law_1535 hl (k := 4) rfl (lw_i6 j 6 rfl) (by decide) rfl (fun ls hl => ?_)
      refine lv_goto (tgt := 23) hx hb dL_law_1538 (by decide) ?_
      exact W.widen (by omega) (by omega) (ih (j + 1) (by omega) (by omega) ls H1 locs1 (lv_sub hl [1, 2, 3, 4, 0] rfl) hI)
end LAWH
