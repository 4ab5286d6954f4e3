/-! the claim -/
/-- the law's own end, with 1 on the stack, nothing written that was there before, its room as the claim has it -/
theorem lw_ret {p : Program} {l : Launch} {e : Env} {s : State} {m : MethodId} {below : List Frame} {meth : Method} {c : Code} {b : Nat} (hx : p.tables.exec = Jvm.exec) (hb : c.code = code) (hr : meth.sig.returnType = ret) (hlocks : meth.locks = false) {pc : Nat} {H : Heap} {ls : Array Slot} (hdg : decode code pc = .ok (.ireturn, 1)) : W p l e room_1 s m #[Value.ref b] below meth c H [] 601024 7293034 (lw_Z below #[Value.ref b] s) (F0 m pc ls [.int 1]) := by
  intro T hT X
  obtain ⟨fs, hret, hrun, hended, hW, hframe⟩ := X.leave (v := some (.int 1)) (hlocks := hlocks) (fun h => by rw [hr] at h; cases h)
  have hmeth' : T.vm.method? m = some meth := X.method'
  refine ⟨T.setFrames fs, ?_, .returned (some (.int 1)), hrun, hended, rfl, ⟨_, rfl⟩, hW, hframe⟩
  jvm_step X.here [X.here.top, hx, hb, hdg, hmeth', hr, ret, narrow_b1]
  (try refine ⟨rfl, ?_⟩); (try refine ⟨rfl, ?_⟩)
  first | (intro acts; rw [hret _ acts rfl rfl rfl]) | rw [hret _ _ rfl rfl rfl]
  exact Steps.refl _
set_option maxHeartbeats 8000000 in
set_option maxRecDepth 20000 in
theorem whole_start {p : Program} {e : Env} {s : State} {m : MethodId} {below : List Frame} {meth : Method} {c : Code} (l : Launch) (hst : l.stackTraces = false) {b L : Nat} {xs : Nat → Int32} (hL : L ≤ 3072) (C0 : lw_At p s m meth c b L xs) : W p l e room_1 s m #[Value.ref b] below meth c s.heap [] 0 0 (lw_Z below #[Value.ref b] s) (entryFrame m ([Value.ref b] : List Value).toArray 7) := by
  obtain ⟨G, hKN, hST, hAO, hNS⟩ := law_G C0
  obtain ⟨hx, hb, hr, hml, hown, hts, hX, hbl, hlocks, hgv⟩ := id C0
  have X : mx_X p s m #[Value.ref b] meth c RL meth.name cL_law 7 ret G := ⟨hx, hb, hml, hown, fun w hw => hts w (TB_in w hw), hKN, hr, hlocks, rfl⟩
  have hbA : ¬ (fun q : Nat => s.heap.size ≤ q) b := Nat.not_le.mpr hbl
  have hl := lv_entry [.ref b] (n := 7) (Nat.le_of_ble_eq_true rfl)
  rw [lg_entry_eq]
  generalize (lg_sl ([.ref b]) ++ List.replicate (7 - (lg_sl ([.ref b])).length) Slot.unset).toArray = ls at hl ⊢
  have hl : lv_has ls 7 [(0, .ref b)] := hl
  have hW : mx_W G s (fun q : Nat => s.heap.size ≤ q) [] s.heap [] := ⟨fun k q hq => by simp at hq, ⟨fun i j p q hi => by simp at hi, fun k q hq => by simp at hq⟩, va_S.rf, fun q h => h, hST⟩
  refine mx_new (C := RX10) (T := TX10) (N := 11) (ci := 10) (fs := [.null, .null, .null, .null, .null, .null, .null, .null, .null, .null, .int 0]) X hW rfl tbc_X10 tyX10 tyX10_ok kw_0 kw_1 kw_2 (fun j hj => by have h := (show ∀ j, j < 11 → defaultValue (tyX10 j) = vp_V [.null, .null, .null, .null, .null, .null, .null, .null, .null, .null, .int 0] j by decide +kernel) j hj; exact h) ⟨by decide, by decide⟩ dL_law_0 (fun q H hW => ?_)
  have hW : mx_W G s (fun q : Nat => s.heap.size ≤ q) [xO q 10 [.null, .null, .null, .null, .null, .null, .null, .null, .null, .null, .int 0]] H _ := hW
  refine lv_dup hx hb dL_law_3 rfl ?_
  refine mx_callI (rest := [.ref q]) (wr := []) X hAO hW hl.1 (c_X10_init l G q) kw_7 kw_8 kw_2 kw_9 rfl (by decide +kernel) ⟨rfl, rfl⟩ ⟨by decide, by decide⟩ ⟨by decide, by decide⟩ [0] [] (by decide) rfl rfl (by decide) (by decide) (Nat.le_of_ble_eq_true rfl) dL_law_4 (fun a H locs hW => ?_)
  have hW : mx_W G s (fun q : Nat => s.heap.size ≤ q) (wA G q a) H _ := hW
  refine lv_astore_n (lv' := [(1, .ref q), (0, .ref b)]) hx hb dL_law_7 rfl hl (by decide) rfl (fun ls hl => ?_)
  refine mx_new (C := RX12) (T := TX12) (N := 39) (ci := 12) (fs := [.int 0, .int 0, .int 0, .null, .null, .null, .int 0, .int 0, .int 0, .int 0, .int 0, .int 0, .int 0, .int 0, .long 0, .null, .null, .null, .null, .int 0, .int 0, .null, .null, .null, .null, .int 0, .int 0, .int 0, .int 0, .int 0, .int 0, .int 0, .int 0, .int 0, .null, .int 0, .null, .null, .int 0]) X hW rfl tbc_X12 tyX12 tyX12_ok kw_3 kw_4 kw_5 (fun j hj => by have h := (show ∀ j, j < 39 → defaultValue (tyX12 j) = vp_V [.int 0, .int 0, .int 0, .null, .null, .null, .int 0, .int 0, .int 0, .int 0, .int 0, .int 0, .int 0, .int 0, .long 0, .null, .null, .null, .null, .int 0, .int 0, .null, .null, .null, .null, .int 0, .int 0, .int 0, .int 0, .int 0, .int 0, .int 0, .int 0, .int 0, .null, .int 0, .null, .null, .int 0] j by decide +kernel) j hj; exact h) ⟨by decide, by decide⟩ dL_law_8 (fun q2 H hW => ?_)
  have hW : mx_W G s (fun q : Nat => s.heap.size ≤ q) ([xO q2 12 [.int 0, .int 0, .int 0, .null, .null, .null, .int 0, .int 0, .int 0, .int 0, .int 0, .int 0, .int 0, .int 0, .long 0, .null, .null, .null, .null, .int 0, .int 0, .null, .null, .null, .null, .int 0, .int 0, .int 0, .int 0, .int 0, .int 0, .int 0, .int 0, .int 0, .null, .int 0, .null, .null, .int 0]] ++ wA G q a) H _ := mx_W_perm hW List.perm_append_comm
  refine lv_dup hx hb dL_law_11 rfl ?_
  refine mx_callI (rest := [.ref q2]) (wr := wA G q a) X hAO hW hl.1 (c_X12_init l G q2) kw_128 kw_129 kw_5 kw_130 rfl (by decide +kernel) ⟨rfl, rfl⟩ ⟨by decide, by decide⟩ ⟨by decide, by decide⟩ [0] ((List.range (wA G q a).length).map (fun j => ([xO q2 12 [.int 0, .int 0, .int 0, .null, .null, .null, .int 0, .int 0, .int 0, .int 0, .int 0, .int 0, .int 0, .int 0, .long 0, .null, .null, .null, .null, .int 0, .int 0, .null, .null, .null, .null, .int 0, .int 0, .int 0, .int 0, .int 0, .int 0, .int 0, .int 0, .int 0, .null, .int 0, .null, .null, .int 0]] : va_W).length + j)) (by decide) rfl (mx_rng _ _) (lw_nd _) (lw_dis _) (Nat.le_of_ble_eq_true rfl) dL_law_12 (fun a2 H locs hW => ?_)
  have hW : mx_W G s (fun q : Nat => s.heap.size ≤ q) (wA G q a ++ wB G q2 a2) H _ := hW
  refine lv_astore_n (lv' := [(2, .ref q2), (1, .ref q), (0, .ref b)]) hx hb dL_law_15 rfl hl (by decide) rfl (fun ls hl => ?_)
  refine lv_iconst (v := 1) hx hb dL_law_16 (by decide) ?_
  refine mx_newJ 1 X hW (by decide) rfl (by decide) ⟨by decide, by decide⟩ dL_law_17 (fun qo H hW => ?_)
  refine lv_astore_n (lv' := [(3, .ref qo), (2, .ref q2), (1, .ref q), (0, .ref b)]) hx hb dL_law_19 rfl hl (by decide) rfl (fun ls hl => ?_)
  refine lv_iconst (v := 0) hx hb dL_law_20 (by decide) ?_
  refine lv_istore (lv' := [(4, .int 0), (3, .ref qo), (2, .ref q2), (1, .ref q), (0, .ref b)]) hx hb dL_law_21 hl (by decide) rfl (fun ls hl => ?_)
  have hI : lwI G s (fun q : Nat => s.heap.size ≤ q) 0 qo q q2 H _ := lw_world hW
  have hl : lv_has ls 7 [(0, .ref b), (1, .ref q), (2, .ref q2), (3, .ref qo), (4, .int (nI (6 * 0)))] := lv_sub hl [4, 3, 2, 1, 0] rfl
  refine W.widen (show _ ≤ 200 + 20 * 0 by decide) (show _ ≤ 6000 + 200 * 0 by decide) (law_loop X hAO hst hNS hX hbl hbA hL (fun ls H locs j hj hI => ?_) (L / 6) 0 (by omega) (by omega) ls H _ hl hI)
  refine lv_iconst (v := 1) hx hb dL_law_1541 (by decide) ?_
  refine va_forget (fun q hq => ?_) (W.widen (show 200 + 20 * j ≤ 601024 by omega) (show 6000 + 200 * j ≤ 7293034 by omega) (lw_ret hx hb hr hlocks dL_law_1542))
  rcases hI with ⟨qa, aK, aM, aKw, aMw, ci, cf, cn, cc, fo, qm, vr, mi, mf, mw, qr, ri, rf, rn, kl, kb, kf, ks, kw, mlM, mbM, mfM, msM, mwM, rfl, rfl, hW, hr⟩ | ⟨qa, aK, aM, aKw, aMw, ci, cf, cn, cc, fo, qm, vr, mi, mf, mw, kl, kb, kf, ks, kw, mlM, mbM, mfM, msM, mwM, rfl, rfl, hW, hr⟩
  · exact hW.2.2.1.2.2 q hq
  · exact hW.2.2.1.2.2 q hq
