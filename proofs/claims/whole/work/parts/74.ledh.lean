/-! the law's helper: out[0] = x.led(p0), or 1 where it throws -/
abbrev rm_L_led : Room := { frames := 8, cells := 0, slots := 0, locals := 140 }
abbrev rm_L_ledT : Room := { frames := 8, cells := 1, slots := 6, locals := 140 }
theorem mx_gW : GoodIn TB (va_wsS RL 237 yL_led (.codeWith yL_led cL_led 4 (some .int) [(0, 9, 12, 13)] :: TB)) := by
  intro w hw
  have h : w ∈ TB := by
    rcases List.mem_append.mp (show w ∈ ([.methodLink RL 237 yL_led, .static yL_led, .initialized yL_led.cls] : List Cond) ++ (.codeWith yL_led cL_led 4 (some .int) [(0, 9, 12, 13)] :: TB) from hw) with h | h
    · rcases List.mem_cons.mp h with rfl | h
      · exact kw_1494
      rcases List.mem_cons.mp h with rfl | h
      · exact kw_1495
      rcases List.mem_cons.mp h with rfl | h
      · exact kw_1496
      cases h
    · rcases List.mem_cons.mp h with rfl | h
      · exact kw_1497
      · exact h
  exact ⟨h, TB_good w h⟩
theorem h_led_ret (l : Launch) (G : mx_G) (q_t q_n q_r : Nat) (v1 v2 v3 v4 v5 v6 v7 v8 v9 u1 u2 u3 u4 r1 r2 r3 r4 r5 r6 r7 r8 r9 r10 r11 r12 r13 r14 r15 r16 r17 : Value) (la ro p1 : Int32) (q_o : Nat) (f : Nat → Int64) (x : Int32) (hm : f_led_L p1 la ro 2000 0 0 = some (some x)) (sz : Nat) : Met l yL_led (.codeWith yL_led cL_led 4 (some .int) [(0, 9, 12, 13)] :: TB) rm_L_led (mx_P G [.ref q_t, .int p1, .ref q_o] sz [xO q_t 10 [v1, .ref q_n, v2, v3, v4, v5, v6, v7, v8, .ref q_r, v9], xO q_n 7 [.int la, u1, u2, u3, u4], xO q_r 6 [r1, r2, r3, .int ro, r4, r5, r6, r7, r8, r9, r10, r11, r12, r13, r14, r15, r16, r17], xJ G q_o 1 f]) (mx_Q G (some (.int 0)) [xO q_t 10 [v1, .ref q_n, v2, v3, v4, v5, v6, v7, v8, .ref q_r, v9], xO q_n 7 [.int la, u1, u2, u3, u4], xO q_r 6 [r1, r2, r3, .int ro, r4, r5, r6, r7, r8, r9, r10, r11, r12, r13, r14, r15, r16, r17], xJ G q_o 1 (vp_updL f 0 x.toInt64)] (va_A [xO q_t 10 [v1, .ref q_n, v2, v3, v4, v5, v6, v7, v8, .ref q_r, v9], xO q_n 7 [.int la, u1, u2, u3, u4], xO q_r 6 [r1, r2, r3, .int ro, r4, r5, r6, r7, r8, r9, r10, r11, r12, r13, r14, r15, r16, r17], xJ G q_o 1 f] sz)) 0 0 (va_A [xO q_t 10 [v1, .ref q_n, v2, v3, v4, v5, v6, v7, v8, .ref q_r, v9], xO q_n 7 [.int la, u1, u2, u3, u4], xO q_r 6 [r1, r2, r3, .int ro, r4, r5, r6, r7, r8, r9, r10, r11, r12, r13, r14, r15, r16, r17], xJ G q_o 1 f] sz) := by
  refine va_MetW (cc := cL_led) (maxL := 4) (ret := some .int) (by decide) rfl ?_
  intro p e s m args below meth c s₁ B hml hv
  obtain ⟨rfl, hsz, hP, hK, hD0, hST⟩ := hv
  subst hsz
  have hl := lv_entry [.ref q_t, .int p1, .ref q_o] (n := 4) (Nat.le_of_ble_eq_true rfl)
  rw [lg_entry_eq]
  generalize (lg_sl ([.ref q_t, .int p1, .ref q_o]) ++ List.replicate (4 - (lg_sl ([.ref q_t, .int p1, .ref q_o])).length) Slot.unset).toArray = ls at hl ⊢
  have hl : lv_has ls 4 [(0, .ref q_t), (1, .int p1), (2, .ref q_o)] := hl
  have X : mx_X p s m _ meth c RL "led" cL_led 4 (some .int) G := ⟨B.exec, B.bytes, hml, findClass_of_methodNamed B.named, fun w' hw' => atoms_spec (ws := (.codeWith yL_led cL_led 4 (some .int) [(0, 9, 12, 13)] :: TB)) B.pre w' (List.mem_cons_of_mem _ hw'), hK, B.returns, B.notSynchronized, (name_of_methodNamed B.named B.method).1⟩
  have hW : mx_W G s (va_A [xO q_t 10 [v1, .ref q_n, v2, v3, v4, v5, v6, v7, v8, .ref q_r, v9], xO q_n 7 [.int la, u1, u2, u3, u4], xO q_r 6 [r1, r2, r3, .int ro, r4, r5, r6, r7, r8, r9, r10, r11, r12, r13, r14, r15, r16, r17], xJ G q_o 1 f] s.heap.size) [xO q_t 10 [v1, .ref q_n, v2, v3, v4, v5, v6, v7, v8, .ref q_r, v9], xO q_n 7 [.int la, u1, u2, u3, u4], xO q_r 6 [r1, r2, r3, .int ro, r4, r5, r6, r7, r8, r9, r10, r11, r12, r13, r14, r15, r16, r17], xJ G q_o 1 f] s.heap [] := ⟨hP, hD0.self, va_S.rf, fun q h => Or.inr h, hST⟩
  obtain ⟨hx, hb, hml, hown, hts, hKN, -⟩ := id X
  refine lv_aload_n hx hb dL_led_0 rfl (lv_at hl 2 rfl) ?_
  refine lv_iconst (v := 0) hx hb dL_led_1 (by decide) ?_
  refine lv_aload_n hx hb dL_led_2 rfl (lv_at hl 0 rfl) ?_
  refine lv_iload_n hx hb dL_led_3 rfl (lv_at hl 1 rfl) ?_
  refine mx_callV (C := RX10) (T := TX10) (N := 11) (ci := 10) (n := 1) (As := [.int p1]) (rest := [.int 0, .ref q_o]) (st1 := [.int x, .int 0, .ref q_o]) (w2 := [xO q_t 10 [v1, .ref q_n, v2, v3, v4, v5, v6, v7, v8, .ref q_r, v9], xO q_n 7 [.int la, u1, u2, u3, u4], xO q_r 6 [r1, r2, r3, .int ro, r4, r5, r6, r7, r8, r9, r10, r11, r12, r13, r14, r15, r16, r17], xJ G q_o 1 f]) X hW hl.1 (c_led_ret l G q_t q_n q_r v1 v2 v3 v4 v5 v6 v7 v8 v9 u1 u2 u3 u4 r1 r2 r3 r4 r5 r6 r7 r8 r9 r10 r11 r12 r13 r14 r15 r16 r17 la ro p1 x hm) 0 rfl rfl kw_1499 kw_1500 kw_1501 kw_2 kw_1502 (by decide +kernel) ⟨rfl, rfl⟩ ⟨by decide, by decide⟩ ⟨Nat.zero_le _, Nat.zero_le _⟩ [0, 1, 2] (by decide) rfl rfl rfl rfl rfl rfl (Nat.le_of_ble_eq_true rfl) rfl dL_led_4 (fun H locs hW => ?_)
  refine lv_i2l hx hb dL_led_7 rfl ?_
  refine mx_last (w2 := [xO q_t 10 [v1, .ref q_n, v2, v3, v4, v5, v6, v7, v8, .ref q_r, v9], xO q_n 7 [.int la, u1, u2, u3, u4], xO q_r 6 [r1, r2, r3, .int ro, r4, r5, r6, r7, r8, r9, r10, r11, r12, r13, r14, r15, r16, r17], xJ G q_o 1 (vp_updL f 0 x.toInt64)]) X hW 3 rfl (inb_s (show inb 0 1 = true by decide)) rfl dL_led_8 (fun H locs hW => ?_)
  refine lv_goto (tgt := 15) hx hb dL_led_9 (by decide) ?_
  refine lv_iconst (v := 0) hx hb dL_led_15 (by decide) ?_
  exact mx_iret X hW dL_led_16
theorem h_led_thr (l : Launch) (hst : l.stackTraces = false) (G : mx_G) (q_t q_n q_r : Nat) (v1 v2 v3 v4 v5 v6 v7 v8 v9 u1 u2 u3 u4 r1 r2 r3 r4 r5 r6 r7 r8 r9 r10 r11 r12 r13 r14 r15 r16 r17 : Value) (la ro p1 : Int32) (q_o : Nat) (f : Nat → Int64) (hm : f_led_L p1 la ro 2000 0 0 = some none) (sz : Nat) : Met l yL_led (.codeWith yL_led cL_led 4 (some .int) [(0, 9, 12, 13)] :: TB) rm_L_ledT (mx_PX G [.ref q_t, .int p1, .ref q_o] sz [xO q_t 10 [v1, .ref q_n, v2, v3, v4, v5, v6, v7, v8, .ref q_r, v9], xO q_n 7 [.int la, u1, u2, u3, u4], xO q_r 6 [r1, r2, r3, .int ro, r4, r5, r6, r7, r8, r9, r10, r11, r12, r13, r14, r15, r16, r17], xJ G q_o 1 f]) (mx_Q G (some (.int 1)) [xO q_t 10 [v1, .ref q_n, v2, v3, v4, v5, v6, v7, v8, .ref q_r, v9], xO q_n 7 [.int la, u1, u2, u3, u4], xO q_r 6 [r1, r2, r3, .int ro, r4, r5, r6, r7, r8, r9, r10, r11, r12, r13, r14, r15, r16, r17], xJ G q_o 1 f] (va_A [xO q_t 10 [v1, .ref q_n, v2, v3, v4, v5, v6, v7, v8, .ref q_r, v9], xO q_n 7 [.int la, u1, u2, u3, u4], xO q_r 6 [r1, r2, r3, .int ro, r4, r5, r6, r7, r8, r9, r10, r11, r12, r13, r14, r15, r16, r17], xJ G q_o 1 f] sz)) 1 6 (va_A [xO q_t 10 [v1, .ref q_n, v2, v3, v4, v5, v6, v7, v8, .ref q_r, v9], xO q_n 7 [.int la, u1, u2, u3, u4], xO q_r 6 [r1, r2, r3, .int ro, r4, r5, r6, r7, r8, r9, r10, r11, r12, r13, r14, r15, r16, r17], xJ G q_o 1 f] sz) := by
  refine va_MetW (cc := cL_led) (maxL := 4) (ret := some .int) (by decide) rfl ?_
  intro p e s m args below meth c s₁ B hml hv
  obtain ⟨⟨rfl, hsz, hP, hK, hD0, hST⟩, hN⟩ := hv
  subst hsz
  have hl := lv_entry [.ref q_t, .int p1, .ref q_o] (n := 4) (Nat.le_of_ble_eq_true rfl)
  rw [lg_entry_eq]
  generalize (lg_sl ([.ref q_t, .int p1, .ref q_o]) ++ List.replicate (4 - (lg_sl ([.ref q_t, .int p1, .ref q_o])).length) Slot.unset).toArray = ls at hl ⊢
  have hl : lv_has ls 4 [(0, .ref q_t), (1, .int p1), (2, .ref q_o)] := hl
  have X : mx_X p s m _ meth c RL "led" cL_led 4 (some .int) G := ⟨B.exec, B.bytes, hml, findClass_of_methodNamed B.named, fun w' hw' => atoms_spec (ws := (.codeWith yL_led cL_led 4 (some .int) [(0, 9, 12, 13)] :: TB)) B.pre w' (List.mem_cons_of_mem _ hw'), hK, B.returns, B.notSynchronized, (name_of_methodNamed B.named B.method).1⟩
  have hW : mx_W G s (va_A [xO q_t 10 [v1, .ref q_n, v2, v3, v4, v5, v6, v7, v8, .ref q_r, v9], xO q_n 7 [.int la, u1, u2, u3, u4], xO q_r 6 [r1, r2, r3, .int ro, r4, r5, r6, r7, r8, r9, r10, r11, r12, r13, r14, r15, r16, r17], xJ G q_o 1 f] s.heap.size) [xO q_t 10 [v1, .ref q_n, v2, v3, v4, v5, v6, v7, v8, .ref q_r, v9], xO q_n 7 [.int la, u1, u2, u3, u4], xO q_r 6 [r1, r2, r3, .int ro, r4, r5, r6, r7, r8, r9, r10, r11, r12, r13, r14, r15, r16, r17], xJ G q_o 1 f] s.heap [] := ⟨hP, hD0.self, va_S.rf, fun q h => Or.inr h, hST⟩
  have hcode : (Cond.codeWith yL_led cL_led 4 (some .int) [(0, 9, 12, 13)]).before #[.ref q_t, .int p1, .ref q_o] s = true := atoms_spec (ws := (.codeWith yL_led cL_led 4 (some .int) [(0, 9, 12, 13)] :: TB)) B.pre _ List.mem_cons_self
  have htab : c.exceptionTable.toList = tableOf [(0, 9, 12, 13)] := vx_table (x := yL_led) B hcode
  obtain ⟨hx, hb, hml, hown, hts, hKN, -⟩ := id X
  refine lv_aload_n hx hb dL_led_0 rfl (lv_at hl 2 rfl) ?_
  refine lv_iconst (v := 0) hx hb dL_led_1 (by decide) ?_
  refine lv_aload_n hx hb dL_led_2 rfl (lv_at hl 0 rfl) ?_
  refine lv_iload_n hx hb dL_led_3 rfl (lv_at hl 1 rfl) ?_
  have hin := mx_inC (wc := [xO q_t 10 [v1, .ref q_n, v2, v3, v4, v5, v6, v7, v8, .ref q_r, v9], xO q_n 7 [.int la, u1, u2, u3, u4], xO q_r 6 [r1, r2, r3, .int ro, r4, r5, r6, r7, r8, r9, r10, r11, r12, r13, r14, r15, r16, r17]]) hW [0, 1, 2] rfl (by decide)
  have hfree := va_free (wc := [xO q_t 10 [v1, .ref q_n, v2, v3, v4, v5, v6, v7, v8, .ref q_r, v9], xO q_n 7 [.int la, u1, u2, u3, u4], xO q_r 6 [r1, r2, r3, .int ro, r4, r5, r6, r7, r8, r9, r10, r11, r12, r13, r14, r15, r16, r17]]) hW.2.1 hW.2.2.1 hW.2.2.2.1 [0, 1, 2] rfl
  refine vx_calli (vx_runV (cc := cL_led) (nL := 4) (Ts := TB) (own := RL) (C := RX10) (As := [.int p1]) (rest := [.int 0, .ref q_o]) ⟨hx, hb, hml, hown, hts⟩ (c_led_thr l hst G q_t q_n q_r v1 v2 v3 v4 v5 v6 v7 v8 v9 u1 u2 u3 u4 r1 r2 r3 r4 r5 r6 r7 r8 r9 r10 r11 r12 r13 r14 r15 r16 r17 la ro p1 hm s.heap.size) (cwV 1 hts (mx_gV (c0 := .initialized RX10) kw_1499 kw_1500 kw_1501 kw_2 kw_1502) rfl rfl rfl (by decide +kernel) ⟨by decide, by decide⟩) ⟨mx_blindX, va_recv hKN.1 hin.1 (ci := 10) (q0 := 0) rfl rfl, fun U hU hWm => ⟨⟨rfl, by rw [hU], by rw [hU]; exact hin.1, hKN.moved hWm, hin.2, by rw [hU]; exact mx_ST.moved hWm hW.2.2.2.2 hW.2.2.1 hfree⟩, by rw [hU]; exact nseK.moved hWm hN hW.2.2.1 hfree⟩⟩ rfl rfl hl.1 rfl (lv_room (Nat.le_of_ble_eq_true rfl)) dL_led_4 ⟨by decide, by decide⟩) hW.2.2.1 (fun q _ h => hfree q h) hfree (fun q _ h => hfree q h) ?_ ?_
  · intro E ce q9 u t H1 locs1 ht hvm hpx hBX hsz hk hS1 hce hcv hcl
    obtain ⟨rfl, hP1⟩ := hBX
    have hW1 : mx_W G s (va_A [xO q_t 10 [v1, .ref q_n, v2, v3, v4, v5, v6, v7, v8, .ref q_r, v9], xO q_n 7 [.int la, u1, u2, u3, u4], xO q_r 6 [r1, r2, r3, .int ro, r4, r5, r6, r7, r8, r9, r10, r11, r12, r13, r14, r15, r16, r17], xJ G q_o 1 f] s.heap.size) [xO q_t 10 [v1, .ref q_n, v2, v3, v4, v5, v6, v7, v8, .ref q_r, v9], xO q_n 7 [.int la, u1, u2, u3, u4], xO q_r 6 [r1, r2, r3, .int ro, r4, r5, r6, r7, r8, r9, r10, r11, r12, r13, r14, r15, r16, r17], xJ G q_o 1 f] H1 locs1 := by
      refine ⟨fun k q hq => ?_, hW.2.1, hS1, hW.2.2.2.1, hW.2.2.2.2⟩
      match k, hq with
      | 0, hq => cases hq; rw [← ht]; exact hP1 0 _ rfl
      | 1, hq => cases hq; rw [← ht]; exact hP1 1 _ rfl
      | 2, hq => cases hq; rw [← ht]; exact hP1 2 _ rfl
      | 3, hq =>
        have h0 := hW.1 3 q hq
        refine h0.kept (hk q.1 h0.lt fun h => ?_)
        rcases h with ⟨k2, e2, h⟩ | h
        · have h2 : ([xO q_t 10 [v1, .ref q_n, v2, v3, v4, v5, v6, v7, v8, .ref q_r, v9], xO q_n 7 [.int la, u1, u2, u3, u4], xO q_r 6 [r1, r2, r3, .int ro, r4, r5, r6, r7, r8, r9, r10, r11, r12, r13, r14, r15, r16, r17]] : va_W)[k2]? = some (q.1, e2) := h
          have hlt : k2 < 3 := (List.getElem?_eq_some_iff.mp h2).1
          have h3 : ([xO q_t 10 [v1, .ref q_n, v2, v3, v4, v5, v6, v7, v8, .ref q_r, v9], xO q_n 7 [.int la, u1, u2, u3, u4], xO q_r 6 [r1, r2, r3, .int ro, r4, r5, r6, r7, r8, r9, r10, r11, r12, r13, r14, r15, r16, r17], xJ G q_o 1 f] : va_W)[k2]? = some (q.1, e2) := by
            match k2, hlt with
            | 0, _ => exact h2
            | 1, _ => exact h2
            | 2, _ => exact h2
          have := hW.2.1.1 3 k2 q (q.1, e2) hq h3 rfl
          omega
        · exact absurd h0.lt (Nat.not_lt.mpr h)
      | k + 4, hq => cases hq
    refine vx_catch (own := RL) (name := nse) (E := nse) (ce := ce) hown [] ⟨0, 9, 12, 13⟩ [] ?_ (fun z hz => nomatch hz) (by decide) (by decide) (hts _ kw_1498) ?_ hce hcv hcl ?_
    · rw [htab]; rfl
    · exact va_Nw.use rfl (hN.1 (.castable nse nse) (by decide +kernel))
    · refine lv_astore_n (lv' := [(3, .ref q9), (0, .ref q_t), (1, .int p1), (2, .ref q_o)]) hx hb dL_led_12 rfl hl (by decide) rfl (fun ls hl => ?_)
      refine lv_iconst (v := 1) hx hb dL_led_13 (by decide) ?_
      exact mx_iret X hW1 dL_led_14
  · intro r u t H1 locs1 ht hvm hpost
    exact hpost.elim
