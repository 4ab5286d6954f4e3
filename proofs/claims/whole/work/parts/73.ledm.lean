/-! led: it returns, or it throws; the law's own helper -/
def nse : String := "java/util/NoSuchElementException"
def nseUp : List String := ["java/lang/RuntimeException", "java/lang/Exception"]
def nseB : List Cond := (vx_at0 RX10 351 nse nseUp).filter (fun w => !goodWord w)
def nse_is : Cond → Bool
  | .declares _ => true
  | .castable _ _ => true
  | _ => false
theorem nse_in : ∀ w ∈ vx_at0 RX10 351 nse nseUp, w ∈ lw_tbl := by decide +kernel
theorem nseB_is : ∀ w ∈ nseB, nse_is w = true := by decide +kernel
theorem nseB_ot : ∀ w ∈ nseB, w.onTables = true := by decide +kernel
theorem nseB_in : ∀ w ∈ nseB, w ∈ lw_tbl := fun w h => nse_in w (List.mem_filter.mp h).1
theorem nseG_TB : ∀ w ∈ (vx_at0 RX10 351 nse nseUp).filter goodWord, w ∈ TB := fun w h => List.mem_filter.mpr ⟨nse_in w (List.mem_filter.mp h).1, (List.mem_filter.mp h).2⟩
theorem nse_vot : ∀ w ∈ Cond.classLink RX10 349 nse :: Cond.initialized nse :: vx_at0 RX10 351 nse nseUp, vx_ot w = true := by decide +kernel
/-- what a throw leans on beside the tables' good words -/
def nseK (A : Nat → Prop) (U : State) (H : Heap) : Prop := (∀ w ∈ nseB, va_Nw w U) ∧ vx_Zq Bundle.tN "UNASSIGNED_STACK" Bundle.steD A U H ∧ vx_Zq Bundle.tN "SUPPRESSED_SENTINEL" Bundle.listD A U H
theorem nseK.moved {s U : State} {A B : Nat → Prop} {H : Heap} {locs : List Loc} (hW : s.WarmedH U.vm) (h : nseK A s s.heap) (hS : va_S A s.heap H locs) (hBA : ∀ q, B q → A q) : nseK B U H := by
  obtain ⟨h1, h2, h3⟩ := h
  have hk : ∀ a : Nat, a < s.heap.size → ¬ A a → H[a]? = s.heap[a]? := fun a h1 h2 => hS.2.1 a h1 h2
  refine ⟨fun w hw => ?_, ((h2.kept hk).narrow hBA).moved hW.alike, ((h3.kept hk).narrow hBA).moved hW.alike⟩
  have i1 := nseB_is w hw
  have i2 := h1 w hw
  cases w <;> first | exact va_Nw.warmD hW i2 | exact va_Nw.warmC hW i2 | (exact absurd i1 (by decide)) | (simp [nse_is] at i1)
theorem nseK.same {U V : State} {A : Nat → Prop} (hv : V.vm = U.vm) (hh : V.heap = U.heap) (h : nseK A U U.heap) : nseK A V V.heap := by
  obtain ⟨h1, h2, h3⟩ := h
  have ha : U.vm.Alike V.vm := by rw [hv]; exact Vm.Alike.refl U.vm
  rw [hh]
  exact ⟨fun w hw => va_Nw.same (u := U) (U := V) (nseB_ot w hw) hv.symm (h1 w hw), h2.moved ha, h3.moved ha⟩
def mx_PX (G : mx_G) (av : List Value) (sz : Nat) (w : va_W) : Array Value → State → Prop := fun v U => mx_P G av sz w v U ∧ nseK (va_A w sz) U U.heap
theorem mx_blindX {G : mx_G} {av : List Value} {sz : Nat} {w : va_W} : FrameBlind (mx_PX G av sz w) := fun a U g mk q => ⟨mx_blind a U g mk q.1, nseK.same (U := U) (V := U.calling g mk a) rfl rfl q.2⟩
theorem w_led_L {p : Program} {l : Launch} {e : Env} {R : Room} {s : State} {m : MethodId} {args : Array Value} {below : List Frame} {meth : Method} {c : Code} {A : Nat → Prop} {G : mx_G} {cells slots : Nat} {Q : State → Prop} (X : mx_X p s m args meth c RX10 "led" cX10_led 4 (some .int) G) (hR : rm_X10_isIn.frames + 1 ≤ R.frames ∧ 8 + (2 + 11) + rm_X10_isIn.locals ≤ R.locals) (hcl : cells ≤ R.cells ∧ slots ≤ R.slots) (q_t q_n q_r : Nat) (v1 v2 v3 v4 v5 v6 v7 v8 v9 u1 u2 u3 u4 r1 r2 r3 r4 r5 r6 r7 r8 r9 r10 r11 r12 r13 r14 r15 r16 r17 : Value) (la ro p1 : Int32) (o : Option Int32)
    (kr : ∀ (x : Int32) (H : Heap) (locs : List Loc) (ls : Array Slot), o = some x → mx_W G s A [xO q_t 10 [v1, .ref q_n, v2, v3, v4, v5, v6, v7, v8, .ref q_r, v9], xO q_n 7 [.int la, u1, u2, u3, u4], xO q_r 6 [r1, r2, r3, .int ro, r4, r5, r6, r7, r8, r9, r10, r11, r12, r13, r14, r15, r16, r17]] H locs → W p l e R s m args below meth c H locs cells slots Q (F0 m 35 ls [.int x]))
    (kt : ∀ (H : Heap) (locs : List Loc) (ls : Array Slot), ls.size = 4 → o = none → mx_W G s A [xO q_t 10 [v1, .ref q_n, v2, v3, v4, v5, v6, v7, v8, .ref q_r, v9], xO q_n 7 [.int la, u1, u2, u3, u4], xO q_r 6 [r1, r2, r3, .int ro, r4, r5, r6, r7, r8, r9, r10, r11, r12, r13, r14, r15, r16, r17]] H locs → W p l e R s m args below meth c H locs cells slots Q (F0 m 45 ls [])) :
    ∀ (n : Nat) (x2 x3 : Int32) (H : Heap) (locs : List Loc) (ls : Array Slot), f_led_L p1 la ro n x2 x3 = some o → mx_W G s A [xO q_t 10 [v1, .ref q_n, v2, v3, v4, v5, v6, v7, v8, .ref q_r, v9], xO q_n 7 [.int la, u1, u2, u3, u4], xO q_r 6 [r1, r2, r3, .int ro, r4, r5, r6, r7, r8, r9, r10, r11, r12, r13, r14, r15, r16, r17]] H locs → lv_has ls 4 [(0, .ref q_t), (1, .int p1), (2, .int x2), (3, .int x3)] → W p l e R s m args below meth c H locs cells slots Q (F0 m 4 ls []) := by
  obtain ⟨hx, hb, hml, hown, hts, hKN, -⟩ := id X
  intro n
  induction n with
  | zero => intro x2 x3 H locs ls hm hW hl; exact absurd (show none = some o from hm) (fun h => by cases h)
  | succ n ih =>
    intro x2 x3 H locs ls hm hW hl
    rw [f_led_L] at hm
    refine lv_iload_n hx hb dX10_led_4 rfl (lv_at hl 3 rfl) ?_
    refine lv_aload_n hx hb dX10_led_5 rfl (lv_at hl 0 rfl) ?_
    refine mx_get (C := RX10) (T := TX10) (N := 11) (ci := 10) X hW 0 rfl rfl tbc_X10 9 (by decide) kw_52 rfl dX10_led_6 ?_
    refine mx_get (C := RX6) (T := TX6) (N := 18) (ci := 6) X hW 2 rfl rfl tbc_X6 3 (by decide) kw_680 rfl dX10_led_9 ?_
    refine lv_icmp_ge (tgt := 45) hx hb dX10_led_12 (by decide) (fun c1 => ?_) (fun c1 => ?_)
    · have hm := (if_pos c1).symm.trans hm
      exact kt _ _ _ hl.1 (Option.some.inj hm).symm hW
    · have hm := (if_neg c1).symm.trans hm
      refine lv_aload_n hx hb dX10_led_15 rfl (lv_at hl 0 rfl) ?_
      refine mx_get (C := RX10) (T := TX10) (N := 11) (ci := 10) X hW 0 rfl rfl tbc_X10 1 (by decide) kw_20 rfl dX10_led_16 ?_
      refine mx_get (C := RX7) (T := TX7) (N := 5) (ci := 7) X hW 1 rfl rfl tbc_X7 0 (by decide) kw_590 rfl dX10_led_19 ?_
      refine lv_iload_n hx hb dX10_led_22 rfl (lv_at hl 3 rfl) ?_
      obtain ⟨o5, ho5, hm⟩ := bd_s hm
      refine mx_callS (n := 2) (As := [.int la, .int x3]) (rest := []) (st1 := [.int o5]) (w2 := [xO q_t 10 [v1, .ref q_n, v2, v3, v4, v5, v6, v7, v8, .ref q_r, v9], xO q_n 7 [.int la, u1, u2, u3, u4], xO q_r 6 [r1, r2, r3, .int ro, r4, r5, r6, r7, r8, r9, r10, r11, r12, r13, r14, r15, r16, r17]]) X hW hl.1 (c_X10_isIn l G la x3 o5 ho5) kw_690 kw_302 kw_2 kw_303 (by decide +kernel) ⟨rfl, rfl⟩ hR hcl [] (by decide) rfl rfl rfl rfl rfl rfl (Nat.le_of_ble_eq_true rfl) rfl dX10_led_23 (fun H locs hW => ?_)
      refine lv_if_eq (tgt := 39) hx hb dX10_led_26 (by decide) (fun c2 => ?_) (fun c2 => ?_)
      · have hm := (if_pos c2).symm.trans hm
        refine lv_iinc (v := x3 + 1) (lv' := [(3, .int (x3 + 1)), (0, .ref q_t), (1, .int p1), (2, .int x2)]) hx hb dX10_led_39 hl (k := 3) rfl rfl (by decide) rfl (fun ls hl => ?_)
        refine lv_goto (tgt := 4) hx hb dX10_led_42 (by decide) ?_
        exact ih x2 (x3 + 1) _ _ _ hm hW (lv_sub hl [1, 2, 3, 0] rfl)
      · have hm := (if_neg c2).symm.trans hm
        refine lv_iload_n hx hb dX10_led_29 rfl (lv_at hl 2 rfl) ?_
        refine lv_iload_n hx hb dX10_led_30 rfl (lv_at hl 1 rfl) ?_
        refine lv_icmp_ne (tgt := 36) hx hb dX10_led_31 (by decide) (fun c4 => ?_) (fun c4 => ?_)
        · have hm := (if_neg c4).symm.trans hm
          refine lv_iinc (v := x2 + 1) (lv' := [(2, .int (x2 + 1)), (0, .ref q_t), (1, .int p1), (3, .int x3)]) hx hb dX10_led_36 hl (k := 2) rfl rfl (by decide) rfl (fun ls hl => ?_)
          refine lv_iinc (v := x3 + 1) (lv' := [(3, .int (x3 + 1)), (2, .int (x2 + 1)), (0, .ref q_t), (1, .int p1)]) hx hb dX10_led_39 hl (k := 3) rfl rfl (by decide) rfl (fun ls hl => ?_)
          refine lv_goto (tgt := 4) hx hb dX10_led_42 (by decide) ?_
          exact ih (x2 + 1) (x3 + 1) _ _ _ hm hW (lv_sub hl [2, 3, 1, 0] rfl)
        · have hm := (if_pos c4).symm.trans hm
          refine lv_iload_n hx hb dX10_led_34 rfl (lv_at hl 3 rfl) ?_
          exact kr _ _ _ _ (Option.some.inj hm).symm hW
abbrev rm_X10_led : Room := { frames := 6, cells := 0, slots := 0, locals := 100 }
theorem c_led_ret (l : Launch) (G : mx_G) (q_t q_n q_r : Nat) (v1 v2 v3 v4 v5 v6 v7 v8 v9 u1 u2 u3 u4 r1 r2 r3 r4 r5 r6 r7 r8 r9 r10 r11 r12 r13 r14 r15 r16 r17 : Value) (la ro p1 : Int32) (x : Int32) (hm : f_led_L p1 la ro 2000 0 0 = some (some x)) : mx_C l yX10_led cX10_led 4 (some .int) rm_X10_led G [.ref q_t, .int p1] [xO q_t 10 [v1, .ref q_n, v2, v3, v4, v5, v6, v7, v8, .ref q_r, v9], xO q_n 7 [.int la, u1, u2, u3, u4], xO q_r 6 [r1, r2, r3, .int ro, r4, r5, r6, r7, r8, r9, r10, r11, r12, r13, r14, r15, r16, r17]] (some (.int x)) [xO q_t 10 [v1, .ref q_n, v2, v3, v4, v5, v6, v7, v8, .ref q_r, v9], xO q_n 7 [.int la, u1, u2, u3, u4], xO q_r 6 [r1, r2, r3, .int ro, r4, r5, r6, r7, r8, r9, r10, r11, r12, r13, r14, r15, r16, r17]] := by
  refine mx_enter (own := RX10) (name := "led") (lv := [(0, .ref q_t), (1, .int p1)]) (by decide) rfl rfl (Nat.le_of_ble_eq_true rfl) rfl ?_
  intro p e s m args below meth c A ls X hW hl
  obtain ⟨hx, hb, hml, hown, hts, hKN, -⟩ := id X
  refine lv_iconst (v := 0) hx hb dX10_led_0 (by decide) ?_
  refine lv_istore_n (lv' := [(2, .int 0), (0, .ref q_t), (1, .int p1)]) hx hb dX10_led_1 rfl hl (by decide) rfl (fun ls hl => ?_)
  refine lv_iconst (v := 0) hx hb dX10_led_2 (by decide) ?_
  refine lv_istore_n (lv' := [(3, .int 0), (2, .int 0), (0, .ref q_t), (1, .int p1)]) hx hb dX10_led_3 rfl hl (by decide) rfl (fun ls hl => ?_)
  refine w_led_L X ⟨by decide, by decide⟩ ⟨Nat.zero_le _, Nat.zero_le _⟩ q_t q_n q_r v1 v2 v3 v4 v5 v6 v7 v8 v9 u1 u2 u3 u4 r1 r2 r3 r4 r5 r6 r7 r8 r9 r10 r11 r12 r13 r14 r15 r16 r17 la ro p1 (some x) (fun y H locs ls ho hW => ?_) (fun H locs ls hs ho hW => ?_) 2000 0 0 _ _ _ hm hW (lv_sub hl [2, 3, 1, 0] rfl)
  · cases ho
    exact mx_iret X hW dX10_led_35
  · cases ho
abbrev rm_X10_ledT : Room := { frames := 6, cells := 1, slots := 6, locals := 100 }
theorem c_led_thr (l : Launch) (hst : l.stackTraces = false) (G : mx_G) (q_t q_n q_r : Nat) (v1 v2 v3 v4 v5 v6 v7 v8 v9 u1 u2 u3 u4 r1 r2 r3 r4 r5 r6 r7 r8 r9 r10 r11 r12 r13 r14 r15 r16 r17 : Value) (la ro p1 : Int32) (hm : f_led_L p1 la ro 2000 0 0 = some none) (sz : Nat) : vx_Met l yX10_led (.code yX10_led cX10_led 4 (some .int) :: TB) rm_X10_ledT (mx_PX G [.ref q_t, .int p1] sz [xO q_t 10 [v1, .ref q_n, v2, v3, v4, v5, v6, v7, v8, .ref q_r, v9], xO q_n 7 [.int la, u1, u2, u3, u4], xO q_r 6 [r1, r2, r3, .int ro, r4, r5, r6, r7, r8, r9, r10, r11, r12, r13, r14, r15, r16, r17]]) (va_Qi (S := Unit) (fun _ _ => False) (fun _ _ => True) (va_A [xO q_t 10 [v1, .ref q_n, v2, v3, v4, v5, v6, v7, v8, .ref q_r, v9], xO q_n 7 [.int la, u1, u2, u3, u4], xO q_r 6 [r1, r2, r3, .int ro, r4, r5, r6, r7, r8, r9, r10, r11, r12, r13, r14, r15, r16, r17]] sz)) (vx_X (S := Unit) (fun _ => True) (fun E _ t => E = nse ∧ va_P G.1 vwCl [xO q_t 10 [v1, .ref q_n, v2, v3, v4, v5, v6, v7, v8, .ref q_r, v9], xO q_n 7 [.int la, u1, u2, u3, u4], xO q_r 6 [r1, r2, r3, .int ro, r4, r5, r6, r7, r8, r9, r10, r11, r12, r13, r14, r15, r16, r17]] t.heap) (va_A [xO q_t 10 [v1, .ref q_n, v2, v3, v4, v5, v6, v7, v8, .ref q_r, v9], xO q_n 7 [.int la, u1, u2, u3, u4], xO q_r 6 [r1, r2, r3, .int ro, r4, r5, r6, r7, r8, r9, r10, r11, r12, r13, r14, r15, r16, r17]] sz)) 1 6 (va_A [xO q_t 10 [v1, .ref q_n, v2, v3, v4, v5, v6, v7, v8, .ref q_r, v9], xO q_n 7 [.int la, u1, u2, u3, u4], xO q_r 6 [r1, r2, r3, .int ro, r4, r5, r6, r7, r8, r9, r10, r11, r12, r13, r14, r15, r16, r17]] sz) := by
  refine vx_ofW (cc := cX10_led) (maxL := 4) (ret := some .int) (by decide) rfl ?_
  intro p e s m args below meth c s₁ B hml hno hv
  obtain ⟨⟨rfl, hsz, hP, hK, hD0, hST⟩, hN⟩ := hv
  subst hsz
  have hl := lv_entry [.ref q_t, .int p1] (n := 4) (Nat.le_of_ble_eq_true rfl)
  rw [lg_entry_eq]
  generalize (lg_sl ([.ref q_t, .int p1]) ++ List.replicate (4 - (lg_sl ([.ref q_t, .int p1])).length) Slot.unset).toArray = ls at hl ⊢
  have hl : lv_has ls 4 [(0, .ref q_t), (1, .int p1)] := hl
  have X : mx_X p s m _ meth c RX10 "led" cX10_led 4 (some .int) G := ⟨B.exec, B.bytes, hml, findClass_of_methodNamed B.named, fun w' hw' => atoms_spec (ws := .code yX10_led cX10_led 4 (some .int) :: TB) B.pre w' (List.mem_cons_of_mem _ hw'), hK, B.returns, B.notSynchronized, (name_of_methodNamed B.named B.method).1⟩
  have hW : mx_W G s (va_A [xO q_t 10 [v1, .ref q_n, v2, v3, v4, v5, v6, v7, v8, .ref q_r, v9], xO q_n 7 [.int la, u1, u2, u3, u4], xO q_r 6 [r1, r2, r3, .int ro, r4, r5, r6, r7, r8, r9, r10, r11, r12, r13, r14, r15, r16, r17]] s.heap.size) [xO q_t 10 [v1, .ref q_n, v2, v3, v4, v5, v6, v7, v8, .ref q_r, v9], xO q_n 7 [.int la, u1, u2, u3, u4], xO q_r 6 [r1, r2, r3, .int ro, r4, r5, r6, r7, r8, r9, r10, r11, r12, r13, r14, r15, r16, r17]] s.heap [] := ⟨hP, hD0.self, va_S.rf, fun q h => Or.inr h, hST⟩
  obtain ⟨hx, hb, hml, hown, hts, hKN, -, hlk, -⟩ := id X
  refine lv_iconst (v := 0) hx hb dX10_led_0 (by decide) ?_
  refine lv_istore_n (lv' := [(2, .int 0), (0, .ref q_t), (1, .int p1)]) hx hb dX10_led_1 rfl hl (by decide) rfl (fun ls hl => ?_)
  refine lv_iconst (v := 0) hx hb dX10_led_2 (by decide) ?_
  refine lv_istore_n (lv' := [(3, .int 0), (2, .int 0), (0, .ref q_t), (1, .int p1)]) hx hb dX10_led_3 rfl hl (by decide) rfl (fun ls hl => ?_)
  refine w_led_L X ⟨by decide, by decide⟩ ⟨Nat.zero_le _, Nat.zero_le _⟩ q_t q_n q_r v1 v2 v3 v4 v5 v6 v7 v8 v9 u1 u2 u3 u4 r1 r2 r3 r4 r5 r6 r7 r8 r9 r10 r11 r12 r13 r14 r15 r16 r17 la ro p1 none (fun y H locs ls ho hW => ?_) (fun H locs ls hs ho hW => ?_) 2000 0 0 _ _ _ hm hW (lv_sub hl [2, 3, 1, 0] rfl)
  · cases ho
  · refine vx_throw0 (own := RX10) (cls := nse) (names := nseUp) (ik := 349) (ic := 351) (A := va_A [xO q_t 10 [v1, .ref q_n, v2, v3, v4, v5, v6, v7, v8, .ref q_r, v9], xO q_n 7 [.int la, u1, u2, u3, u4], xO q_r 6 [r1, r2, r3, .int ro, r4, r5, r6, r7, r8, r9, r10, r11, r12, r13, r14, r15, r16, r17]] s.heap.size) hx hb hst hown (by decide +kernel) (by decide +kernel) (hts _ kw_1503) (hts _ kw_1504) (vx_hat (B := nseB) (fun w hw => hts w (nseG_TB w hw)) (fun w hw => hw) (fun w hw => va_Nw.use (nseB_ot w hw) (hN.1 w hw))) nse_vot hN.2.1 hN.2.2 hW.2.2.1 (hs.trans hml.symm) dX10_led_45 dX10_led_48 dX10_led_49 dX10_led_52 (fun x hx => (hno x hx).elim) (by decide) (by decide) (by decide) (by decide) hlk ?_ (fun z hz => hW.2.2.1.2.2 z hz) (by decide) (by decide)
    intro t hvm hsz hkeep
    refine ⟨(), trivial, ⟨rfl, fun k q hq => (hW.1 k q hq).kept (hkeep q.1 (hW.1 k q hq).lt)⟩, Nat.le_trans hW.2.2.1.1 hsz, fun q h1 h2 => ?_⟩
    rw [hkeep q (Nat.lt_of_lt_of_le h1 hW.2.2.1.1)]
    exact hW.2.2.1.2.1 q h1 h2
