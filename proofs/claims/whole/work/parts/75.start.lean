/-! what the law begins with: the classes, the Strings, what a throw leans on -/
def R_law : String := "RiverCorsetLaw"
def lw_P (b : Addr) (xs : List Int32) (args : Array Value) (s : State) : Prop := args = #[.ref b] ∧ s.IntsAt b xs ∧ xs.length ≤ 3072 ∧ (Jvm.Cond.and given_1 narrow_1).before args s = true
def lw_Q (_ : Array Value) (s : State) (o : Outcome) (t : State) : Prop := o = .returned (some (.int 1)) ∧ Framed s o t [] 601024 7293034
def lw_Z (below : List Frame) (a : Array Value) (s : State) : State → Prop := fun t => ∃ o, t.status = .running ∧ Ended t below o ∧ lw_Q a s o t
def lw_At (p : Program) (s : State) (m : MethodId) (meth : Method) (c : Code) (b L : Nat) (xs : Nat → Int32) : Prop :=
  p.tables.exec = Jvm.exec ∧ c.code = code ∧ meth.sig.returnType = ret ∧ c.maxLocals = 7 ∧ s.vm.findClass R_law = some m.cls ∧ (∀ w ∈ lw_tbl, w.before #[Value.ref b] s = true) ∧ va_X b L xs s s.heap ∧ b < s.heap.size ∧ meth.locks = false ∧ (Jvm.Cond.and given_1 narrow_1).before #[Value.ref b] s = true
abbrev lwF : List Cond := flatC (Jvm.Cond.and given_1 narrow_1)
abbrev lwT (i : Nat) : Term := .string "RiverCorsetModel" ((mx_lit.getD i (0, "")).1)
theorem lwF_ex : ∀ i, i < 20 → Cond.exactly (lwT i) "java/lang/String" ∈ lwF := by decide +kernel
theorem lwF_co : ∀ i, i < 20 → Cond.eq (.field (lwT i) "java/lang/String" "coder" "B") (.int 0) ∈ lwF := by decide +kernel
theorem lwF_ar : ∀ i, i < 20 → Cond.arrayOf (.field (lwT i) "java/lang/String" "value" "[B") .byte ∈ lwF := by decide +kernel
theorem lwF_le : ∀ i, i < 20 → Cond.eq (.length (.field (lwT i) "java/lang/String" "value" "[B")) (.int (Int32.ofNat (mx_len.getD i 0))) ∈ lwF := by decide +kernel
theorem lwF_el : ∀ i, i < 20 → ∀ j, j < mx_len.getD i 0 → Cond.eq (.elem (.field (lwT i) "java/lang/String" "value" "[B") (.int (Int32.ofNat j))) (.int ((mx_byt.getD i []).getD j 0)) ∈ lwF := by decide +kernel
def lw_prs : List (Nat × Nat) := [(138, 212), (138, 217), (212, 217), (138, 140), (212, 140), (217, 140), (138, 142), (212, 142), (217, 142), (140, 142), (138, 144), (212, 144), (217, 144), (140, 144), (142, 144), (138, 146), (212, 146), (217, 146), (140, 146), (142, 146), (144, 146), (138, 148), (212, 148), (217, 148), (140, 148), (142, 148), (144, 148), (146, 148), (138, 150), (212, 150), (217, 150), (140, 150), (142, 150), (144, 150), (146, 150), (148, 150), (138, 220), (212, 220), (217, 220), (140, 220), (142, 220), (144, 220), (146, 220), (148, 220), (150, 220), (138, 222), (212, 222), (217, 222), (140, 222), (142, 222), (144, 222), (146, 222), (148, 222), (150, 222), (220, 222), (138, 224), (212, 224), (217, 224), (140, 224), (142, 224), (144, 224), (146, 224), (148, 224), (150, 224), (220, 224), (222, 224), (138, 226), (212, 226), (217, 226), (140, 226), (142, 226), (144, 226), (146, 226), (148, 226), (150, 226), (220, 226), (222, 226), (224, 226), (138, 239), (212, 239), (217, 239), (140, 239), (142, 239), (144, 239), (146, 239), (148, 239), (150, 239), (220, 239), (222, 239), (224, 239), (226, 239), (138, 241), (212, 241), (217, 241), (140, 241), (142, 241), (144, 241), (146, 241), (148, 241), (150, 241), (220, 241), (222, 241), (224, 241), (226, 241), (239, 241), (138, 258), (212, 258), (217, 258), (140, 258), (142, 258), (144, 258), (146, 258), (148, 258), (150, 258), (220, 258), (222, 258), (224, 258), (226, 258), (239, 258), (241, 258), (138, 263), (212, 263), (217, 263), (140, 263), (142, 263), (144, 263), (146, 263), (148, 263), (150, 263), (220, 263), (222, 263), (224, 263), (226, 263), (239, 263), (241, 263), (258, 263), (138, 265), (212, 265), (217, 265), (140, 265), (142, 265), (144, 265), (146, 265), (148, 265), (150, 265), (220, 265), (222, 265), (224, 265), (226, 265), (239, 265), (241, 265), (258, 265), (263, 265), (138, 282), (212, 282), (217, 282), (140, 282), (142, 282), (144, 282), (146, 282), (148, 282), (150, 282), (220, 282), (222, 282), (224, 282), (226, 282), (239, 282), (241, 282), (258, 282), (263, 282), (265, 282), (138, 289), (212, 289), (217, 289), (140, 289), (142, 289), (144, 289), (146, 289), (148, 289), (150, 289), (220, 289), (222, 289), (224, 289), (226, 289), (239, 289), (241, 289), (258, 289), (263, 289), (265, 289), (282, 289)]
def lw_isN : Cond → Bool
  | .not (.eq _ _) => true
  | _ => false
theorem lwF_fl : lwF.filter lw_isN = lw_prs.map (fun q => Cond.not (Cond.eq (.string "RiverCorsetModel" q.1) (.string "RiverCorsetModel" q.2))) := by decide +kernel
theorem lwF_pr : ∀ q ∈ lw_prs, Cond.not (Cond.eq (.string "RiverCorsetModel" q.1) (.string "RiverCorsetModel" q.2)) ∈ lwF := by
  intro q hq
  have h : Cond.not (Cond.eq (.string "RiverCorsetModel" q.1) (.string "RiverCorsetModel" q.2)) ∈ lwF.filter lw_isN := by rw [lwF_fl]; exact List.mem_map.mpr ⟨q, hq, rfl⟩
  exact (List.mem_filter.mp h).1
theorem lw_prs_b : (List.range 20).all (fun i => (List.range 20).all (fun j => decide (i = j) || (decide (((mx_lit.getD i (0, "")).1, (mx_lit.getD j (0, "")).1) ∈ lw_prs) || decide (((mx_lit.getD j (0, "")).1, (mx_lit.getD i (0, "")).1) ∈ lw_prs)))) = true := by decide +kernel
theorem lw_prs_all : ∀ i, i < 20 → ∀ j, j < 20 → i ≠ j → ((mx_lit.getD i (0, "")).1, (mx_lit.getD j (0, "")).1) ∈ lw_prs ∨ ((mx_lit.getD j (0, "")).1, (mx_lit.getD i (0, "")).1) ∈ lw_prs := by
  intro i hi j hj hij
  have h := List.all_eq_true.mp (List.all_eq_true.mp lw_prs_b i (List.mem_range.mpr hi)) j (List.mem_range.mpr hj)
  rcases Bool.or_eq_true_iff.mp h with h | h
  · exact absurd (of_decide_eq_true h) hij
  · exact (Bool.or_eq_true_iff.mp h).imp of_decide_eq_true of_decide_eq_true
theorem lwF_ne : ∀ i, i < 20 → ∀ j, j < 20 → i ≠ j → Cond.not (Cond.eq (lwT i) (lwT j)) ∈ lwF ∨ Cond.not (Cond.eq (lwT j) (lwT i)) ∈ lwF := fun i hi j hj h => (lw_prs_all i hi j hj h).imp (lwF_pr _) (lwF_pr _)
theorem lw_len : ∀ i, i < 20 → mx_len.getD i 0 < 2 ^ 31 := by decide +kernel
theorem lw_sr : ∀ i, i < 20 → Cond.stringRef "RiverCorsetModel" ((mx_lit.getD i (0, "")).1) ((mx_lit.getD i (0, "")).2) ∈ lw_tbl := by decide +kernel
theorem lw_nest : ∀ w ∈ mx_nest, w ∈ lw_tbl := by decide +kernel
theorem lw_ls1 : Cond.laysStatic "java/lang/String" "COMPACT_STRINGS" "Z" ∈ lw_tbl ∧ Cond.initialized "java/lang/String" ∈ lw_tbl ∧ Cond.laysStatic "jdk/internal/util/Preconditions" "SIOOBE_FORMATTER" "Ljava/util/function/BiFunction;" ∈ lw_tbl ∧ Cond.initialized "jdk/internal/util/Preconditions" ∈ lw_tbl ∧ Cond.laysStatic "java/lang/Throwable" "UNASSIGNED_STACK" "[Ljava/lang/StackTraceElement;" ∈ lw_tbl ∧ Cond.laysStatic "java/lang/Throwable" "SUPPRESSED_SENTINEL" "Ljava/util/List;" ∈ lw_tbl ∧ Cond.initialized "java/lang/Throwable" ∈ lw_tbl ∧ Cond.arrayOver (.object "RiverCorset$State") ∈ lw_tbl := by decide +kernel
theorem lw_ls2 : Cond.eq (.static "java/lang/String" "COMPACT_STRINGS" "Z") (.int 1) ∈ lwF ∧ Cond.isRef (.static "jdk/internal/util/Preconditions" "SIOOBE_FORMATTER" "Ljava/util/function/BiFunction;") ∈ lwF ∧ Cond.isRef (.static "java/lang/Throwable" "UNASSIGNED_STACK" "[Ljava/lang/StackTraceElement;") ∈ lwF ∧ Cond.isRef (.static "java/lang/Throwable" "SUPPRESSED_SENTINEL" "Ljava/util/List;") ∈ lwF := by decide +kernel
theorem lw_arr {s : State} {ty : FieldType} {args : Array Value} (hp : ∀ C, ty ≠ .object C) (h : (Cond.arrayClass ty).before args s = true) : ∃ cA, ArrOfT s cA ty ∧ va_RA s cA ty := by
  obtain ⟨cA, kA, comp, h1, h2, h3⟩ := Cond.arrayClass_spec h
  refine ⟨cA, fun n z => ⟨fun k h => (by cases h), kA, h2, comp, h3⟩, ?_⟩
  cases ty <;> first | exact h1 | exact absurd rfl (hp _)
theorem lw_arrS {s : State} {C : String} (h : va_AO C s) : ∃ cA, ArrOfT s cA (.object C) ∧ va_RA s cA (.object C) := by
  obtain ⟨comp, cA, kA, h1, h2, h3, h4, h5⟩ := Cond.arrayOver_spec h
  exact ⟨cA, fun n z => ⟨fun k h => (by cases h), kA, h3, comp, h4⟩, kA, comp, h3, h4, h1, h5⟩
theorem law_G {p : Program} {s : State} {m : MethodId} {meth : Method} {c : Code} {b L : Nat} {xs : Nat → Int32} (C0 : lw_At p s m meth c b L xs) : ∃ G : mx_G, mx_KN G s ∧ mx_ST G (fun q : Nat => s.heap.size ≤ q) s s.heap ∧ va_AO "RiverCorset$State" s ∧ nseK (fun q : Nat => s.heap.size ≤ q) s s.heap := by
  obtain ⟨hx, hb, hr, hml, hown, hts, hX, hbl, hlocks, hgv⟩ := id C0
  have hF := flat_of_before _ hgv
  have hTB : ∀ w ∈ TB, w.before #[Value.ref b] s = true := fun w hw => hts w (TB_in w hw)
  have hA : ∀ a : Nat, a < s.heap.size → ¬ (fun q : Nat => s.heap.size ≤ q) a := fun a h => Nat.not_le.mpr h
  obtain ⟨l1, l2, l3, l4, l5, l6, l7, l8⟩ := lw_ls1
  obtain ⟨n1, n2, n3, n4⟩ := lw_ls2
  have hAO : va_AO "RiverCorset$State" s := va_AO.of (hts _ l8)
  obtain ⟨aI, hI⟩ := lw_arr (ty := .int) (fun _ h => by cases h) (hTB _ kw_60)
  obtain ⟨aB, hB⟩ := lw_arr (ty := .byte) (fun _ h => by cases h) (hTB _ kw_57)
  obtain ⟨aJ, hJ⟩ := lw_arr (ty := .long) (fun _ h => by cases h) (hTB _ kw_6)
  obtain ⟨aS, hS⟩ := lw_arrS hAO
  obtain ⟨c0, i0, hK0⟩ := u_known (C := RX0) (T := TX0) (N := 4) (n := 4) hTB tbc_X0 (hTB _ kw_46)
  obtain ⟨c1, i1, hK1⟩ := u_known (C := RX1) (T := TX1) (N := 7) (n := 7) hTB tbc_X1 (hTB _ kw_30)
  obtain ⟨c2, i2, hK2⟩ := u_known (C := RX2) (T := TX2) (N := 5) (n := 5) hTB tbc_X2 (hTB _ kw_22)
  obtain ⟨c3, i3, hK3⟩ := u_known (C := RX3) (T := TX3) (N := 8) (n := 8) hTB tbc_X3 (hTB _ kw_38)
  obtain ⟨c4, i4, hK4⟩ := u_known (C := RX4) (T := TX4) (N := 7) (n := 7) hTB tbc_X4 (hTB _ kw_42)
  obtain ⟨c5, i5, hK5⟩ := u_known (C := RX5) (T := TX5) (N := 15) (n := 15) hTB tbc_X5 (hTB _ kw_14)
  obtain ⟨c6, i6, hK6⟩ := u_known (C := RX6) (T := TX6) (N := 18) (n := 18) hTB tbc_X6 (hTB _ kw_50)
  obtain ⟨c7, i7, hK7⟩ := u_known (C := RX7) (T := TX7) (N := 5) (n := 5) hTB tbc_X7 (hTB _ kw_18)
  obtain ⟨c8, i8, hK8⟩ := u_known (C := RX8) (T := TX8) (N := 8) (n := 8) hTB tbc_X8 (hTB _ kw_26)
  obtain ⟨c9, i9, hK9⟩ := u_known (C := RX9) (T := TX9) (N := 1) (n := 1) hTB tbc_X9 (hTB _ kw_34)
  obtain ⟨c10, i10, hK10⟩ := u_known (C := RX10) (T := TX10) (N := 11) (n := 11) hTB tbc_X10 (hTB _ kw_1)
  obtain ⟨c11, i11, hK11⟩ := u_known (C := RX11) (T := TX11) (N := 22) (n := 22) hTB tbc_X11 (hTB _ kw_357)
  obtain ⟨c12, i12, hK12⟩ := u_known (C := RX12) (T := TX12) (N := 39) (n := 39) hTB tbc_X12 (hTB _ kw_4)
  obtain ⟨adK, adV, hvS, hev⟩ := vk_Sof (args := #[Value.ref b]) (s := s) (N := 20) (tm := lwT) (len := mx_len) (byt := mx_byt) (A := fun q : Nat => s.heap.size ≤ q) lw_len (fun i hi => hF _ (lwF_ex i hi)) (fun i hi => hF _ (lwF_co i hi)) (fun i hi => hF _ (lwF_ar i hi)) (fun i hi => hF _ (lwF_le i hi)) (fun i hi j hj => hF _ (lwF_el i hi j hj)) (fun i j hi hj hij => (lwF_ne i hi j hj hij).imp (hF _) (hF _)) hA
  refine ⟨((fun k => [c0, c1, c2, c3, c4, c5, c6, c7, c8, c9, c10, c11, c12].getD k c0, fun k => [i0, i1, i2, i3, i4, i5, i6, i7, i8, i9, i10, i11, i12].getD k i0), aI, aB, aJ, aS, adK, adV), ⟨⟨?_, ?_⟩, ?_⟩, ⟨hvS, ?_, ?_, ?_⟩, hAO, ?_, ?_, ?_⟩
  · intro k q hq
    match k, hq with
    | 0, hq => cases hq; exact hK0
    | 1, hq => cases hq; exact hK1
    | 2, hq => cases hq; exact hK2
    | 3, hq => cases hq; exact hK3
    | 4, hq => cases hq; exact hK4
    | 5, hq => cases hq; exact hK5
    | 6, hq => cases hq; exact hK6
    | 7, hq => cases hq; exact hK7
    | 8, hq => cases hq; exact hK8
    | 9, hq => cases hq; exact hK9
    | 10, hq => cases hq; exact hK10
    | 11, hq => cases hq; exact hK11
    | 12, hq => cases hq; exact hK12
    | k + 13, hq => simp [vwCl] at hq
  · intro k q hq
    match k, hq with
    | 0, hq => cases hq; exact hI
    | 1, hq => cases hq; exact hB
    | 2, hq => cases hq; exact hJ
    | 3, hq => cases hq; exact hS
    | k + 4, hq => simp [mx_tys] at hq
  · exact fun w hw => va_Nw.of (mx_nest_ot w hw) (hts w (lw_nest w hw))
  · intro i q hq
    have hi : i < 20 := (List.getElem?_eq_some_iff.mp hq).1
    have e : mx_lit.getD i (0, "") = q := by rw [List.getD_eq_getElem?_getD, hq]; rfl
    have h1 := hts _ (lw_sr i hi)
    have h2 := hev i hi
    rw [e] at h1
    exact vk_R.of h1 (by rw [← h2]; show _ = (Term.string "RiverCorsetModel" ((mx_lit.getD i (0, "")).1)).eval _ _ _ _ _; rw [e])
  · refine va_Zof (args := #[Value.ref b]) (hts _ l1) (hts _ l2) ?_ hA
    obtain ⟨w, h1, h2⟩ := Cond.eq_one (hF _ n1)
    rw [h1]; exact congrArg some (Option.some.inj h2).symm
  · exact va_Zqof (hts _ l3) (hts _ l4) (hF _ n2) hA
  · exact fun w hw => va_Nw.of (nseB_ot w hw) (hts w (nseB_in w hw))
  · exact vx_Zqof (hts _ l5) (hts _ l7) (hF _ n3) hA
  · exact vx_Zqof (hts _ l6) (hts _ l7) (hF _ n4) hA
