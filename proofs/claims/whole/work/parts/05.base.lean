abbrev vwCl : List vw_C := [(RX0, TX0, 4), (RX1, TX1, 7), (RX2, TX2, 5), (RX3, TX3, 8), (RX4, TX4, 7), (RX5, TX5, 15), (RX6, TX6, 18), (RX7, TX7, 5), (RX8, TX8, 8), (RX9, TX9, 1), (RX10, TX10, 11), (RX11, TX11, 22), (RX12, TX12, 39)]
/-- what stays the same in a whole run: the numbers of classes, the slots, the classes of the arrays of int, byte, long and State -/
abbrev mx_G : Type := va_G × ClassId × ClassId × ClassId × ClassId × (Nat → Nat) × (Nat → Nat)
abbrev mx_tys (G : mx_G) : List (ClassId × FieldType) := [(G.2.1, .int), (G.2.2.1, .byte), (G.2.2.2.1, .long), (G.2.2.2.2.1, .object "RiverCorset$State")]
abbrev xO (a c : Nat) (fs : List Value) : Nat × va_E := (a, .inr (c, fs))
abbrev xI (G : mx_G) (a n : Nat) (f : Nat → Int32) : Nat × va_E := (a, .inl (G.2.1, n, .inl f))
abbrev xB (G : mx_G) (a n : Nat) (f : Nat → Int32) : Nat × va_E := (a, .inl (G.2.2.1, n, .inl f))
abbrev xJ (G : mx_G) (a n : Nat) (f : Nat → Int64) : Nat × va_E := (a, .inl (G.2.2.2.1, n, .inr (.inl f)))
abbrev xS (G : mx_G) (a n : Nat) (f : Nat → Option Nat) : Nat × va_E := (a, .inl (G.2.2.2.2.1, n, .inr (.inr (.inr (.inr f)))))
def mx_isN : Cond → Bool
  | .fieldLinkNest _ _ _ _ _ _ => true
  | .methodLinkNest _ _ _ _ => true
  | _ => false
def mx_nest : List Cond := [Cond.methodLinkNest RX10 11 yX5_init "RiverCorset", Cond.methodLinkNest RX5 28 yX6_init "RiverCorset", Cond.methodLinkNest RX10 18 yX7_init "RiverCorset", Cond.methodLinkNest RX2 20 yX7_init "RiverCorset", Cond.methodLinkNest RX10 32 yX8_init "RiverCorset", Cond.methodLinkNest RX10 39 yX1_init "RiverCorset", Cond.methodLinkNest RX1 11 yX8_init "RiverCorset", Cond.methodLinkNest RX10 46 yX9_init "RiverCorset", Cond.methodLinkNest RX9 11 yX8_init "RiverCorset", Cond.methodLinkNest RX10 53 yX3_init "RiverCorset", Cond.methodLinkNest RX3 11 yX8_init "RiverCorset", Cond.methodLinkNest RX10 60 yX4_init "RiverCorset", Cond.methodLinkNest RX4 11 yX8_init "RiverCorset", Cond.methodLinkNest RX10 67 yX0_init "RiverCorset", Cond.methodLinkNest RX0 11 yX8_init "RiverCorset", Cond.methodLinkNest RX0 20 yX7_init "RiverCorset", Cond.methodLinkNest RX10 74 yX6_init "RiverCorset", Cond.methodLinkNest RX5 212 yX10_isIn "RiverCorset", Cond.methodLinkNest RX8 46 yX10_isIn "RiverCorset", Cond.methodLinkNest RX1 88 yX10_isIn "RiverCorset", Cond.methodLinkNest RX9 75 yX10_isIn "RiverCorset", Cond.methodLinkNest RX0 59 yX10_isIn "RiverCorset", Cond.methodLinkNest RX12 303 yX11_init "RiverCorsetModel", Cond.fieldLinkNest RX12 156 "RiverCorsetModel$River" "flow" "I" "RiverCorsetModel", Cond.fieldLinkNest RX12 218 "RiverCorsetModel$River" "tape" "I" "RiverCorsetModel", Cond.fieldLinkNest RX12 188 "RiverCorsetModel$River" "reaches" "I" "RiverCorsetModel", Cond.fieldLinkNest RX12 255 "RiverCorsetModel$River" "ropes" "I" "RiverCorsetModel", Cond.fieldLinkNest RX12 279 "RiverCorsetModel$River" "hands" "I" "RiverCorsetModel", Cond.fieldLinkNest RX12 286 "RiverCorsetModel$River" "boats" "I" "RiverCorsetModel", Cond.fieldLinkNest RX12 297 "RiverCorsetModel$River" "muds" "I" "RiverCorsetModel", Cond.fieldLinkNest RX12 273 "RiverCorsetModel$River" "loose" "I" "RiverCorsetModel", Cond.fieldLinkNest RX12 173 "RiverCorsetModel$River" "names" "I" "RiverCorsetModel", Cond.fieldLinkNest RX12 246 "RiverCorsetModel$River" "kind" "[I" "RiverCorsetModel", Cond.fieldLinkNest RX12 249 "RiverCorsetModel$River" "wide" "[I" "RiverCorsetModel", Cond.fieldLinkNest RX12 251 "RiverCorsetModel$River" "bank" "[I" "RiverCorsetModel", Cond.fieldLinkNest RX12 253 "RiverCorsetModel$River" "mud" "[I" "RiverCorsetModel", Cond.fieldLinkNest RX12 267 "RiverCorsetModel$River" "at" "[I" "RiverCorsetModel", Cond.fieldLinkNest RX12 269 "RiverCorsetModel$River" "pulls" "[I" "RiverCorsetModel", Cond.fieldLinkNest RX12 271 "RiverCorsetModel$River" "bears" "[I" "RiverCorsetModel", Cond.fieldLinkNest RX12 284 "RiverCorsetModel$River" "strong" "[I" "RiverCorsetModel", Cond.fieldLinkNest RX12 291 "RiverCorsetModel$River" "boatWide" "[I" "RiverCorsetModel", Cond.fieldLinkNest RX12 294 "RiverCorsetModel$River" "boatDeep" "[I" "RiverCorsetModel", Cond.fieldLinkNest RX12 169 "RiverCorsetModel$River" "name" "[J" "RiverCorsetModel", Cond.fieldLinkNest RX12 176 "RiverCorsetModel$River" "nameSort" "[I" "RiverCorsetModel", Cond.fieldLinkNest RX12 179 "RiverCorsetModel$River" "numberOf" "[I" "RiverCorsetModel"]
theorem kn_0 : Cond.methodLinkNest RX10 11 yX5_init "RiverCorset" ∈ mx_nest := List.mem_of_getElem? (i := 0) rfl
theorem kn_1 : Cond.methodLinkNest RX5 28 yX6_init "RiverCorset" ∈ mx_nest := List.mem_of_getElem? (i := 1) rfl
theorem kn_2 : Cond.methodLinkNest RX10 18 yX7_init "RiverCorset" ∈ mx_nest := List.mem_of_getElem? (i := 2) rfl
theorem kn_3 : Cond.methodLinkNest RX2 20 yX7_init "RiverCorset" ∈ mx_nest := List.mem_of_getElem? (i := 3) rfl
theorem kn_4 : Cond.methodLinkNest RX10 32 yX8_init "RiverCorset" ∈ mx_nest := List.mem_of_getElem? (i := 4) rfl
theorem kn_5 : Cond.methodLinkNest RX10 39 yX1_init "RiverCorset" ∈ mx_nest := List.mem_of_getElem? (i := 5) rfl
theorem kn_6 : Cond.methodLinkNest RX1 11 yX8_init "RiverCorset" ∈ mx_nest := List.mem_of_getElem? (i := 6) rfl
theorem kn_7 : Cond.methodLinkNest RX10 46 yX9_init "RiverCorset" ∈ mx_nest := List.mem_of_getElem? (i := 7) rfl
theorem kn_8 : Cond.methodLinkNest RX9 11 yX8_init "RiverCorset" ∈ mx_nest := List.mem_of_getElem? (i := 8) rfl
theorem kn_9 : Cond.methodLinkNest RX10 53 yX3_init "RiverCorset" ∈ mx_nest := List.mem_of_getElem? (i := 9) rfl
theorem kn_10 : Cond.methodLinkNest RX3 11 yX8_init "RiverCorset" ∈ mx_nest := List.mem_of_getElem? (i := 10) rfl
theorem kn_11 : Cond.methodLinkNest RX10 60 yX4_init "RiverCorset" ∈ mx_nest := List.mem_of_getElem? (i := 11) rfl
theorem kn_12 : Cond.methodLinkNest RX4 11 yX8_init "RiverCorset" ∈ mx_nest := List.mem_of_getElem? (i := 12) rfl
theorem kn_13 : Cond.methodLinkNest RX10 67 yX0_init "RiverCorset" ∈ mx_nest := List.mem_of_getElem? (i := 13) rfl
theorem kn_14 : Cond.methodLinkNest RX0 11 yX8_init "RiverCorset" ∈ mx_nest := List.mem_of_getElem? (i := 14) rfl
theorem kn_15 : Cond.methodLinkNest RX0 20 yX7_init "RiverCorset" ∈ mx_nest := List.mem_of_getElem? (i := 15) rfl
theorem kn_16 : Cond.methodLinkNest RX10 74 yX6_init "RiverCorset" ∈ mx_nest := List.mem_of_getElem? (i := 16) rfl
theorem kn_17 : Cond.methodLinkNest RX5 212 yX10_isIn "RiverCorset" ∈ mx_nest := List.mem_of_getElem? (i := 17) rfl
theorem kn_18 : Cond.methodLinkNest RX8 46 yX10_isIn "RiverCorset" ∈ mx_nest := List.mem_of_getElem? (i := 18) rfl
theorem kn_19 : Cond.methodLinkNest RX1 88 yX10_isIn "RiverCorset" ∈ mx_nest := List.mem_of_getElem? (i := 19) rfl
theorem kn_20 : Cond.methodLinkNest RX9 75 yX10_isIn "RiverCorset" ∈ mx_nest := List.mem_of_getElem? (i := 20) rfl
theorem kn_21 : Cond.methodLinkNest RX0 59 yX10_isIn "RiverCorset" ∈ mx_nest := List.mem_of_getElem? (i := 21) rfl
theorem kn_22 : Cond.methodLinkNest RX12 303 yX11_init "RiverCorsetModel" ∈ mx_nest := List.mem_of_getElem? (i := 22) rfl
theorem kn_23 : Cond.fieldLinkNest RX12 156 "RiverCorsetModel$River" "flow" "I" "RiverCorsetModel" ∈ mx_nest := List.mem_of_getElem? (i := 23) rfl
theorem kn_24 : Cond.fieldLinkNest RX12 218 "RiverCorsetModel$River" "tape" "I" "RiverCorsetModel" ∈ mx_nest := List.mem_of_getElem? (i := 24) rfl
theorem kn_25 : Cond.fieldLinkNest RX12 188 "RiverCorsetModel$River" "reaches" "I" "RiverCorsetModel" ∈ mx_nest := List.mem_of_getElem? (i := 25) rfl
theorem kn_26 : Cond.fieldLinkNest RX12 255 "RiverCorsetModel$River" "ropes" "I" "RiverCorsetModel" ∈ mx_nest := List.mem_of_getElem? (i := 26) rfl
theorem kn_27 : Cond.fieldLinkNest RX12 279 "RiverCorsetModel$River" "hands" "I" "RiverCorsetModel" ∈ mx_nest := List.mem_of_getElem? (i := 27) rfl
theorem kn_28 : Cond.fieldLinkNest RX12 286 "RiverCorsetModel$River" "boats" "I" "RiverCorsetModel" ∈ mx_nest := List.mem_of_getElem? (i := 28) rfl
theorem kn_29 : Cond.fieldLinkNest RX12 297 "RiverCorsetModel$River" "muds" "I" "RiverCorsetModel" ∈ mx_nest := List.mem_of_getElem? (i := 29) rfl
theorem kn_30 : Cond.fieldLinkNest RX12 273 "RiverCorsetModel$River" "loose" "I" "RiverCorsetModel" ∈ mx_nest := List.mem_of_getElem? (i := 30) rfl
theorem kn_31 : Cond.fieldLinkNest RX12 173 "RiverCorsetModel$River" "names" "I" "RiverCorsetModel" ∈ mx_nest := List.mem_of_getElem? (i := 31) rfl
theorem kn_32 : Cond.fieldLinkNest RX12 246 "RiverCorsetModel$River" "kind" "[I" "RiverCorsetModel" ∈ mx_nest := List.mem_of_getElem? (i := 32) rfl
theorem kn_33 : Cond.fieldLinkNest RX12 249 "RiverCorsetModel$River" "wide" "[I" "RiverCorsetModel" ∈ mx_nest := List.mem_of_getElem? (i := 33) rfl
theorem kn_34 : Cond.fieldLinkNest RX12 251 "RiverCorsetModel$River" "bank" "[I" "RiverCorsetModel" ∈ mx_nest := List.mem_of_getElem? (i := 34) rfl
theorem kn_35 : Cond.fieldLinkNest RX12 253 "RiverCorsetModel$River" "mud" "[I" "RiverCorsetModel" ∈ mx_nest := List.mem_of_getElem? (i := 35) rfl
theorem kn_36 : Cond.fieldLinkNest RX12 267 "RiverCorsetModel$River" "at" "[I" "RiverCorsetModel" ∈ mx_nest := List.mem_of_getElem? (i := 36) rfl
theorem kn_37 : Cond.fieldLinkNest RX12 269 "RiverCorsetModel$River" "pulls" "[I" "RiverCorsetModel" ∈ mx_nest := List.mem_of_getElem? (i := 37) rfl
theorem kn_38 : Cond.fieldLinkNest RX12 271 "RiverCorsetModel$River" "bears" "[I" "RiverCorsetModel" ∈ mx_nest := List.mem_of_getElem? (i := 38) rfl
theorem kn_39 : Cond.fieldLinkNest RX12 284 "RiverCorsetModel$River" "strong" "[I" "RiverCorsetModel" ∈ mx_nest := List.mem_of_getElem? (i := 39) rfl
theorem kn_40 : Cond.fieldLinkNest RX12 291 "RiverCorsetModel$River" "boatWide" "[I" "RiverCorsetModel" ∈ mx_nest := List.mem_of_getElem? (i := 40) rfl
theorem kn_41 : Cond.fieldLinkNest RX12 294 "RiverCorsetModel$River" "boatDeep" "[I" "RiverCorsetModel" ∈ mx_nest := List.mem_of_getElem? (i := 41) rfl
theorem kn_42 : Cond.fieldLinkNest RX12 169 "RiverCorsetModel$River" "name" "[J" "RiverCorsetModel" ∈ mx_nest := List.mem_of_getElem? (i := 42) rfl
theorem kn_43 : Cond.fieldLinkNest RX12 176 "RiverCorsetModel$River" "nameSort" "[I" "RiverCorsetModel" ∈ mx_nest := List.mem_of_getElem? (i := 43) rfl
theorem kn_44 : Cond.fieldLinkNest RX12 179 "RiverCorsetModel$River" "numberOf" "[I" "RiverCorsetModel" ∈ mx_nest := List.mem_of_getElem? (i := 44) rfl
theorem mx_nest_ok : ∀ w ∈ mx_nest, mx_isN w = true := by decide +kernel
theorem mx_nest_ot : ∀ w ∈ mx_nest, w.onTables = true := by decide +kernel
def mx_KN (G : mx_G) (U : State) : Prop := va_K G.1 vwCl (mx_tys G) U ∧ ∀ w ∈ mx_nest, va_Nw w U
theorem mx_KN.moved {G : mx_G} {s U : State} (hW : s.WarmedH U.vm) (h : mx_KN G s) : mx_KN G U := by
  refine ⟨va_K.moved hW.alike h.1, fun w hw => ?_⟩
  have h1 := mx_nest_ok w hw
  have h2 := h.2 w hw
  cases w <;> first | exact va_Nw.warmF hW h2 | exact va_Nw.warmM hW h2 | (exact absurd h1 (by decide)) | (simp [mx_isN] at h1)
/-- the reference's String constants: pool index and text; lengths; bytes -/
def mx_lit : List (Nat × String) := [(138, "river"), (212, "flow"), (217, "tape"), (140, "reach"), (142, "rope"), (144, "loose"), (146, "hand"), (148, "boat"), (150, "mud"), (220, "plain"), (222, "meadow"), (224, "cellar"), (226, "bridge"), (239, "wide"), (241, "bank"), (258, "at"), (263, "pulls"), (265, "bears"), (282, "strong"), (289, "deep")]
def mx_len : List Nat := [5, 4, 4, 5, 4, 5, 4, 4, 3, 5, 6, 6, 6, 4, 4, 2, 5, 5, 6, 4]
def mx_byt : List (List Int32) := [[114, 105, 118, 101, 114], [102, 108, 111, 119], [116, 97, 112, 101], [114, 101, 97, 99, 104], [114, 111, 112, 101], [108, 111, 111, 115, 101], [104, 97, 110, 100], [98, 111, 97, 116], [109, 117, 100], [112, 108, 97, 105, 110], [109, 101, 97, 100, 111, 119], [99, 101, 108, 108, 97, 114], [98, 114, 105, 100, 103, 101], [119, 105, 100, 101], [98, 97, 110, 107], [97, 116], [112, 117, 108, 108, 115], [98, 101, 97, 114, 115], [115, 116, 114, 111, 110, 103], [100, 101, 101, 112]]
def mx_ST (G : mx_G) (A : Nat → Prop) (U : State) (H : Heap) : Prop := vk_S 20 mx_len mx_byt G.2.2.2.2.2.1 G.2.2.2.2.2.2 A U H ∧ (∀ (i : Nat) (q : Nat × String), mx_lit[i]? = some q → vk_R "RiverCorsetModel" q.1 q.2 (G.2.2.2.2.2.1 i) U) ∧ va_Z "java/lang/String" "COMPACT_STRINGS" "Z" (.int 1) A U H ∧ va_Zq "jdk/internal/util/Preconditions" "SIOOBE_FORMATTER" "Ljava/util/function/BiFunction;" A U H
theorem mx_ST.moved {G : mx_G} {s U : State} {A B : Nat → Prop} {H : Heap} {locs : List Loc} (hW : s.WarmedH U.vm) (h : mx_ST G A s s.heap) (hS : va_S A s.heap H locs) (hBA : ∀ q, B q → A q) : mx_ST G B U H := by
  obtain ⟨h1, h2, h3, h4⟩ := h
  have hk : ∀ a : Nat, a < s.heap.size → ¬ A a → H[a]? = s.heap[a]? := fun a h1 h2 => hS.2.1 a h1 h2
  exact ⟨((h1.kept hk).narrow hBA).moved hW.alike, fun i q hq => (h2 i q hq).warm hW, ((h3.kept hk).narrow hBA).moved hW.alike, ((h4.kept hk).narrow hBA).moved hW.alike⟩
theorem mx_ST.same {G : mx_G} {U V : State} {A : Nat → Prop} (hv : V.vm = U.vm) (hh : V.heap = U.heap) (h : mx_ST G A U U.heap) : mx_ST G A V V.heap := by
  obtain ⟨h1, h2, h3, h4⟩ := h
  have ha : U.vm.Alike V.vm := by rw [hv]; exact Vm.Alike.refl U.vm
  rw [hh]
  exact ⟨h1.moved ha, fun i q hq => (h2 i q hq).same hv, h3.moved ha, h4.moved ha⟩
def mx_P (G : mx_G) (av : List Value) (sz : Nat) (w : va_W) : Array Value → State → Prop := va_Pc av (fun U => U.heap.size = sz ∧ va_P G.1 vwCl w U.heap ∧ mx_KN G U ∧ va_D (fun _ => True) w ∧ mx_ST G (va_A w sz) U U.heap)
def mx_Q (G : mx_G) (rv : Option Value) (w1 : va_W) (A : Nat → Prop) : Array Value → State → Outcome → State → Prop := fun _ st oc t => (oc = .returned rv ∧ va_P G.1 vwCl w1 t.heap ∧ va_D A w1) ∧ va_F A st t
/-- a contract: from a heap that holds w, with these arguments, it returns rv, the heap holds w1; nothing else has changed, nothing is made -/
def mx_C (l : Launch) (y : MethodName) (cc : ByteArray) (nL : Nat) (ret : Option FieldType) (rm : Room) (G : mx_G) (av : List Value) (w : va_W) (rv : Option Value) (w1 : va_W) : Prop :=
  ∀ sz : Nat, Met l y (.code y cc nL ret :: TB) rm (mx_P G av sz w) (mx_Q G rv w1 (va_A w sz)) 0 0 (va_A w sz)
theorem mx_blind {G : mx_G} {av : List Value} {sz : Nat} {w : va_W} : FrameBlind (mx_P G av sz w) := fun a U g mk q => by
  obtain ⟨q0, q1, qP, qK, qD, qS⟩ := q
  exact ⟨q0, q1, qP, ⟨va_K.moved (u := U) (U := U.calling g mk a) (Vm.Alike.refl U.vm) qK.1, fun w hw => va_Nw.same (u := U) (U := U.calling g mk a) (mx_nest_ot w hw) rfl (qK.2 w hw)⟩, qD, qS.same rfl rfl⟩
/-- what holds in a method's body from its entry on -/
def mx_X (p : Program) (s : State) (m : MethodId) (args : Array Value) (meth : Method) (c : Code) (own name : String) (cc : ByteArray) (nL : Nat) (ret : Option FieldType) (G : mx_G) : Prop :=
  p.tables.exec = Jvm.exec ∧ c.code = cc ∧ c.maxLocals = nL ∧ s.vm.findClass own = some m.cls ∧ (∀ w ∈ TB, w.before args s = true) ∧ mx_KN G s ∧ meth.sig.returnType = ret ∧ meth.locks = false ∧ meth.name = name
/-- the heap holds the cells w, they are apart and in A, and nothing outside A has changed since the entry -/
def mx_W (G : mx_G) (s : State) (A : Nat → Prop) (w : va_W) (H : Heap) (locs : List Loc) : Prop := va_P G.1 vwCl w H ∧ va_D A w ∧ va_S A s.heap H locs ∧ (∀ q, s.heap.size ≤ q → A q) ∧ mx_ST G A s s.heap
theorem mx_enter {l : Launch} {y : MethodName} {rm : Room} {cc : ByteArray} {nL : Nat} {ret : Option FieldType} {own name : String} {G : mx_G} {av : List Value} {lv : List (Nat × Value)} {w w1 : va_W} {rv : Option Value} (hy : plainName y.cls = true) (ho : y.cls = own) (hnm : y.name = name) (hlen : (lg_sl av).length ≤ nL) (hlv : lv_args 0 av = lv)
    (body : ∀ (p : Program) (e : Env) (s : State) (m : MethodId) (args : Array Value) (below : List Frame) (meth : Method) (c : Code) (A : Nat → Prop) (ls : Array Slot), mx_X p s m args meth c own name cc nL ret G → mx_W G s A w s.heap [] → lv_has ls nL lv →
      W p l e rm s m args below meth c s.heap [] 0 0 (MQ below (mx_Q G rv w1 A) args s 0 0 A) (F0 m 0 ls [])) : mx_C l y cc nL ret rm G av w rv w1 := by
  subst hlv; subst ho; subst hnm
  intro sz
  refine Met.ofW (cc := cc) (maxL := nL) (ret := ret) hy rfl ?_
  intro p e s m args below meth c s₁ B hml hv
  obtain ⟨rfl, hsz, hP, hK, hD0, hST⟩ := hv
  subst hsz
  have hl := lv_entry av (n := nL) hlen
  rw [lg_entry_eq]
  exact body p e s m _ below meth c (va_A w s.heap.size) _ ⟨B.exec, B.bytes, hml, findClass_of_methodNamed B.named, fun w' hw' => atoms_spec (ws := .code y cc nL ret :: TB) B.pre w' (List.mem_cons_of_mem _ hw'), hK, B.returns, B.notSynchronized, (name_of_methodNamed B.named B.method).1⟩ ⟨hP, hD0.self, va_S.rf, fun q h => Or.inr h, hST⟩ hl
/-- cells replaced at places -/
def mx_set : va_W → List Nat → va_W → va_W
  | w, i :: is, x :: xs => mx_set (w.set i x) is xs
  | w, _, _ => w
theorem mx_set_at : ∀ (is : List Nat) (xs w : va_W) (k : Nat) (q : Nat × va_E), is.length = xs.length → (mx_set w is xs)[k]? = some q → q ∈ xs ∨ (w[k]? = some q ∧ k ∉ is)
  | [], [], w, k, q, _, h => Or.inr ⟨h, List.not_mem_nil⟩
  | [], x :: xs, w, k, q, hl, h => by simp at hl
  | i :: is, [], w, k, q, hl, h => by simp at hl
  | i :: is, x :: xs, w, k, q, hl, h => by
    rcases mx_set_at is xs (w.set i x) k q (by simpa using hl) h with h1 | ⟨h1, h2⟩
    · exact Or.inl (List.mem_cons_of_mem _ h1)
    · by_cases hk : k = i
      · subst hk
        have hlt : k < (w.set k x).length := (List.getElem?_eq_some_iff.mp h1).1
        rw [List.length_set] at hlt
        rw [List.getElem?_set_self hlt] at h1
        cases h1
        exact Or.inl List.mem_cons_self
      · rw [List.getElem?_set_ne (Ne.symm hk)] at h1
        refine Or.inr ⟨h1, fun h3 => ?_⟩
        rcases List.mem_cons.mp h3 with h3 | h3
        · exact hk h3
        · exact h2 h3
theorem mx_D_of {A : Nat → Prop} {w w2 : va_W} (hD : va_D A w) (h : w2.map Prod.fst = w.map Prod.fst) : va_D A w2 := by
  have key : ∀ (k : Nat) (q : Nat × va_E), w2[k]? = some q → ∃ q0, w[k]? = some q0 ∧ q0.1 = q.1 := by
    intro k q hk
    have h1 : (w2.map Prod.fst)[k]? = some q.1 := by rw [List.getElem?_map, hk]; rfl
    rw [h, List.getElem?_map] at h1
    cases hw : w[k]? with
    | none => rw [hw] at h1; cases h1
    | some q0 => rw [hw] at h1; exact ⟨q0, rfl, Option.some.inj h1⟩
  refine ⟨fun i j x y hi hj hxy => ?_, fun k q hk => ?_⟩
  · obtain ⟨x0, h1, h2⟩ := key i x hi
    obtain ⟨y0, h3, h4⟩ := key j y hj
    exact hD.1 i j x0 y0 h1 h3 (h2.trans (hxy.trans h4.symm))
  · obtain ⟨q0, h1, h2⟩ := key k q hk
    rw [← h2]
    exact hD.2 k q0 h1
theorem mx_at_of {w wc : va_W} {is : List Nat} (hC : is.map (fun i => w[i]?) = wc.map some) : ∀ (k : Nat) (q : Nat × va_E), wc[k]? = some q → ∃ i, is[k]? = some i ∧ w[i]? = some q := by
  intro k q hq
  have h1 : (is.map (fun i => w[i]?))[k]? = some (some q) := by rw [hC, List.getElem?_map, hq]; rfl
  rw [List.getElem?_map] at h1
  cases hi : is[k]? with
  | none => rw [hi] at h1; cases h1
  | some i => rw [hi] at h1; exact ⟨i, rfl, Option.some.inj h1⟩
section MX
variable {p : Program} {l : Launch} {e : Env} {R : Room} {s : State} {m : MethodId} {args : Array Value} {below : List Frame} {meth : Method} {c : Code} {H : Heap} {locs : List Loc} {cells slots : Nat} {Q : State → Prop}
variable {own name : String} {cc : ByteArray} {nL : Nat} {ret : Option FieldType} {G : mx_G} {A : Nat → Prop} {w : va_W} {pc : Nat} {ls : Array Slot} {rest st st1 : List Value}
/-- behind a call of a contract: the callee's cells are new, the others as they were -/
theorem mx_after {y : MethodName} {rv : Option Value} {wc w1 w2 : va_W} {a : Array Value} {g : JFrame} (hr : va_Run p l e R s m args below meth c H locs cells slots 0 0 g rest (mx_Q G rv w1 (va_A wc H.size) a) (va_A wc H.size)) (hW : mx_W G s A w H locs)
    (isC : List Nat) (hC : isC.map (fun i => w[i]?) = wc.map some) (ha1 : w1.map Prod.fst = wc.map Prod.fst) (h2 : mx_set w isC w1 = w2) (ha2 : w2.map Prod.fst = w.map Prod.fst)
    (kk : ∀ (H1 : Heap) (locs1 : List Loc), mx_W G s A w2 H1 locs1 → W p l e R s m args below meth c H1 locs1 cells slots Q { g with pc := g.pc + 3, stack := rv.toList ++ rest }) : W p l e R s m args below meth c H locs cells slots Q g := by
  obtain ⟨hP, hD, hS, hA, hST⟩ := hW
  intro T hT X
  obtain ⟨v, st₀, t, T', L, h0, X', hL, e1, e2, ⟨⟨hv, hP1, hD1⟩, hz, hk⟩, st⟩ := hr T hT X
  cases hv
  rw [h0] at hz hk
  have hF : ∀ q, va_A wc H.size q → A q := va_free hD hS hA isC hC
  have hlen : isC.length = w1.length := by
    have h1 := congrArg List.length hC
    have h3 := congrArg List.length ha1
    simp only [List.length_map] at h1 h3
    omega
  have hP2 : va_P G.1 vwCl w2 t.heap := by
    subst h2
    intro k q hq
    rcases mx_set_at isC w1 w k q hlen hq with h1 | ⟨h1, h3⟩
    · obtain ⟨j, hj⟩ := List.getElem?_of_mem h1
      exact hP1 j q hj
    · have hl := (hP k q h1).lt
      refine (hP k q h1).kept (hk q.1 hl fun h => ?_)
      rcases h with ⟨k2, e', h⟩ | h
      · obtain ⟨i, h4, h5⟩ := mx_at_of hC k2 (q.1, e') h
        have hik := hD.1 k i q (q.1, e') h1 h5 rfl
        subst hik
        exact h3 (List.mem_of_getElem? h4)
      · omega
  obtain ⟨t2, a1, b1⟩ := kk T'.heap (locs ++ L) ⟨by rw [e1]; exact hP2, mx_D_of hD ha2, ⟨Nat.le_trans hS.1 (by rw [e1]; exact hz), fun q h1 h2 => by rw [e1, hk q (Nat.lt_of_lt_of_le h1 hS.1) (fun z => h2 (hF q z))]; exact hS.2.1 q h1 h2, fun q hq => by
      rcases List.mem_append.mp hq with h | h
      · exact hS.2.2 q h
      · exact hF _ (hL q h)⟩, hA, hST⟩ T' rfl X'
  exact ⟨t2, st t2 a1, b1⟩
theorem mx_inC {wc : va_W} (hW : mx_W G s A w H locs) (isC : List Nat) (hC : isC.map (fun i => w[i]?) = wc.map some) (hn : va_nd isC = true) : va_P G.1 vwCl wc H ∧ va_D (fun _ => True) wc := by
  refine ⟨fun k q hq => ?_, (hW.2.1.sub isC hn hC).weaken (fun _ _ _ _ => trivial)⟩
  obtain ⟨i, -, h⟩ := mx_at_of hC k q hq
  exact hW.1 i q h
theorem mx_gV {c0 : Cond} {idx n : Nat} {C : String} {y : MethodName} {b : ByteArray} {r : Option FieldType} (h1 : Cond.methodLink own idx y ∈ TB) (h2 : Cond.instanceMethod y ∈ TB) (h3 : Cond.selects C y y ∈ TB) (h4 : Cond.initialized C ∈ TB) (h5 : Cond.code y b n r ∈ TB) : GoodIn TB (wsV own idx C y (.code y b n r :: TB)) := by
  intro w hw
  have h : w ∈ TB := by
    unfold wsV at hw
    rcases List.mem_append.mp hw with h | h
    · simp only [List.mem_cons, List.not_mem_nil, or_false] at h
      rcases h with h | h | h | h <;> subst h <;> assumption
    · rcases List.mem_cons.mp h with h | h
      · subst h; exact h5
      · exact h
  exact ⟨h, TB_good w h⟩
theorem mx_gS {idx n : Nat} {y : MethodName} {b : ByteArray} {r : Option FieldType} (h1 : Cond.methodLink own idx y ∈ TB) (h2 : Cond.static y ∈ TB) (h4 : Cond.initialized y.cls ∈ TB) (h5 : Cond.code y b n r ∈ TB) : GoodIn TB (va_wsS own idx y (.code y b n r :: TB)) := by
  intro w hw
  have h : w ∈ TB := by
    unfold va_wsS at hw
    rcases List.mem_append.mp hw with h | h
    · simp only [List.mem_cons, List.not_mem_nil, or_false] at h
      rcases h with h | h | h <;> subst h <;> assumption
    · rcases List.mem_cons.mp h with h | h
      · subst h; exact h5
      · exact h
  exact ⟨h, TB_good w h⟩
theorem mx_g0 {n : Nat} {y : MethodName} {b : ByteArray} {r : Option FieldType} (h5 : Cond.code y b n r ∈ TB) : GoodIn TB (.code y b n r :: TB) := by
  intro w hw
  have h : w ∈ TB := by
    rcases List.mem_cons.mp hw with h | h
    · subst h; exact h5
    · exact h
  exact ⟨h, TB_good w h⟩
/-- a call of an instance method by its contract -/
theorem mx_callV {y : MethodName} {bytes : ByteArray} {maxL n idx : Nat} {ret' : Option FieldType} {rm : Room} {b : Nat} {As : List Value} {rv : Option Value} {wc w1 w2 : va_W} {C : String} {ci : Nat} {T : u_T} {N : Nat} {fs : List Value}
    (X : mx_X p s m args meth c own name cc nL ret G) (hW : mx_W G s A w H locs) (hls : ls.size = nL) (hM : mx_C l y bytes maxL ret' rm G (.ref b :: As) wc rv w1) (q0 : Nat) (he : wc[q0]? = some (b, .inr (ci, fs))) (hc : vwCl[ci]? = some (C, T, N))
    (h1 : Cond.methodLink own idx y ∈ TB) (h2 : Cond.instanceMethod y ∈ TB) (h3 : Cond.selects C y y ∈ TB) (h4 : Cond.initialized C ∈ TB) (h5 : Cond.code y bytes maxL ret' ∈ TB) (hd : y.cls = C ∧ y.cls ≠ "java/lang/invoke/MethodHandle" ∧ y.cls ≠ "java/lang/invoke/VarHandle" ∧ (parseMethodDescriptor y.desc).map (fun d => d.parameters.length) = some n)
    (hm0 : rm.cells = 0 ∧ rm.slots = 0) (hR : rm.frames + 1 ≤ R.frames ∧ 8 + (maxL + 11) + rm.locals ≤ R.locals) (hcl : cells ≤ R.cells ∧ slots ≤ R.slots) (isC : List Nat) (hn : va_nd isC = true) (hC : isC.map (fun i => w[i]?) = wc.map some) (ha1 : w1.map Prod.fst = wc.map Prod.fst) (h2w : mx_set w isC w1 = w2) (ha2 : w2.map Prod.fst = w.map Prod.fst)
    (hlen : As.length = n) (hst : st = As.reverse ++ .ref b :: rest) (hcat : (rest.map fun v => v.category).sum ≤ 8) (hst1 : rv.toList ++ rest = st1) (hdg : decode cc pc = .ok (.invokevirtual idx, 3))
    (kk : ∀ (H1 : Heap) (locs1 : List Loc), mx_W G s A w2 H1 locs1 → W p l e R s m args below meth c H1 locs1 cells slots Q (F0 m (pc + 3) ls st1)) : W p l e R s m args below meth c H locs cells slots Q (F0 m pc ls st) := by
  subst hst1
  have hin := mx_inC hW isC hC hn
  obtain ⟨hx, hb, hml, hown, hts, hKN, -⟩ := X
  refine mx_after (y := y) (va_runV (cc := cc) (nL := nL) (Ts := TB) (own := own) ⟨hx, hb, hml, hown, hts⟩ (hM H.size) (cwV n hts (mx_gV (c0 := .initialized C) h1 h2 h3 h4 h5) rfl hm0.1 hm0.2 hd hR) ⟨mx_blind, va_recv hKN.1 hin.1 hc he, fun U hU hWm => ⟨rfl, by rw [hU], by rw [hU]; exact hin.1, hKN.moved hWm, hin.2, by rw [hU]; exact mx_ST.moved hWm hW.2.2.2.2 hW.2.2.1 (va_free hW.2.1 hW.2.2.1 hW.2.2.2.1 isC hC)⟩⟩ rfl hlen hls hst (lv_room hcat) hdg ⟨hcl.1, hcl.2⟩) hW isC hC ha1 h2w ha2 kk
/-- a call of a static method by its contract -/
theorem mx_callS {y : MethodName} {bytes : ByteArray} {maxL n idx : Nat} {ret' : Option FieldType} {rm : Room} {As : List Value} {rv : Option Value} {wc w1 w2 : va_W}
    (X : mx_X p s m args meth c own name cc nL ret G) (hW : mx_W G s A w H locs) (hls : ls.size = nL) (hM : mx_C l y bytes maxL ret' rm G As wc rv w1)
    (h1 : Cond.methodLink own idx y ∈ TB) (h2 : Cond.static y ∈ TB) (h4 : Cond.initialized y.cls ∈ TB) (h5 : Cond.code y bytes maxL ret' ∈ TB) (hd : y.cls ≠ "java/lang/invoke/MethodHandle" ∧ y.cls ≠ "java/lang/invoke/VarHandle" ∧ (parseMethodDescriptor y.desc).map (fun d => d.parameters.length) = some n)
    (hm0 : rm.cells = 0 ∧ rm.slots = 0) (hR : rm.frames + 1 ≤ R.frames ∧ 8 + (maxL + 11) + rm.locals ≤ R.locals) (hcl : cells ≤ R.cells ∧ slots ≤ R.slots) (isC : List Nat) (hn : va_nd isC = true) (hC : isC.map (fun i => w[i]?) = wc.map some) (ha1 : w1.map Prod.fst = wc.map Prod.fst) (h2w : mx_set w isC w1 = w2) (ha2 : w2.map Prod.fst = w.map Prod.fst)
    (hlen : As.length = n) (hst : st = As.reverse ++ rest) (hcat : (rest.map fun v => v.category).sum ≤ 8) (hst1 : rv.toList ++ rest = st1) (hdg : decode cc pc = .ok (.invokestatic idx, 3))
    (kk : ∀ (H1 : Heap) (locs1 : List Loc), mx_W G s A w2 H1 locs1 → W p l e R s m args below meth c H1 locs1 cells slots Q (F0 m (pc + 3) ls st1)) : W p l e R s m args below meth c H locs cells slots Q (F0 m pc ls st) := by
  subst hst1
  have hin := mx_inC hW isC hC hn
  obtain ⟨hx, hb, hml, hown, hts, hKN, -⟩ := X
  refine mx_after (y := y) (va_runS (cc := cc) (nL := nL) (Ts := TB) (own := own) ⟨hx, hb, hml, hown, hts⟩ (hM H.size) ⟨callB_of n hts (mx_g0 h5) rfl hm0.1 hm0.2 (hts _ h4) (hts _ h1) hd hR, hts _ h2⟩ ⟨mx_blind, fun U hU hWm => ⟨rfl, by rw [hU], by rw [hU]; exact hin.1, hKN.moved hWm, hin.2, by rw [hU]; exact mx_ST.moved hWm hW.2.2.2.2 hW.2.2.1 (va_free hW.2.1 hW.2.2.1 hW.2.2.2.1 isC hC)⟩⟩ rfl hlen hls hst (lv_room hcat) hdg ⟨hcl.1, hcl.2⟩) hW isC hC ha1 h2w ha2 kk
/-- a call of a nest mate's private static method by its contract -/
theorem mx_callSN {y : MethodName} {bytes : ByteArray} {maxL n idx : Nat} {ret' : Option FieldType} {rm : Room} {As : List Value} {rv : Option Value} {wc w1 w2 : va_W} {host : String}
    (X : mx_X p s m args meth c own name cc nL ret G) (hW : mx_W G s A w H locs) (hls : ls.size = nL) (hM : mx_C l y bytes maxL ret' rm G As wc rv w1)
    (h1 : Cond.methodLinkNest own idx y host ∈ mx_nest) (h2 : Cond.static y ∈ TB) (h4 : Cond.initialized y.cls ∈ TB) (h5 : Cond.code y bytes maxL ret' ∈ TB) (hd : y.cls ≠ "java/lang/invoke/MethodHandle" ∧ y.cls ≠ "java/lang/invoke/VarHandle" ∧ (parseMethodDescriptor y.desc).map (fun d => d.parameters.length) = some n)
    (hm0 : rm.cells = 0 ∧ rm.slots = 0) (hR : rm.frames + 1 ≤ R.frames ∧ 8 + (maxL + 11) + rm.locals ≤ R.locals) (hcl : cells ≤ R.cells ∧ slots ≤ R.slots) (isC : List Nat) (hn : va_nd isC = true) (hC : isC.map (fun i => w[i]?) = wc.map some) (ha1 : w1.map Prod.fst = wc.map Prod.fst) (h2w : mx_set w isC w1 = w2) (ha2 : w2.map Prod.fst = w.map Prod.fst)
    (hlen : As.length = n) (hst : st = As.reverse ++ rest) (hcat : (rest.map fun v => v.category).sum ≤ 8) (hst1 : rv.toList ++ rest = st1) (hdg : decode cc pc = .ok (.invokestatic idx, 3))
    (kk : ∀ (H1 : Heap) (locs1 : List Loc), mx_W G s A w2 H1 locs1 → W p l e R s m args below meth c H1 locs1 cells slots Q (F0 m (pc + 3) ls st1)) : W p l e R s m args below meth c H locs cells slots Q (F0 m pc ls st) := by
  subst hst1
  have hin := mx_inC hW isC hC hn
  obtain ⟨hx, hb, hml, hown, hts, hKN, -⟩ := X
  refine mx_after (y := y) (va_runSN (cc := cc) (nL := nL) (Ts := TB) (own := own) (host := host) ⟨hx, hb, hml, hown, hts⟩ (hM H.size) ⟨va_cnB n hts (mx_g0 h5) rfl hm0.1 hm0.2 (hKN.2 _ h1) (hts _ h4) hd hR, hts _ h2, trivial⟩ ⟨mx_blind, fun U hU hWm => ⟨rfl, by rw [hU], by rw [hU]; exact hin.1, hKN.moved hWm, hin.2, by rw [hU]; exact mx_ST.moved hWm hW.2.2.2.2 hW.2.2.1 (va_free hW.2.1 hW.2.2.1 hW.2.2.2.1 isC hC)⟩⟩ rfl hlen hls hst (lv_room hcat) hdg ⟨hcl.1, hcl.2⟩) hW isC hC ha1 h2w ha2 kk
theorem mx_get {C : String} {T : u_T} {N ci idx : Nat} {a : Nat} {fs : List Value} {v : Value} (X : mx_X p s m args meth c own name cc nL ret G) (hW : mx_W G s A w H locs) (q0 : Nat) (he : w[q0]? = some (a, .inr (ci, fs))) (hc : vwCl[ci]? = some (C, T, N)) (hin : ∀ w ∈ u_ws C T N, w ∈ TB) (k : Nat) (hk : k < N) (hlink : Cond.fieldLink own idx (T k).1 (T k).2.1 (T k).2.2.1 ∈ TB) (hv : fs[k]? = some v) (hdg : decode cc pc = .ok (.getfield idx, 3))
    (kk : W p l e R s m args below meth c H locs cells slots Q (F0 m (pc + 3) ls (v :: rest))) : W p l e R s m args below meth c H locs cells slots Q (F0 m pc ls (.ref a :: rest)) :=
  va_get X.1 X.2.1 X.2.2.2.2.1 hin X.2.2.2.1 X.2.2.2.2.2.1.1 hW.1 q0 he hc k hk (X.2.2.2.2.1 _ hlink) (fun _ h => h) hv hdg kk
theorem mx_getN {C host : String} {T : u_T} {N ci idx : Nat} {a : Nat} {fs : List Value} {v : Value} (X : mx_X p s m args meth c own name cc nL ret G) (hW : mx_W G s A w H locs) (q0 : Nat) (he : w[q0]? = some (a, .inr (ci, fs))) (hc : vwCl[ci]? = some (C, T, N)) (hin : ∀ w ∈ u_ws C T N, w ∈ TB) (k : Nat) (hk : k < N) (hlink : Cond.fieldLinkNest own idx (T k).1 (T k).2.1 (T k).2.2.1 host ∈ mx_nest) (hv : fs[k]? = some v) (hdg : decode cc pc = .ok (.getfield idx, 3))
    (kk : W p l e R s m args below meth c H locs cells slots Q (F0 m (pc + 3) ls (v :: rest))) : W p l e R s m args below meth c H locs cells slots Q (F0 m pc ls (.ref a :: rest)) :=
  va_getN X.1 X.2.1 X.2.2.2.2.1 hin X.2.2.2.1 X.2.2.2.2.2.1.1 hW.1 q0 he hc k hk (va_Nw.use rfl (X.2.2.2.2.2.1.2 _ hlink)) (fun _ h => h) hv hdg kk
theorem mx_put {C : String} {T : u_T} {N ci idx : Nat} {a : Nat} {fs : List Value} {v : Value} {ty : FieldType} {w2 : va_W} (X : mx_X p s m args meth c own name cc nL ret G) (hW : mx_W G s A w H locs) (q0 : Nat) (he : w[q0]? = some (a, .inr (ci, fs))) (hc : vwCl[ci]? = some (C, T, N)) (hin : ∀ w ∈ u_ws C T N, w ∈ TB) (ty0 : Nat → FieldType) (hty : ∀ k, k < N → parseFieldDescriptor (T k).2.2.1 = some (ty0 k)) (hnm : ∀ a, a < N → ∀ b, b < N → a ≠ b → (T a).2.1 ≠ (T b).2.1) (k : Nat) (hk : k < N) (hlink : Cond.fieldLink own idx (T k).1 (T k).2.1 (T k).2.2.1 ∈ TB) (hfin : (T k).2.2.2 = false) (hty1 : ty0 k = ty) (hn : narrow ty v = v) (hfit : fits ty v = true) (hl : k < fs.length)
    (hw2 : w.set q0 (a, .inr (ci, fs.set k v)) = w2) (hdg : decode cc pc = .ok (.putfield idx, 3)) (kk : ∀ (H1 : Heap) (locs1 : List Loc), mx_W G s A w2 H1 locs1 → W p l e R s m args below meth c H1 locs1 cells slots Q (F0 m (pc + 3) ls rest)) : W p l e R s m args below meth c H locs cells slots Q (F0 m pc ls (v :: .ref a :: rest)) := by
  subst hw2; subst hty1
  exact va_put X.1 X.2.1 X.2.2.2.2.1 hin ty0 hty hnm X.2.2.2.1 X.2.2.2.2.2.1.1 hW.1 hW.2.1 hW.2.2.1 q0 he hc k hk (X.2.2.2.2.1 _ hlink) (fun _ h => h) hfin (hty k hk) hn hfit hl hdg (fun H1 locs1 h1 h2 h3 => kk H1 locs1 ⟨h1, h2, h3, hW.2.2.2⟩)
theorem mx_putN {C host : String} {T : u_T} {N ci idx : Nat} {a : Nat} {fs : List Value} {v : Value} {ty : FieldType} {w2 : va_W} (X : mx_X p s m args meth c own name cc nL ret G) (hW : mx_W G s A w H locs) (q0 : Nat) (he : w[q0]? = some (a, .inr (ci, fs))) (hc : vwCl[ci]? = some (C, T, N)) (hin : ∀ w ∈ u_ws C T N, w ∈ TB) (ty0 : Nat → FieldType) (hty : ∀ k, k < N → parseFieldDescriptor (T k).2.2.1 = some (ty0 k)) (hnm : ∀ a, a < N → ∀ b, b < N → a ≠ b → (T a).2.1 ≠ (T b).2.1) (k : Nat) (hk : k < N) (hlink : Cond.fieldLinkNest own idx (T k).1 (T k).2.1 (T k).2.2.1 host ∈ mx_nest) (hfin : (T k).2.2.2 = false) (hty1 : ty0 k = ty) (hn : narrow ty v = v) (hfit : fits ty v = true) (hl : k < fs.length)
    (hw2 : w.set q0 (a, .inr (ci, fs.set k v)) = w2) (hdg : decode cc pc = .ok (.putfield idx, 3)) (kk : ∀ (H1 : Heap) (locs1 : List Loc), mx_W G s A w2 H1 locs1 → W p l e R s m args below meth c H1 locs1 cells slots Q (F0 m (pc + 3) ls rest)) : W p l e R s m args below meth c H locs cells slots Q (F0 m pc ls (v :: .ref a :: rest)) := by
  subst hw2; subst hty1
  exact va_putN X.1 X.2.1 X.2.2.2.2.1 hin ty0 hty hnm X.2.2.2.1 X.2.2.2.2.2.1.1 hW.1 hW.2.1 hW.2.2.1 q0 he hc k hk (va_Nw.use rfl (X.2.2.2.2.2.1.2 _ hlink)) (fun _ h => h) hfin (hty k hk) hn hfit hl hdg (fun H1 locs1 h1 h2 h3 => kk H1 locs1 ⟨h1, h2, h3, hW.2.2.2⟩)
theorem mx_iald {a n : Nat} {f : Nat → Int32} {i : Int32} (X : mx_X p s m args meth c own name cc nL ret G) (hW : mx_W G s A w H locs) (q0 : Nat) (he : w[q0]? = some (xI G a n f)) (hin : vp_in i n) (hdg : decode cc pc = .ok (.iaload, 1))
    (kk : W p l e R s m args below meth c H locs cells slots Q (F0 m (pc + 1) ls (.int (f i.toNatClampNeg) :: rest))) : W p l e R s m args below meth c H locs cells slots Q (F0 m pc ls (.int i :: .ref a :: rest)) :=
  va_iald X.1 X.2.1 X.2.2.2.2.2.1.1 hW.1 q0 0 he rfl hin hdg kk
theorem mx_bald {a n : Nat} {f : Nat → Int32} {i : Int32} (X : mx_X p s m args meth c own name cc nL ret G) (hW : mx_W G s A w H locs) (q0 : Nat) (he : w[q0]? = some (xB G a n f)) (hin : vp_in i n) (hdg : decode cc pc = .ok (.baload, 1))
    (kk : W p l e R s m args below meth c H locs cells slots Q (F0 m (pc + 1) ls (.int (f i.toNatClampNeg) :: rest))) : W p l e R s m args below meth c H locs cells slots Q (F0 m pc ls (.int i :: .ref a :: rest)) :=
  va_bald X.1 X.2.1 X.2.2.2.2.2.1.1 hW.1 q0 1 he rfl hin hdg kk
theorem mx_lald {a n : Nat} {f : Nat → Int64} {i : Int32} (X : mx_X p s m args meth c own name cc nL ret G) (hW : mx_W G s A w H locs) (q0 : Nat) (he : w[q0]? = some (xJ G a n f)) (hin : vp_in i n) (hdg : decode cc pc = .ok (.laload, 1))
    (kk : W p l e R s m args below meth c H locs cells slots Q (F0 m (pc + 1) ls (.long (f i.toNatClampNeg) :: rest))) : W p l e R s m args below meth c H locs cells slots Q (F0 m pc ls (.int i :: .ref a :: rest)) :=
  va_lald X.1 X.2.1 X.2.2.2.2.2.1.1 hW.1 q0 2 he rfl hin hdg kk
theorem mx_iast {a n : Nat} {f : Nat → Int32} {i x : Int32} {w2 : va_W} (X : mx_X p s m args meth c own name cc nL ret G) (hW : mx_W G s A w H locs) (q0 : Nat) (he : w[q0]? = some (xI G a n f)) (hin : vp_in i n) (hw2 : w.set q0 (xI G a n (upd f i.toNatClampNeg x)) = w2) (hdg : decode cc pc = .ok (.iastore, 1))
    (kk : ∀ (H1 : Heap) (locs1 : List Loc), mx_W G s A w2 H1 locs1 → W p l e R s m args below meth c H1 locs1 cells slots Q (F0 m (pc + 1) ls rest)) : W p l e R s m args below meth c H locs cells slots Q (F0 m pc ls (.int x :: .int i :: .ref a :: rest)) := by
  subst hw2
  exact va_iast X.1 X.2.1 X.2.2.2.2.2.1.1 hW.1 hW.2.1 hW.2.2.1 q0 0 he rfl hin hdg (fun H1 locs1 h1 h2 h3 => kk H1 locs1 ⟨h1, h2, h3, hW.2.2.2⟩)
theorem mx_bast {a n : Nat} {f : Nat → Int32} {i x : Int32} {w2 : va_W} (X : mx_X p s m args meth c own name cc nL ret G) (hW : mx_W G s A w H locs) (q0 : Nat) (he : w[q0]? = some (xB G a n f)) (hin : vp_in i n) (hw2 : w.set q0 (xB G a n (upd f i.toNatClampNeg (vp_nar .byte x))) = w2) (hdg : decode cc pc = .ok (.bastore, 1))
    (kk : ∀ (H1 : Heap) (locs1 : List Loc), mx_W G s A w2 H1 locs1 → W p l e R s m args below meth c H1 locs1 cells slots Q (F0 m (pc + 1) ls rest)) : W p l e R s m args below meth c H locs cells slots Q (F0 m pc ls (.int x :: .int i :: .ref a :: rest)) := by
  subst hw2
  exact va_bast X.1 X.2.1 X.2.2.2.2.2.1.1 hW.1 hW.2.1 hW.2.2.1 q0 1 he rfl hin hdg (fun H1 locs1 h1 h2 h3 => kk H1 locs1 ⟨h1, h2, h3, hW.2.2.2⟩)
theorem mx_last {a n : Nat} {f : Nat → Int64} {i : Int32} {x : Int64} {w2 : va_W} (X : mx_X p s m args meth c own name cc nL ret G) (hW : mx_W G s A w H locs) (q0 : Nat) (he : w[q0]? = some (xJ G a n f)) (hin : vp_in i n) (hw2 : w.set q0 (xJ G a n (vp_updL f i.toNatClampNeg x)) = w2) (hdg : decode cc pc = .ok (.lastore, 1))
    (kk : ∀ (H1 : Heap) (locs1 : List Loc), mx_W G s A w2 H1 locs1 → W p l e R s m args below meth c H1 locs1 cells slots Q (F0 m (pc + 1) ls rest)) : W p l e R s m args below meth c H locs cells slots Q (F0 m pc ls (.long x :: .int i :: .ref a :: rest)) := by
  subst hw2
  exact va_last X.1 X.2.1 X.2.2.2.2.2.1.1 hW.1 hW.2.1 hW.2.2.1 q0 2 he rfl hin hdg (fun H1 locs1 h1 h2 h3 => kk H1 locs1 ⟨h1, h2, h3, hW.2.2.2⟩)
theorem mx_vret {w1 : va_W} (X : mx_X p s m args meth c own name cc nL none G) (hW : mx_W G s A w1 H locs) (hdg : decode cc pc = .ok (.return_, 1)) : W p l e R s m args below meth c H locs cells slots (MQ below (mx_Q G none w1 A) args s cells slots A) (F0 m pc ls []) :=
  W.vret X.1 X.2.1 X.2.2.2.2.2.2.1 (fun t ht _ => ⟨⟨rfl, by rw [ht]; exact hW.1, hW.2.1⟩, hW.2.2.1.F ht⟩) hW.2.2.1.2.2 hdg X.2.2.2.2.2.2.2.1
theorem mx_iret {w1 : va_W} {v : Int32} (X : mx_X p s m args meth c own name cc nL (some .int) G) (hW : mx_W G s A w1 H locs) (hdg : decode cc pc = .ok (.ireturn, 1)) : W p l e R s m args below meth c H locs cells slots (MQ below (mx_Q G (some (.int v)) w1 A) args s cells slots A) (F0 m pc ls [.int v]) :=
  W.iret X.1 X.2.1 X.2.2.2.2.2.2.1 (fun t ht _ => ⟨⟨rfl, by rw [ht]; exact hW.1, hW.2.1⟩, hW.2.2.1.F ht⟩) hW.2.2.1.2.2 hdg X.2.2.2.2.2.2.2.1
theorem mx_zret {w1 : va_W} {v : Int32} (X : mx_X p s m args meth c own name cc nL (some .boolean) G) (hn : narrow .boolean (.int v) = .int v) (hW : mx_W G s A w1 H locs) (hdg : decode cc pc = .ok (.ireturn, 1)) : W p l e R s m args below meth c H locs cells slots (MQ below (mx_Q G (some (.int v)) w1 A) args s cells slots A) (F0 m pc ls [.int v]) :=
  W.zret X.1 X.2.1 X.2.2.2.2.2.2.1 hn (fun t ht _ => ⟨⟨rfl, by rw [ht]; exact hW.1, hW.2.1⟩, hW.2.2.1.F ht⟩) hW.2.2.1.2.2 hdg X.2.2.2.2.2.2.2.1
theorem mx_lret {w1 : va_W} {v : Int64} (X : mx_X p s m args meth c own name cc nL (some .long) G) (hW : mx_W G s A w1 H locs) (hdg : decode cc pc = .ok (.lreturn, 1)) : W p l e R s m args below meth c H locs cells slots (MQ below (mx_Q G (some (.long v)) w1 A) args s cells slots A) (F0 m pc ls [.long v]) :=
  W.lret X.1 X.2.1 X.2.2.2.2.2.2.1 (fun t ht _ => ⟨⟨rfl, by rw [ht]; exact hW.1, hW.2.1⟩, hW.2.2.1.F ht⟩) hW.2.2.1.2.2 hdg X.2.2.2.2.2.2.2.1
theorem mx_aret {w1 : va_W} {a : Nat} {cn : String} (X : mx_X p s m args meth c own name cc nL (some (.object cn)) G) (hW : mx_W G s A w1 H locs) (hdg : decode cc pc = .ok (.areturn, 1)) : W p l e R s m args below meth c H locs cells slots (MQ below (mx_Q G (some (.ref a)) w1 A) args s cells slots A) (F0 m pc ls [.ref a]) :=
  W.aret X.1 X.2.1 X.2.2.2.2.2.2.1 (Or.inl ⟨_, rfl⟩) (Or.inr ⟨_, rfl⟩) (fun t ht _ => ⟨⟨rfl, by rw [ht]; exact hW.1, hW.2.1⟩, hW.2.2.1.F ht⟩) hW.2.2.1.2.2 hdg X.2.2.2.2.2.2.2.1
theorem mx_max {idx : Nat} {x y : Int32} (X : mx_X p s m args meth c own name cc nL ret G) (hls : ls.size = nL) (h1 : Cond.methodLink own idx Lib.Math.max.name ∈ TB) (hR : 1 ≤ R.frames ∧ (rest.map fun v => v.category).sum + 13 ≤ R.locals) (hcl : cells ≤ R.cells ∧ slots ≤ R.slots) (hdg : decode cc pc = .ok (.invokestatic idx, 3))
    (kk : W p l e R s m args below meth c H locs cells slots Q (F0 m (pc + 3) ls (.int (if x < y then y else x) :: rest))) : W p l e R s m args below meth c H locs cells slots Q (F0 m pc ls (.int y :: .int x :: rest)) :=
  va_mmax X.1 X.2.1 (X.2.2.1.trans hls.symm) X.2.2.2.1 (X.2.2.2.2.1 _ h1) (X.2.2.2.2.1 _ kw_605) (X.2.2.2.2.1 _ kw_176) (X.2.2.2.2.1 _ kw_606) hR.1 hR.2 hcl.1 hcl.2 hdg kk
theorem mx_min {idx : Nat} {x y : Int32} (X : mx_X p s m args meth c own name cc nL ret G) (hls : ls.size = nL) (h1 : Cond.methodLink own idx Lib.Math.min.name ∈ TB) (hR : 1 ≤ R.frames ∧ (rest.map fun v => v.category).sum + 13 ≤ R.locals) (hcl : cells ≤ R.cells ∧ slots ≤ R.slots) (hdg : decode cc pc = .ok (.invokestatic idx, 3))
    (kk : W p l e R s m args below meth c H locs cells slots Q (F0 m (pc + 3) ls (.int (if y < x then y else x) :: rest))) : W p l e R s m args below meth c H locs cells slots Q (F0 m pc ls (.int y :: .int x :: rest)) :=
  va_mmin X.1 X.2.1 (X.2.2.1.trans hls.symm) X.2.2.2.1 (X.2.2.2.2.1 _ h1) (X.2.2.2.2.1 _ kw_175) (X.2.2.2.2.1 _ kw_176) (X.2.2.2.2.1 _ kw_177) hR.1 hR.2 hcl.1 hcl.2 hdg kk
end MX
/-- a guard -/
def gd {α : Type} (b : Bool) (x : Option α) : Option α := if b = true then x else none
theorem gd_s {α : Type} {b : Bool} {x : Option α} {y : α} (h : gd b x = some y) : b = true ∧ x = some y := by
  cases b
  · exact absurd h (by simp [gd])
  · exact ⟨rfl, h⟩
theorem bd_s {α β : Type} {x : Option α} {f : α → Option β} {y : β} (h : x.bind f = some y) : ∃ o, x = some o ∧ f o = some y := Option.bind_eq_some_iff.mp h
def inb (i : Int32) (n : Nat) : Bool := decide (¬ (i < 0 ∨ n ≤ i.toNatClampNeg))
theorem inb_s {i : Int32} {n : Nat} (h : inb i n = true) : vp_in i n := (of_decide_eq_true h : ¬ (i < 0 ∨ n ≤ i.toNatClampNeg))
def nz (x : Int32) : Bool := decide (¬ x = 0)
theorem nz_s {x : Int32} (h : nz x = true) : ¬ x = 0 := of_decide_eq_true h
def nbl (x : Int32) : Bool := decide (x = 0 ∨ x = 1)
theorem nbl_s {x : Int32} (h : nbl x = true) : narrow .boolean (.int x) = .int x := by
  rcases of_decide_eq_true h with rfl | rfl <;> rfl
theorem nb0 : narrow .boolean (.int 0) = .int 0 := rfl
theorem nb1 : narrow .boolean (.int 1) = .int 1 := rfl
/-- a number gets a name -/
def nm {α β : Type} (x : α) (f : α → β) : β := f x
theorem nm_s {α β : Type} {x e : α} {f : α → β} {y : β} (h : x = e) (hm : nm e f = y) : f x = y := by subst h; exact hm
theorem ne_i {x k : Int32} {n : Int} (h : k.toInt = n) (c : ¬ x = k) : x.toInt ≠ n := fun h2 => c (Int32.toInt_inj.mp (h2.trans h.symm))
