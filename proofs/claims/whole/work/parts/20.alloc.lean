/-! methods that make cells: the new addresses are told by a function -/
def mx_PN (G : mx_G) (av : List Value) (sz : Nat) (w : va_W) : Array Value → State → Prop := fun v U => mx_P G av sz w v U ∧ va_AO "RiverCorset$State" U
def mx_QN (G : mx_G) (rv : Option Value) (w1 : (Nat → Nat) → va_W) (A : Nat → Prop) : Array Value → State → Outcome → State → Prop := fun _ st oc t => (∃ a : Nat → Nat, oc = .returned rv ∧ va_P G.1 vwCl (w1 a) t.heap ∧ va_D A (w1 a)) ∧ va_F A st t
def mx_CN (l : Launch) (y : MethodName) (cc : ByteArray) (nL : Nat) (ret : Option FieldType) (rm : Room) (G : mx_G) (av : List Value) (w : va_W) (rv : Option Value) (w1 : (Nat → Nat) → va_W) (mc ms : Nat) : Prop :=
  ∀ sz : Nat, Met l y (.code y cc nL ret :: TB) rm (mx_PN G av sz w) (mx_QN G rv w1 (va_A w sz)) mc ms (va_A w sz)
theorem mx_blindN {G : mx_G} {av : List Value} {sz : Nat} {w : va_W} : FrameBlind (mx_PN G av sz w) := fun a U g mk q => ⟨mx_blind a U g mk q.1, va_AO.moved (u := U) (U := U.calling g mk a) (Vm.Alike.refl U.vm) q.2⟩
theorem mx_enterN {l : Launch} {y : MethodName} {rm : Room} {cc : ByteArray} {nL : Nat} {ret : Option FieldType} {own name : String} {G : mx_G} {av : List Value} {lv : List (Nat × Value)} {w : va_W} {w1 : (Nat → Nat) → va_W} {rv : Option Value} {mc ms : Nat} (hy : plainName y.cls = true) (ho : y.cls = own) (hnm : y.name = name) (hlen : (lg_sl av).length ≤ nL) (hlv : lv_args 0 av = lv)
    (body : ∀ (p : Program) (e : Env) (s : State) (m : MethodId) (args : Array Value) (below : List Frame) (meth : Method) (c : Code) (A : Nat → Prop) (ls : Array Slot), mx_X p s m args meth c own name cc nL ret G → va_AO "RiverCorset$State" s → mx_W G s A w s.heap [] → lv_has ls nL lv →
      W p l e rm s m args below meth c s.heap [] 0 0 (MQ below (mx_QN G rv w1 A) args s mc ms A) (F0 m 0 ls [])) : mx_CN l y cc nL ret rm G av w rv w1 mc ms := by
  subst hlv; subst ho; subst hnm
  intro sz
  refine Met.ofW (cc := cc) (maxL := nL) (ret := ret) hy rfl ?_
  intro p e s m args below meth c s₁ B hml hv
  obtain ⟨⟨rfl, hsz, hP, hK, hD0, hST⟩, hAO⟩ := hv
  subst hsz
  have hl := lv_entry av (n := nL) hlen
  rw [lg_entry_eq]
  exact body p e s m _ below meth c (va_A w s.heap.size) _ ⟨B.exec, B.bytes, hml, findClass_of_methodNamed B.named, fun w' hw' => atoms_spec (ws := .code y cc nL ret :: TB) B.pre w' (List.mem_cons_of_mem _ hw'), hK, B.returns, B.notSynchronized, (name_of_methodNamed B.named B.method).1⟩ hAO ⟨hP, hD0.self, va_S.rf, fun q h => Or.inr h, hST⟩ hl
section ALL
variable {p : Program} {l : Launch} {e : Env} {R : Room} {s : State} {m : MethodId} {args : Array Value} {below : List Frame} {meth : Method} {c : Code} {H : Heap} {locs : List Loc} {cells slots : Nat} {Q : State → Prop}
variable {own name : String} {cc : ByteArray} {nL : Nat} {ret : Option FieldType} {G : mx_G} {A : Nat → Prop} {w : va_W} {pc : Nat} {ls : Array Slot} {rest st st1 : List Value}
theorem mx_vretN {w1 : (Nat → Nat) → va_W} (a : Nat → Nat) (X : mx_X p s m args meth c own name cc nL none G) (hW : mx_W G s A (w1 a) H locs) (hdg : decode cc pc = .ok (.return_, 1)) : W p l e R s m args below meth c H locs cells slots (MQ below (mx_QN G none w1 A) args s cells slots A) (F0 m pc ls []) :=
  W.vret X.1 X.2.1 X.2.2.2.2.2.2.1 (fun t ht _ => ⟨⟨a, rfl, by rw [ht]; exact hW.1, hW.2.1⟩, hW.2.2.1.F ht⟩) hW.2.2.1.2.2 hdg X.2.2.2.2.2.2.2.1
theorem mx_objI {idx : Nat} {a : Nat} (X : mx_X p s m args meth c own name cc nL ret G) (hls : ls.size = nL) (h1 : Cond.methodLink own idx objectInit ∈ TB) (hR : 1 ≤ R.frames ∧ (rest.map fun v => v.category).sum + 12 ≤ R.locals) (hdg : decode cc pc = .ok (.invokespecial idx, 3))
    (kk : W p l e R s m args below meth c H locs cells slots Q (F0 m (pc + 3) ls rest)) : W p l e R s m args below meth c H locs cells slots Q (F0 m pc ls (.ref a :: rest)) :=
  W.objInit X.1 X.2.1 X.2.2.2.1 (X.2.2.2.2.1 _ h1) (X.2.2.2.2.1 _ kw_11) (X.2.2.2.2.1 _ kw_12) rfl (hls.trans X.2.2.1.symm) rfl hdg hR.1 (by have := hR.2; simp only [JFrame.monitorRoom]; omega) kk
theorem mx_new {C : String} {T : u_T} {N ci idx : Nat} {fs : List Value} (X : mx_X p s m args meth c own name cc nL ret G) (hW : mx_W G s A w H locs) (hc : vwCl[ci]? = some (C, T, N)) (hin : ∀ w ∈ u_ws C T N, w ∈ TB) (ty : Nat → FieldType) (hty : ∀ k, k < N → parseFieldDescriptor (T k).2.2.1 = some (ty k)) (hcl : Cond.classLink own idx C ∈ TB) (hinst : Cond.instantiable C N ∈ TB) (hini : Cond.initialized C ∈ TB) (hfs : ∀ j, j < N → defaultValue (ty j) = vp_V fs j) (hr : cells + 1 ≤ R.cells ∧ slots + N ≤ R.slots) (hdg : decode cc pc = .ok (.new idx, 3))
    (kk : ∀ (q : Nat) (H1 : Heap), mx_W G s A (w ++ [xO q ci fs]) H1 locs → W p l e R s m args below meth c H1 locs (cells + 1) (slots + N) Q (F0 m (pc + 3) ls (.ref q :: rest))) : W p l e R s m args below meth c H locs cells slots Q (F0 m pc ls rest) :=
  va_new X.1 X.2.1 X.2.2.2.2.1 hin ty hty X.2.2.2.1 (X.2.2.2.2.1 _ hcl) (X.2.2.2.2.1 _ hinst) (X.2.2.2.2.1 _ hini) X.2.2.2.2.2.1.1 hW.1 hW.2.1 hW.2.2.1 hW.2.2.2.1 hc hfs hr.1 hr.2 hdg (fun q H1 h1 h2 h3 => kk q H1 ⟨h1, h2, h3, hW.2.2.2⟩)
theorem mx_cls {tys : List (ClassId × FieldType)} {D : va_G} {cl : List vw_C} {cA cB : ClassId} {t0 t1 : Nat} {ty : FieldType} (h : va_K D cl tys s) (hp : ∀ C, ty ≠ .object C) (h0 : tys[t0]? = some (cA, ty)) (h1 : tys[t1]? = some (cB, ty)) : cA = cB := by
  have a := (h.2 t0 _ h0).2
  have b := (h.2 t1 _ h1).2
  cases ty with
  | object C => exact absurd rfl (hp C)
  | _ => exact Option.some.inj (Eq.trans (Eq.symm a) b)
theorem mx_clsS {tys : List (ClassId × FieldType)} {D : va_G} {cl : List vw_C} {cA cB : ClassId} {t0 t1 : Nat} {C : String} (h : va_K D cl tys s) (h0 : tys[t0]? = some (cA, .object C)) (h1 : tys[t1]? = some (cB, .object C)) : cA = cB := by
  obtain ⟨_, _, _, _, _, a⟩ := (h.2 t0 _ h0).2
  obtain ⟨_, _, _, _, _, b⟩ := (h.2 t1 _ h1).2
  exact Option.some.inj (Eq.trans (Eq.symm a) b)
theorem mx_newI {n : Int32} (N : Nat) (X : mx_X p s m args meth c own name cc nL ret G) (hW : mx_W G s A w H locs) (hn : ¬ n < 0) (hN : n.toNatClampNeg = N) (hb8 : N * componentBytes .int ≤ 536870912) (hr : cells + 1 ≤ R.cells ∧ slots + N ≤ R.slots) (hdg : decode cc pc = .ok (.newarray .int, 2))
    (kk : ∀ (q : Nat) (H1 : Heap), mx_W G s A (w ++ [xI G q N (fun _ => 0)]) H1 locs → W p l e R s m args below meth c H1 locs (cells + 1) (slots + N) Q (F0 m (pc + 2) ls (.ref q :: rest))) : W p l e R s m args below meth c H locs cells slots Q (F0 m pc ls (.int n :: rest)) := by
  refine va_newa (atype := .int) (a0 := (N, .inl (fun _ => 0))) (ty := .int) X.1 X.2.1 (X.2.2.2.2.1 _ kw_60) rfl X.2.2.2.2.2.1.1 hW.1 hW.2.1 hW.2.2.1 hW.2.2.2.1 (fun _ => rfl) hn hN hb8 hr.1 hr.2 hdg (fun q cA H1 hK h1 h2 h3 => ?_)
  have ec : G.2.1 = cA := mx_cls (t0 := 0) (t1 := 4) hK (fun _ h => by cases h) rfl rfl
  rw [← ec] at h1 h2
  exact kk q H1 ⟨h1, h2, h3, hW.2.2.2⟩
theorem mx_newB {n : Int32} (N : Nat) (X : mx_X p s m args meth c own name cc nL ret G) (hW : mx_W G s A w H locs) (hn : ¬ n < 0) (hN : n.toNatClampNeg = N) (hb8 : N * componentBytes .byte ≤ 536870912) (hr : cells + 1 ≤ R.cells ∧ slots + N ≤ R.slots) (hdg : decode cc pc = .ok (.newarray .byte, 2))
    (kk : ∀ (q : Nat) (H1 : Heap), mx_W G s A (w ++ [xB G q N (fun _ => 0)]) H1 locs → W p l e R s m args below meth c H1 locs (cells + 1) (slots + N) Q (F0 m (pc + 2) ls (.ref q :: rest))) : W p l e R s m args below meth c H locs cells slots Q (F0 m pc ls (.int n :: rest)) := by
  refine va_newa (atype := .byte) (a0 := (N, .inl (fun _ => 0))) (ty := .byte) X.1 X.2.1 (X.2.2.2.2.1 _ kw_57) rfl X.2.2.2.2.2.1.1 hW.1 hW.2.1 hW.2.2.1 hW.2.2.2.1 (fun _ => rfl) hn hN hb8 hr.1 hr.2 hdg (fun q cA H1 hK h1 h2 h3 => ?_)
  have ec : G.2.2.1 = cA := mx_cls (t0 := 1) (t1 := 4) hK (fun _ h => by cases h) rfl rfl
  rw [← ec] at h1 h2
  exact kk q H1 ⟨h1, h2, h3, hW.2.2.2⟩
theorem mx_newJ {n : Int32} (N : Nat) (X : mx_X p s m args meth c own name cc nL ret G) (hW : mx_W G s A w H locs) (hn : ¬ n < 0) (hN : n.toNatClampNeg = N) (hb8 : N * componentBytes .long ≤ 536870912) (hr : cells + 1 ≤ R.cells ∧ slots + N ≤ R.slots) (hdg : decode cc pc = .ok (.newarray .long, 2))
    (kk : ∀ (q : Nat) (H1 : Heap), mx_W G s A (w ++ [xJ G q N (fun _ => 0)]) H1 locs → W p l e R s m args below meth c H1 locs (cells + 1) (slots + N) Q (F0 m (pc + 2) ls (.ref q :: rest))) : W p l e R s m args below meth c H locs cells slots Q (F0 m pc ls (.int n :: rest)) := by
  refine va_newa (atype := .long) (a0 := (N, .inr (.inl (fun _ => 0)))) (ty := .long) X.1 X.2.1 (X.2.2.2.2.1 _ kw_6) rfl X.2.2.2.2.2.1.1 hW.1 hW.2.1 hW.2.2.1 hW.2.2.2.1 (fun _ => rfl) hn hN hb8 hr.1 hr.2 hdg (fun q cA H1 hK h1 h2 h3 => ?_)
  have ec : G.2.2.2.1 = cA := mx_cls (t0 := 2) (t1 := 4) hK (fun _ h => by cases h) rfl rfl
  rw [← ec] at h1 h2
  exact kk q H1 ⟨h1, h2, h3, hW.2.2.2⟩
theorem mx_newS {n : Int32} {idx : Nat} (N : Nat) (X : mx_X p s m args meth c own name cc nL ret G) (hAO : va_AO "RiverCorset$State" s) (hW : mx_W G s A w H locs) (hcl : Cond.classLink own idx "RiverCorset$State" ∈ TB) (hn : ¬ n < 0) (hN : n.toNatClampNeg = N) (hb8 : N * 4 ≤ 536870912) (hr : cells + 1 ≤ R.cells ∧ slots + N ≤ R.slots) (hdg : decode cc pc = .ok (.anewarray idx, 3))
    (kk : ∀ (q : Nat) (H1 : Heap), mx_W G s A (w ++ [xS G q N (fun _ => none)]) H1 locs → W p l e R s m args below meth c H1 locs (cells + 1) (slots + N) Q (F0 m (pc + 3) ls (.ref q :: rest))) : W p l e R s m args below meth c H locs cells slots Q (F0 m pc ls (.int n :: rest)) := by
  refine va_newq X.1 X.2.1 X.2.2.2.1 (X.2.2.2.2.1 _ hcl) hAO X.2.2.2.2.2.1.1 hW.1 hW.2.1 hW.2.2.1 hW.2.2.2.1 hn hN hb8 hr.1 hr.2 hdg (fun q cA H1 hK h1 h2 h3 => ?_)
  have ec : G.2.2.2.2.1 = cA := mx_clsS (t0 := 3) (t1 := 4) hK rfl rfl
  rw [← ec] at h1 h2
  exact kk q H1 ⟨h1, h2, h3, hW.2.2.2⟩
theorem mx_aast {a n v : Nat} {vs : List Value} {f : Nat → Option Nat} {i : Int32} {w2 : va_W} (X : mx_X p s m args meth c own name cc nL ret G) (hW : mx_W G s A w H locs) (q0 qk : Nat) (he : w[q0]? = some (xS G a n f)) (hv : w[qk]? = some (xO v 7 vs)) (hin : vp_in i n) (hw2 : w.set q0 (xS G a n (va_up f i.toNatClampNeg (some v))) = w2) (hdg : decode cc pc = .ok (.aastore, 1))
    (kk : ∀ (H1 : Heap) (locs1 : List Loc), mx_W G s A w2 H1 locs1 → W p l e R s m args below meth c H1 locs1 cells slots Q (F0 m (pc + 1) ls rest)) : W p l e R s m args below meth c H locs cells slots Q (F0 m pc ls (.ref v :: .int i :: .ref a :: rest)) := by
  subst hw2
  exact va_astq (r := (RX7, TX7, 5)) X.1 X.2.1 X.2.2.2.2.2.1.1 hW.1 hW.2.1 hW.2.2.1 q0 3 qk 7 he rfl hv rfl hin hdg (fun H1 locs1 h1 h2 h3 => kk H1 locs1 ⟨h1, h2, h3, hW.2.2.2⟩)
theorem mx_putF {C : String} {T : u_T} {N ci idx : Nat} {a : Nat} {fs : List Value} {v : Value} {ty : FieldType} {w2 : va_W} (X : mx_X p s m args meth c own "<init>" cc nL ret G) (hW : mx_W G s A w H locs) (q0 : Nat) (he : w[q0]? = some (a, .inr (ci, fs))) (hc : vwCl[ci]? = some (C, T, N)) (hin : ∀ w ∈ u_ws C T N, w ∈ TB) (ty0 : Nat → FieldType) (hty : ∀ k, k < N → parseFieldDescriptor (T k).2.2.1 = some (ty0 k)) (hnm : ∀ a, a < N → ∀ b, b < N → a ≠ b → (T a).2.1 ≠ (T b).2.1) (k : Nat) (hk : k < N) (hlink : Cond.fieldLink own idx (T k).1 (T k).2.1 (T k).2.2.1 ∈ TB) (hfin : (T k).2.2.2 = true) (hdecl : (T k).1 = own) (hty1 : ty0 k = ty) (hn : narrow ty v = v) (hfit : fits ty v = true) (hl : k < fs.length)
    (hw2 : w.set q0 (a, .inr (ci, fs.set k v)) = w2) (hdg : decode cc pc = .ok (.putfield idx, 3)) (kk : ∀ (H1 : Heap) (locs1 : List Loc), mx_W G s A w2 H1 locs1 → W p l e R s m args below meth c H1 locs1 cells slots Q (F0 m (pc + 3) ls rest)) : W p l e R s m args below meth c H locs cells slots Q (F0 m pc ls (v :: .ref a :: rest)) := by
  subst hw2; subst hty1
  exact va_putF X.1 X.2.1 X.2.2.2.2.1 hin ty0 hty hnm X.2.2.2.1 X.2.2.2.2.2.1.1 hW.1 hW.2.1 hW.2.2.1 q0 he hc k hk (X.2.2.2.2.1 _ hlink) (fun _ h => h) hfin X.2.2.2.2.2.2.2.2 hdecl (hty k hk) hn hfit hl hdg (fun H1 locs1 h1 h2 h3 => kk H1 locs1 ⟨h1, h2, h3, hW.2.2.2⟩)
/-- behind a call that made cells: the rest as it was, then the callee's world -/
theorem mx_afterN {rv : Option Value} {wc wr : va_W} {w1 : (Nat → Nat) → va_W} {a : Array Value} {g : JFrame} {mc ms : Nat} (hr : va_Run p l e R s m args below meth c H locs cells slots mc ms g rest (mx_QN G rv w1 (va_A wc H.size) a) (va_A wc H.size)) (hW : mx_W G s A w H locs)
    (isC isR : List Nat) (hC : isC.map (fun i => w[i]?) = wc.map some) (hRr : isR.map (fun i => w[i]?) = wr.map some) (hnR : va_nd isR = true) (hdis : ∀ i ∈ isR, i ∉ isC)
    (kk : ∀ (a : Nat → Nat) (H1 : Heap) (locs1 : List Loc), mx_W G s A (wr ++ w1 a) H1 locs1 → W p l e R s m args below meth c H1 locs1 (cells + mc) (slots + ms) Q { g with pc := g.pc + 3, stack := rv.toList ++ rest }) : W p l e R s m args below meth c H locs cells slots Q g := by
  obtain ⟨hP, hD, hS, hA, hST⟩ := hW
  intro T hT X
  obtain ⟨v, st₀, t, T', L, h0, X', hL, e1, e2, ⟨⟨a, hv, hP1, hD1⟩, hz, hk⟩, st⟩ := hr T hT X
  cases hv
  rw [h0] at hz hk
  have hF : ∀ q, va_A wc H.size q → A q := va_free hD hS hA isC hC
  obtain ⟨hP2, hD2⟩ := va_join hP hD isC isR hC hRr hnR hdis hk hF hP1 hD1
  obtain ⟨t2, a1, b1⟩ := kk a T'.heap (locs ++ L) ⟨by rw [e1]; exact hP2, hD2, ⟨Nat.le_trans hS.1 (by rw [e1]; exact hz), fun q h1 h2 => by rw [e1, hk q (Nat.lt_of_lt_of_le h1 hS.1) (fun z => h2 (hF q z))]; exact hS.2.1 q h1 h2, fun q hq => by
      rcases List.mem_append.mp hq with h | h
      · exact hS.2.2 q h
      · exact hF _ (hL q h)⟩, hA, hST⟩ T' rfl X'
  exact ⟨t2, st t2 a1, b1⟩
theorem mx_inCN {wc : va_W} (X : mx_X p s m args meth c own name cc nL ret G) (hAO : va_AO "RiverCorset$State" s) (hW : mx_W G s A w H locs) (isC : List Nat) (hC : isC.map (fun i => w[i]?) = wc.map some) (hn : va_nd isC = true) (av : List Value) : ∀ U : State, U.heap = H → s.WarmedH U.vm → mx_PN G av H.size wc av.toArray U := by
  have hin := mx_inC hW isC hC hn
  intro U hU hWm
  exact ⟨⟨rfl, by rw [hU], by rw [hU]; exact hin.1, X.2.2.2.2.2.1.moved hWm, hin.2, by rw [hU]; exact mx_ST.moved hWm hW.2.2.2.2 hW.2.2.1 (va_free hW.2.1 hW.2.2.1 hW.2.2.2.1 isC hC)⟩, va_AO.moved hWm.alike hAO⟩
/-- a constructor's call: a nest mate's private one -/
theorem mx_callIN {y : MethodName} {bytes : ByteArray} {maxL idx mc ms : Nat} {rm : Room} {b : Nat} {wc wr : va_W} {w1 : (Nat → Nat) → va_W} {host : String}
    (X : mx_X p s m args meth c own name cc nL ret G) (hAO : va_AO "RiverCorset$State" s) (hW : mx_W G s A w H locs) (hls : ls.size = nL) (hM : mx_CN l y bytes maxL none rm G [.ref b] wc none w1 mc ms)
    (h1 : Cond.methodLinkNest own idx y host ∈ mx_nest) (h2 : Cond.instanceMethod y ∈ TB) (h4 : Cond.initialized y.cls ∈ TB) (h5 : Cond.code y bytes maxL none ∈ TB) (hy1 : y.name = "<init>") (hd : y.cls ≠ "java/lang/invoke/MethodHandle" ∧ y.cls ≠ "java/lang/invoke/VarHandle" ∧ (parseMethodDescriptor y.desc).map (fun d => d.parameters.length) = some 0)
    (hm0 : rm.cells = mc ∧ rm.slots = ms) (hR : rm.frames + 1 ≤ R.frames ∧ 8 + (maxL + 11) + rm.locals ≤ R.locals) (hcl : cells + mc ≤ R.cells ∧ slots + ms ≤ R.slots) (isC isR : List Nat) (hn : va_nd isC = true) (hC : isC.map (fun i => w[i]?) = wc.map some) (hRr : isR.map (fun i => w[i]?) = wr.map some) (hnR : va_nd isR = true) (hdis : ∀ i ∈ isR, i ∉ isC)
    (hcat : (rest.map fun v => v.category).sum ≤ 8) (hdg : decode cc pc = .ok (.invokespecial idx, 3))
    (kk : ∀ (a : Nat → Nat) (H1 : Heap) (locs1 : List Loc), mx_W G s A (wr ++ w1 a) H1 locs1 → W p l e R s m args below meth c H1 locs1 (cells + mc) (slots + ms) Q (F0 m (pc + 3) ls rest)) : W p l e R s m args below meth c H locs cells slots Q (F0 m pc ls (.ref b :: rest)) := by
  have hpre := mx_inCN X hAO hW isC hC hn [.ref b]
  obtain ⟨hx, hb, hml, hown, hts, hKN, -⟩ := X
  exact mx_afterN (va_runIN (As := []) (rest := rest) (cc := cc) (nL := nL) (Ts := TB) (own := own) (host := host) ⟨hx, hb, hml, hown, hts⟩ (hM H.size) ⟨va_cnB 0 hts (mx_g0 h5) rfl hm0.1 hm0.2 (hKN.2 _ h1) (hts _ h4) hd hR, hy1, hts _ h2⟩ ⟨mx_blindN, hpre⟩ rfl rfl hls rfl (lv_room hcat) hdg hcl) hW isC isR hC hRr hnR hdis kk
/-- a constructor's call -/
theorem mx_callI {y : MethodName} {bytes : ByteArray} {maxL idx mc ms : Nat} {rm : Room} {b : Nat} {wc wr : va_W} {w1 : (Nat → Nat) → va_W}
    (X : mx_X p s m args meth c own name cc nL ret G) (hAO : va_AO "RiverCorset$State" s) (hW : mx_W G s A w H locs) (hls : ls.size = nL) (hM : mx_CN l y bytes maxL none rm G [.ref b] wc none w1 mc ms)
    (h1 : Cond.methodLink own idx y ∈ TB) (h2 : Cond.instanceMethod y ∈ TB) (h4 : Cond.initialized y.cls ∈ TB) (h5 : Cond.code y bytes maxL none ∈ TB) (hy1 : y.name = "<init>") (hd : y.cls ≠ "java/lang/invoke/MethodHandle" ∧ y.cls ≠ "java/lang/invoke/VarHandle" ∧ (parseMethodDescriptor y.desc).map (fun d => d.parameters.length) = some 0)
    (hm0 : rm.cells = mc ∧ rm.slots = ms) (hR : rm.frames + 1 ≤ R.frames ∧ 8 + (maxL + 11) + rm.locals ≤ R.locals) (hcl : cells + mc ≤ R.cells ∧ slots + ms ≤ R.slots) (isC isR : List Nat) (hn : va_nd isC = true) (hC : isC.map (fun i => w[i]?) = wc.map some) (hRr : isR.map (fun i => w[i]?) = wr.map some) (hnR : va_nd isR = true) (hdis : ∀ i ∈ isR, i ∉ isC)
    (hcat : (rest.map fun v => v.category).sum ≤ 8) (hdg : decode cc pc = .ok (.invokespecial idx, 3))
    (kk : ∀ (a : Nat → Nat) (H1 : Heap) (locs1 : List Loc), mx_W G s A (wr ++ w1 a) H1 locs1 → W p l e R s m args below meth c H1 locs1 (cells + mc) (slots + ms) Q (F0 m (pc + 3) ls rest)) : W p l e R s m args below meth c H locs cells slots Q (F0 m pc ls (.ref b :: rest)) := by
  have hpre := mx_inCN X hAO hW isC hC hn [.ref b]
  obtain ⟨hx, hb, hml, hown, hts, hKN, -⟩ := X
  exact mx_afterN (va_runI (As := []) (rest := rest) (cc := cc) (nL := nL) (Ts := TB) (own := own) ⟨hx, hb, hml, hown, hts⟩ (hM H.size) (cwI 0 hts (mx_g0 h5) rfl hm0.1 hm0.2 (hts _ h4) (hts _ h1) (hts _ h2) hy1 hd hR) ⟨mx_blindN, hpre⟩ rfl rfl hls rfl (lv_room hcat) hdg hcl) hW isC isR hC hRr hnR hdis kk
end ALL
theorem mx_cellS {cA : ClassId} {n : Nat} {f g : Nat → Option Nat} (h : ∀ j, j < n → f j = g j) : vp_cell cA (n, .inr (.inr (.inr (.inr f)))) = vp_cell cA (n, .inr (.inr (.inr (.inr g)))) := by
  rw [vp_cell_q, vp_cell_q]
  unfold arrV
  congr 1
  apply Array.ext
  · simp
  · intro i h1 h2
    simp only [Array.size_map, Array.size_range, Array.size_ofFn] at h1 h2
    simp [h i (by omega)]
theorem mx_convS {s : State} {G : mx_G} {A : Nat → Prop} {w w2 : va_W} {H : Heap} {locs : List Loc} {a n : Nat} {f g : Nat → Option Nat} (hW : mx_W G s A w H locs) (p : Nat) (he : w[p]? = some (xS G a n f)) (h : ∀ j, j < n → f j = g j) (hw2 : w.set p (xS G a n g) = w2) : mx_W G s A w2 H locs := by
  subst hw2
  have h1 : va_at G.1 vwCl (xS G a n g) H := by
    have h2 : H[a]? = some (vp_cell G.2.2.2.2.1 (n, .inr (.inr (.inr (.inr f))))) := hW.1 p _ he
    show H[a]? = some (vp_cell G.2.2.2.2.1 (n, .inr (.inr (.inr (.inr g)))))
    rw [h2, mx_cellS h]
  exact ⟨hW.1.set hW.2.1 he h1 (fun _ _ => rfl), hW.2.1.set he, hW.2.2⟩
