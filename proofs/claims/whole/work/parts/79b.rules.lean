/-! calls that make cells, and a static one: the rest of the law's world stays -/
theorem mx_nd_app {n k : Nat} (is : List Nat) (hn : va_nd is = true) (hlt : ∀ i ∈ is, i < n) : va_nd (is ++ (List.range k).map (fun j => n + j)) = true := by
  refine va_nd_of _ (List.nodup_append.mpr ⟨va_nd_to _ hn, ?_, ?_⟩)
  · exact List.Pairwise.map _ (fun a b (h : a ≠ b) => fun h2 => h (by omega)) List.nodup_range
  · intro x hx y hy
    obtain ⟨j, -, rfl⟩ := List.mem_map.mp hy
    have := hlt x hx
    omega
theorem mx_map_app {we wb w2 : va_W} {is : List Nat} (hs : is.map (fun i => we[i]?) = w2.map some) : (is ++ (List.range wb.length).map (fun j => we.length + j)).map (fun i => (we ++ wb)[i]?) = (w2 ++ wb).map some := by
  have hlt := mx_lt_of hs
  rw [List.map_append, List.map_append, mx_rng, ← hs]
  congr 1
  exact List.map_congr_left (fun i hi => List.getElem?_append_left (hlt i hi))
/-- cells of the front in another order, or fewer of them -/
theorem mx_subA {s : State} {G : mx_G} {A : Nat → Prop} {we wb w2 : va_W} {H : Heap} {locs : List Loc} (hW : mx_W G s A (we ++ wb) H locs) (is : List Nat) (hn : va_nd is = true) (hs : is.map (fun i => we[i]?) = w2.map some) : mx_W G s A (w2 ++ wb) H locs :=
  mx_sub hW (is ++ (List.range wb.length).map (fun j => we.length + j)) (mx_nd_app is hn (mx_lt_of hs)) (mx_map_app hs)
section LAWR
variable {p : Program} {l : Launch} {e : Env} {R : Room} {s : State} {m : MethodId} {args : Array Value} {below : List Frame} {meth : Method} {c : Code} {H : Heap} {locs : List Loc} {cells slots : Nat} {Q : State → Prop}
variable {own name : String} {cc : ByteArray} {nL : Nat} {ret : Option FieldType} {G : mx_G} {A : Nat → Prop} {w : va_W} {pc : Nat} {ls : Array Slot} {rest st st1 : List Value}
theorem mx_afterI {rs : (Nat → Nat) → Int32} {wc wr : va_W} {w1 : (Nat → Nat) → va_W} {a : Array Value} {g : JFrame} {mc ms : Nat} (hr : va_Run p l e R s m args below meth c H locs cells slots mc ms g rest (mx_QI G rs w1 (va_A wc H.size) a) (va_A wc H.size)) (hW : mx_W G s A w H locs)
    (isC isR : List Nat) (hC : isC.map (fun i => w[i]?) = wc.map some) (hRr : isR.map (fun i => w[i]?) = wr.map some) (hnR : va_nd isR = true) (hdis : ∀ i ∈ isR, i ∉ isC)
    (kk : ∀ (a : Nat → Nat) (H1 : Heap) (locs1 : List Loc), mx_W G s A (wr ++ w1 a) H1 locs1 → W p l e R s m args below meth c H1 locs1 (cells + mc) (slots + ms) Q { g with pc := g.pc + 3, stack := .int (rs a) :: rest }) : W p l e R s m args below meth c H locs cells slots Q g := by
  obtain ⟨hP, hD, hS, hA, hST⟩ := hW
  intro T hT X
  obtain ⟨v, st₀, t, T', L, h0, X', hL, e1, e2, ⟨⟨a, hv, hP1, hD1⟩, hz, hk⟩, st⟩ := hr T hT X
  cases hv
  rw [h0] at hz hk
  have hF : ∀ q, va_A wc H.size q → A q := va_free hD hS hA isC hC
  obtain ⟨hP2, hD2⟩ := va_join hP hD isC isR hC hRr hnR hdis hk hF hP1 hD1
  obtain ⟨t2, a1, b1⟩ := kk a T'.heap (locs ++ L) ⟨by rw [e1]; exact hP2, hD2, ⟨Nat.le_trans hS.1 (by rw [e1]; exact hz), fun q h1 h2 => by rw [e1, hk q (Nat.lt_of_lt_of_le h1 hS.1) (fun z => h2 (hF q z))]; exact hS.2.1 q h1 h2, fun q hq => by
      rcases List.mem_append.mp hq with h | h
      · exact hS.2.2 q h
      · exact hF _ (hL q h)⟩, hA, hST⟩ T' rfl X'
  exact ⟨t2, st t2 a1, b1⟩
/-- a call that makes cells and answers a number -/
theorem mx_callVI {y : MethodName} {bytes : ByteArray} {maxL n idx mc ms : Nat} {rm : Room} {b : Nat} {As : List Value} {we wb wc wr : va_W} {rs : (Nat → Nat) → Int32} {w1 : (Nat → Nat) → va_W} {C : String} {ci : Nat} {T : u_T} {N : Nat} {fs : List Value}
    (X : mx_X p s m args meth c own name cc nL ret G) (hAO : va_AO "RiverCorset$State" s) (hW : mx_W G s A (we ++ wb) H locs) (hls : ls.size = nL) (hM : mx_CI l y bytes maxL rm G (.ref b :: As) wc rs w1 mc ms) (q0 : Nat) (he : wc[q0]? = some (b, .inr (ci, fs))) (hc : vwCl[ci]? = some (C, T, N))
    (h1 : Cond.methodLink own idx y ∈ TB) (h2 : Cond.instanceMethod y ∈ TB) (h3 : Cond.selects C y y ∈ TB) (h4 : Cond.initialized C ∈ TB) (h5 : Cond.code y bytes maxL (some .int) ∈ TB) (hd : y.cls = C ∧ y.cls ≠ "java/lang/invoke/MethodHandle" ∧ y.cls ≠ "java/lang/invoke/VarHandle" ∧ (parseMethodDescriptor y.desc).map (fun d => d.parameters.length) = some n)
    (hm0 : rm.cells = mc ∧ rm.slots = ms) (hR : rm.frames + 1 ≤ R.frames ∧ 8 + (maxL + 11) + rm.locals ≤ R.locals) (hcl : cells + mc ≤ R.cells ∧ slots + ms ≤ R.slots) (isC isR : List Nat) (hn : va_nd isC = true) (hC : isC.map (fun i => we[i]?) = wc.map some) (hRr : isR.map (fun i => we[i]?) = wr.map some) (hnR : va_nd isR = true) (hdis : ∀ i ∈ isR, i ∉ isC)
    (hlen : As.length = n) (hst : st = As.reverse ++ .ref b :: rest) (hcat : (rest.map fun v => v.category).sum ≤ 8) (hdg : decode cc pc = .ok (.invokevirtual idx, 3))
    (kk : ∀ (a : Nat → Nat) (H1 : Heap) (locs1 : List Loc), mx_W G s A ((wr ++ w1 a) ++ wb) H1 locs1 → W p l e R s m args below meth c H1 locs1 (cells + mc) (slots + ms) Q (F0 m (pc + 3) ls (.int (rs a) :: rest))) : W p l e R s m args below meth c H locs cells slots Q (F0 m pc ls st) := by
  have hlt := mx_lt_of hC
  have hC' : isC.map (fun i => (we ++ wb)[i]?) = wc.map some := by
    rw [← hC]
    exact List.map_congr_left (fun i hi => List.getElem?_append_left (hlt i hi))
  have hin := mx_inC hW isC hC' hn
  have hpre := mx_inCN X hAO hW isC hC' hn (.ref b :: As)
  obtain ⟨hx, hb, hml, hown, hts, hKN, -⟩ := X
  refine mx_afterI (wr := wr ++ wb) (va_runV (cc := cc) (nL := nL) (Ts := TB) (own := own) ⟨hx, hb, hml, hown, hts⟩ (hM H.size) (cwV n hts (mx_gV (c0 := .initialized C) h1 h2 h3 h4 h5) rfl hm0.1 hm0.2 hd hR) ⟨mx_blindN, va_recv hKN.1 hin.1 hc he, hpre⟩ rfl hlen hls hst (lv_room hcat) hdg hcl) hW isC (isR ++ (List.range wb.length).map (fun j => we.length + j)) hC' (mx_map_app hRr) (mx_nd_app isR hnR (mx_lt_of hRr)) ?_ (fun a H1 locs1 hW1 => kk a H1 locs1 (mx_W_perm hW1 ?_))
  · intro i hi hiC
    rcases List.mem_append.mp hi with h | h
    · exact hdis i h hiC
    · obtain ⟨j, -, rfl⟩ := List.mem_map.mp h
      have := hlt _ hiC
      omega
  · rw [List.append_assoc, List.append_assoc]
    exact List.Perm.append_left _ List.perm_append_comm
/-- behind a call that leaves cells behind it that nobody names -/
theorem mx_after3 {rv : Option Value} {wc w1 w2 : va_W} {a : Array Value} {g : JFrame} {mc ms : Nat} (hr : va_Run p l e R s m args below meth c H locs cells slots mc ms g rest (mx_Q G rv w1 (va_A wc H.size) a) (va_A wc H.size)) (hW : mx_W G s A w H locs)
    (isC : List Nat) (hC : isC.map (fun i => w[i]?) = wc.map some) (h2 : ∀ (k : Nat) (q : Nat × va_E), w2[k]? = some q → q ∈ w1 ∨ (w[k]? = some q ∧ k ∉ isC)) (ha2 : w2.map Prod.fst = w.map Prod.fst)
    (kk : ∀ (H1 : Heap) (locs1 : List Loc), mx_W G s A w2 H1 locs1 → W p l e R s m args below meth c H1 locs1 (cells + mc) (slots + ms) Q { g with pc := g.pc + 3, stack := rv.toList ++ rest }) : W p l e R s m args below meth c H locs cells slots Q g := by
  obtain ⟨hP, hD, hS, hA, hST⟩ := hW
  intro T hT X
  obtain ⟨v, st₀, t, T', L, h0, X', hL, e1, e2, ⟨⟨hv, hP1, hD1⟩, hz, hk⟩, st⟩ := hr T hT X
  cases hv
  rw [h0] at hz hk
  have hF : ∀ q, va_A wc H.size q → A q := va_free hD hS hA isC hC
  have hP2 : va_P G.1 vwCl w2 t.heap := by
    intro k q hq
    rcases h2 k q hq with h1 | ⟨h1, h3⟩
    · obtain ⟨j, hj⟩ := List.getElem?_of_mem h1
      exact hP1 j q hj
    · have hl := (hP k q h1).lt
      refine (hP k q h1).kept (hk q.1 hl fun h => ?_)
      rcases h with ⟨k2, e', h⟩ | h
      · obtain ⟨i, h4, h5⟩ := mx_at_of hC k2 (q.1, e') h
        have hik := hD.1 k i q (q.1, e') h1 h5 rfl
        subst hik
        exact h3 (List.mem_of_getElem? h4)
      · omega
  obtain ⟨t2, a1, b1⟩ := kk T'.heap (locs ++ L) ⟨by rw [e1]; exact hP2, mx_D_of hD ha2, ⟨Nat.le_trans hS.1 (by rw [e1]; exact hz), fun q h1 h2 => by rw [e1, hk q (Nat.lt_of_lt_of_le h1 hS.1) (fun z => h2 (hF q z))]; exact hS.2.1 q h1 h2, fun q hq => by
      rcases List.mem_append.mp hq with h | h
      · exact hS.2.2 q h
      · exact hF _ (hL q h)⟩, hA, hST⟩ T' rfl X'
  exact ⟨t2, st t2 a1, b1⟩
/-- the law's helper led: a static call of a method with an exception table -/
theorem mx_callSL {mc ms : Nat} {rm : Room} {As : List Value} {rv : Option Value} {we wb wc w1 w2 : va_W} {Pc : Array Value → State → Prop}
    (X : mx_X p s m args meth c RL name cc nL ret G) (hW : mx_W G s A (we ++ wb) H locs) (hls : ls.size = nL) (hM : Met l yL_led (.codeWith yL_led cL_led 4 (some .int) [(0, 9, 12, 13)] :: TB) rm Pc (mx_Q G rv w1 (va_A wc H.size)) mc ms (va_A wc H.size)) (hPc : PreS s H Pc As)
    (hm0 : rm.cells = mc ∧ rm.slots = ms) (hR : rm.frames + 1 ≤ R.frames ∧ 8 + (4 + 11) + rm.locals ≤ R.locals) (hcl : cells + mc ≤ R.cells ∧ slots + ms ≤ R.slots) (isC : List Nat) (hC : isC.map (fun i => we[i]?) = wc.map some) (ms' : List (Option Nat)) (hmk : mx_mk isC ms' = true) (hok : mx_ok w1 we w2 ms') (ha2 : w2.map Prod.fst = we.map Prod.fst)
    (hlen : As.length = 3) (hst : st = As.reverse ++ rest) (hcat : (rest.map fun v => v.category).sum ≤ 8) (hst1 : rv.toList ++ rest = st1) (hdg : decode cc pc = .ok (.invokestatic 237, 3))
    (kk : ∀ (H1 : Heap) (locs1 : List Loc), mx_W G s A (w2 ++ wb) H1 locs1 → W p l e R s m args below meth c H1 locs1 (cells + mc) (slots + ms) Q (F0 m (pc + 3) ls st1)) : W p l e R s m args below meth c H locs cells slots Q (F0 m pc ls st) := by
  subst hst1
  have hlt := mx_lt_of hC
  have hC' : isC.map (fun i => (we ++ wb)[i]?) = wc.map some := by
    rw [← hC]
    exact List.map_congr_left (fun i hi => List.getElem?_append_left (hlt i hi))
  have hlw : w2.length = we.length := by
    have := congrArg List.length ha2
    rwa [List.length_map, List.length_map] at this
  obtain ⟨hx, hb, hml, hown, hts, hKN, -⟩ := X
  refine mx_after3 (w2 := w2 ++ wb) (vx_runSW (cc := cc) (nL := nL) (Ts := TB) (own := RL) ⟨hx, hb, hml, hown, hts⟩ hM (vx_cwSW 3 hts mx_gW rfl hm0.1 hm0.2 (by decide +kernel) hR) hPc rfl hlen hls hst (lv_room hcat) hdg hcl) hW isC hC' ?_ (by rw [List.map_append, List.map_append, ha2]) kk
  intro k q hq
  by_cases hk : k < w2.length
  · rw [List.getElem?_append_left hk] at hq
    rcases mx_ok_at we w2 ms' hok k q hq with ⟨j, hj, -⟩ | ⟨hj, hn0⟩
    · exact Or.inl (List.mem_of_getElem? hj)
    · refine Or.inr ⟨by rw [List.getElem?_append_left (by omega)]; exact hj, fun hi => ?_⟩
      have := List.all_eq_true.mp hmk k hi
      rw [hn0] at this
      cases this
  · rw [List.getElem?_append_right (by omega)] at hq
    refine Or.inr ⟨by rw [List.getElem?_append_right (by omega), ← hlw]; exact hq, fun hi => ?_⟩
    have := hlt k hi
    omega
end LAWR
