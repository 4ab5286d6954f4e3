/-- the states that can be undone, and those of the marks, as one block -/
def wKs (G : mx_G) (aK aKw : Nat → Nat) (kl kb kf ks : Nat → Int32) (kw : Nat → Nat → Int32) : va_W := [xO (aK 0) 7 [.int (kl 0), .int (kb 0), .int (kf 0), .int (ks 0), .ref (aKw 0)], xI G (aKw 0) 7 (kw 0), xO (aK 1) 7 [.int (kl 1), .int (kb 1), .int (kf 1), .int (ks 1), .ref (aKw 1)], xI G (aKw 1) 7 (kw 1), xO (aK 2) 7 [.int (kl 2), .int (kb 2), .int (kf 2), .int (ks 2), .ref (aKw 2)], xI G (aKw 2) 7 (kw 2), xO (aK 3) 7 [.int (kl 3), .int (kb 3), .int (kf 3), .int (ks 3), .ref (aKw 3)], xI G (aKw 3) 7 (kw 3), xO (aK 4) 7 [.int (kl 4), .int (kb 4), .int (kf 4), .int (ks 4), .ref (aKw 4)], xI G (aKw 4) 7 (kw 4), xO (aK 5) 7 [.int (kl 5), .int (kb 5), .int (kf 5), .int (ks 5), .ref (aKw 5)], xI G (aKw 5) 7 (kw 5), xO (aK 6) 7 [.int (kl 6), .int (kb 6), .int (kf 6), .int (ks 6), .ref (aKw 6)], xI G (aKw 6) 7 (kw 6), xO (aK 7) 7 [.int (kl 7), .int (kb 7), .int (kf 7), .int (ks 7), .ref (aKw 7)], xI G (aKw 7) 7 (kw 7), xO (aK 8) 7 [.int (kl 8), .int (kb 8), .int (kf 8), .int (ks 8), .ref (aKw 8)], xI G (aKw 8) 7 (kw 8), xO (aK 9) 7 [.int (kl 9), .int (kb 9), .int (kf 9), .int (ks 9), .ref (aKw 9)], xI G (aKw 9) 7 (kw 9), xO (aK 10) 7 [.int (kl 10), .int (kb 10), .int (kf 10), .int (ks 10), .ref (aKw 10)], xI G (aKw 10) 7 (kw 10), xO (aK 11) 7 [.int (kl 11), .int (kb 11), .int (kf 11), .int (ks 11), .ref (aKw 11)], xI G (aKw 11) 7 (kw 11), xO (aK 12) 7 [.int (kl 12), .int (kb 12), .int (kf 12), .int (ks 12), .ref (aKw 12)], xI G (aKw 12) 7 (kw 12), xO (aK 13) 7 [.int (kl 13), .int (kb 13), .int (kf 13), .int (ks 13), .ref (aKw 13)], xI G (aKw 13) 7 (kw 13), xO (aK 14) 7 [.int (kl 14), .int (kb 14), .int (kf 14), .int (ks 14), .ref (aKw 14)], xI G (aKw 14) 7 (kw 14), xO (aK 15) 7 [.int (kl 15), .int (kb 15), .int (kf 15), .int (ks 15), .ref (aKw 15)], xI G (aKw 15) 7 (kw 15)]
def wMs (G : mx_G) (aK aKw : Nat → Nat) (kl kb kf ks : Nat → Int32) (kw : Nat → Nat → Int32) : va_W := [xO (aK 0) 7 [.int (kl 0), .int (kb 0), .int (kf 0), .int (ks 0), .ref (aKw 0)], xI G (aKw 0) 7 (kw 0), xO (aK 1) 7 [.int (kl 1), .int (kb 1), .int (kf 1), .int (ks 1), .ref (aKw 1)], xI G (aKw 1) 7 (kw 1), xO (aK 2) 7 [.int (kl 2), .int (kb 2), .int (kf 2), .int (ks 2), .ref (aKw 2)], xI G (aKw 2) 7 (kw 2)]
section BLK
variable {p : Program} {l : Launch} {e : Env} {R : Room} {s : State} {m : MethodId} {args : Array Value} {below : List Frame} {meth : Method} {c : Code} {H : Heap} {locs : List Loc} {cells slots : Nat} {Q : State → Prop}
variable {own name : String} {cc : ByteArray} {nL : Nat} {ret : Option FieldType} {G : mx_G} {A : Nat → Prop} {w : va_W} {pc : Nat} {ls : Array Slot} {rest st st1 : List Value}
theorem mx_after2 {rv : Option Value} {wc w1 w2 : va_W} {a : Array Value} {g : JFrame} (hr : va_Run p l e R s m args below meth c H locs cells slots 0 0 g rest (mx_Q G rv w1 (va_A wc H.size) a) (va_A wc H.size)) (hW : mx_W G s A w H locs)
    (isC : List Nat) (hC : isC.map (fun i => w[i]?) = wc.map some) (h2 : ∀ (k : Nat) (q : Nat × va_E), w2[k]? = some q → q ∈ w1 ∨ (w[k]? = some q ∧ k ∉ isC)) (ha2 : w2.map Prod.fst = w.map Prod.fst)
    (kk : ∀ (H1 : Heap) (locs1 : List Loc), mx_W G s A w2 H1 locs1 → W p l e R s m args below meth c H1 locs1 cells slots Q { g with pc := g.pc + 3, stack := rv.toList ++ rest }) : W p l e R s m args below meth c H locs cells slots Q g := by
  obtain ⟨hP, hD, hS, hA, hST⟩ := hW
  intro T hT X
  obtain ⟨v, st₀, t, T', L, h0, X', hL, e1, e2, ⟨⟨hv, hP1, hD1⟩, hz, hk⟩, st⟩ := hr T hT X
  cases hv
  rw [h0] at hz hk
  have hF : ∀ q, va_A wc H.size q → A q := va_free hD hS hA isC hC
  have hP2 : va_P G.1 vwCl w2 t.heap := by
    intro k q hq
    rcases h2 k q hq with h1 | ⟨h1, h3⟩
    · obtain ⟨j, hj⟩ := List.getElem?_of_mem h1
      exact hP1 j q hj
    · have hl := (hP k q h1).lt
      refine (hP k q h1).kept (hk q.1 hl fun h => ?_)
      rcases h with ⟨k2, e', h⟩ | h
      · obtain ⟨i, h4, h5⟩ := mx_at_of hC k2 (q.1, e') h
        have hik := hD.1 k i q (q.1, e') h1 h5 rfl
        subst hik
        exact h3 (List.mem_of_getElem? h4)
      · omega
  obtain ⟨t2, a1, b1⟩ := kk T'.heap (locs ++ L) ⟨by rw [e1]; exact hP2, mx_D_of hD ha2, ⟨Nat.le_trans hS.1 (by rw [e1]; exact hz), fun q h1 h2 => by rw [e1, hk q (Nat.lt_of_lt_of_le h1 hS.1) (fun z => h2 (hF q z))]; exact hS.2.1 q h1 h2, fun q hq => by
      rcases List.mem_append.mp hq with h | h
      · exact hS.2.2 q h
      · exact hF _ (hL q h)⟩, hA, hST⟩ T' rfl X'
  exact ⟨t2, st t2 a1, b1⟩
theorem mx_rng (we wb : va_W) : ((List.range wb.length).map (fun j => we.length + j)).map (fun i => (we ++ wb)[i]?) = wb.map some := by
  apply List.ext_getElem?
  intro k
  simp only [List.getElem?_map]
  by_cases hk : k < wb.length
  · rw [List.getElem?_range hk]
    simp [hk]
  · rw [List.getElem?_eq_none (by simp; omega), List.getElem?_eq_none (by omega)]
    rfl
theorem va_nd_of : ∀ (l : List Nat), l.Nodup → va_nd l = true
  | [], _ => rfl
  | a :: l, h => by
    have h1 := List.nodup_cons.mp h
    simp only [va_nd, Bool.and_eq_true, decide_eq_true_eq]
    exact ⟨h1.1, va_nd_of l h1.2⟩
theorem va_nd_to : ∀ (l : List Nat), va_nd l = true → l.Nodup
  | [], _ => List.nodup_nil
  | a :: l, h => by
    simp only [va_nd, Bool.and_eq_true, decide_eq_true_eq] at h
    exact List.nodup_cons.mpr ⟨h.1, va_nd_to l h.2⟩
/-- a call whose callee takes a whole block that stands at the world's end -/
theorem mx_callVB {y : MethodName} {bytes : ByteArray} {maxL n idx : Nat} {ret' : Option FieldType} {rm : Room} {b : Nat} {As : List Value} {rv : Option Value} {we wce w1e w2 wb wb1 : va_W} {C : String} {ci : Nat} {T : u_T} {N : Nat} {fs : List Value}
    (X : mx_X p s m args meth c own name cc nL ret G) (hW : mx_W G s A (we ++ wb) H locs) (hls : ls.size = nL) (hM : mx_C l y bytes maxL ret' rm G (.ref b :: As) (wce ++ wb) rv (w1e ++ wb1)) (q0 : Nat) (he : wce[q0]? = some (b, .inr (ci, fs))) (hc : vwCl[ci]? = some (C, T, N))
    (h1 : Cond.methodLink own idx y ∈ TB) (h2 : Cond.instanceMethod y ∈ TB) (h3 : Cond.selects C y y ∈ TB) (h4 : Cond.initialized C ∈ TB) (h5 : Cond.code y bytes maxL ret' ∈ TB) (hd : y.cls = C ∧ y.cls ≠ "java/lang/invoke/MethodHandle" ∧ y.cls ≠ "java/lang/invoke/VarHandle" ∧ (parseMethodDescriptor y.desc).map (fun d => d.parameters.length) = some n)
    (hm0 : rm.cells = 0 ∧ rm.slots = 0) (hR : rm.frames + 1 ≤ R.frames ∧ 8 + (maxL + 11) + rm.locals ≤ R.locals) (hcl : cells ≤ R.cells ∧ slots ≤ R.slots) (isC : List Nat) (hn : va_nd isC = true) (hC : isC.map (fun i => we[i]?) = wce.map some) (ha1 : w1e.map Prod.fst = wce.map Prod.fst) (h2w : mx_set we isC w1e = w2) (ha2 : w2.map Prod.fst = we.map Prod.fst) (hb1 : wb1.map Prod.fst = wb.map Prod.fst)
    (hlen : As.length = n) (hst : st = As.reverse ++ .ref b :: rest) (hcat : (rest.map fun v => v.category).sum ≤ 8) (hst1 : rv.toList ++ rest = st1) (hdg : decode cc pc = .ok (.invokevirtual idx, 3))
    (kk : ∀ (H1 : Heap) (locs1 : List Loc), mx_W G s A (w2 ++ wb1) H1 locs1 → W p l e R s m args below meth c H1 locs1 cells slots Q (F0 m (pc + 3) ls st1)) : W p l e R s m args below meth c H locs cells slots Q (F0 m pc ls st) := by
  subst hst1
  have hlt : ∀ i ∈ isC, i < we.length := by
    intro i hi
    have h : some (we[i]?) ∈ (isC.map (fun i => we[i]?)).map some := List.mem_map.mpr ⟨_, List.mem_map.mpr ⟨i, hi, rfl⟩, rfl⟩
    rw [hC] at h
    obtain ⟨x, hx, hxe⟩ := List.mem_map.mp h
    obtain ⟨z, hz, hze⟩ := List.mem_map.mp hx
    have : we[i]? = some z := by rw [hze]; exact (Option.some.inj hxe).symm
    exact (List.getElem?_eq_some_iff.mp this).1
  have hC' : (isC ++ (List.range wb.length).map (fun j => we.length + j)).map (fun i => (we ++ wb)[i]?) = (wce ++ wb).map some := by
    rw [List.map_append, List.map_append, mx_rng, ← hC]
    congr 1
    exact List.map_congr_left (fun i hi => List.getElem?_append_left (hlt i hi))
  have hn' : va_nd (isC ++ (List.range wb.length).map (fun j => we.length + j)) = true := by
    refine va_nd_of _ (List.nodup_append.mpr ⟨va_nd_to _ hn, ?_, ?_⟩)
    · exact List.Pairwise.map _ (fun a b (h : a ≠ b) => fun h2 => h (by omega)) List.nodup_range
    · intro x hx y hy
      obtain ⟨j, -, rfl⟩ := List.mem_map.mp hy
      have := hlt x hx
      omega
  have hin := mx_inC hW _ hC' hn'
  have hXX := X
  obtain ⟨hx, hb, hml, hown, hts, hKN, -⟩ := X
  have hl1 : isC.length = w1e.length := by
    have e1 := congrArg List.length hC
    have e3 := congrArg List.length ha1
    simp only [List.length_map] at e1 e3
    omega
  have hl2 : w2.length = we.length := by
    have e1 := congrArg List.length ha2
    simp only [List.length_map] at e1
    exact e1
  have he' : (wce ++ wb)[q0]? = some (b, .inr (ci, fs)) := by
    rw [List.getElem?_append_left (List.getElem?_eq_some_iff.mp he).1]; exact he
  refine mx_after2 (wc := wce ++ wb) (w1 := w1e ++ wb1) (va_runV (cc := cc) (nL := nL) (Ts := TB) (own := own) ⟨hx, hb, hml, hown, hts⟩ (hM H.size) (cwV n hts (mx_gV (c0 := .initialized C) h1 h2 h3 h4 h5) rfl hm0.1 hm0.2 hd hR) ⟨mx_blind, va_recv hKN.1 hin.1 hc he', fun U hU hWm => ⟨rfl, by rw [hU], by rw [hU]; exact hin.1, hKN.moved hWm, hin.2, by rw [hU]; exact mx_ST.moved hWm hW.2.2.2.2 hW.2.2.1 (va_free hW.2.1 hW.2.2.1 hW.2.2.2.1 _ hC')⟩⟩ rfl hlen hls hst (lv_room hcat) hdg ⟨hcl.1, hcl.2⟩) hW _ hC' ?_ (by rw [List.map_append, List.map_append, ha2, hb1]) kk
  intro k q hq
  by_cases hk : k < we.length
  · rw [List.getElem?_append_left (by omega)] at hq
    subst h2w
    rcases mx_set_at isC w1e we k q hl1 hq with h | ⟨h, h'⟩
    · exact Or.inl (List.mem_append_left _ h)
    · refine Or.inr ⟨by rw [List.getElem?_append_left hk]; exact h, fun h'' => ?_⟩
      rcases List.mem_append.mp h'' with z | z
      · exact h' z
      · obtain ⟨j, -, rfl⟩ := List.mem_map.mp z
        omega
  · rw [List.getElem?_append_right (by omega)] at hq
    exact Or.inl (List.mem_append_right _ (List.mem_of_getElem? hq))
end BLK
