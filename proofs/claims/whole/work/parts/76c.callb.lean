/-! .. and with a block at its end -/
section BLKH
variable {p : Program} {l : Launch} {e : Env} {R : Room} {s : State} {m : MethodId} {args : Array Value} {below : List Frame} {meth : Method} {c : Code} {H : Heap} {locs : List Loc} {cells slots : Nat} {Q : State → Prop}
variable {own name : String} {cc : ByteArray} {nL : Nat} {ret : Option FieldType} {G : mx_G} {A : Nat → Prop} {w : va_W} {pc : Nat} {ls : Array Slot} {rest st st1 : List Value}
theorem mx_callVH {y : MethodName} {bytes : ByteArray} {maxL n idx : Nat} {ret' : Option FieldType} {rm : Room} {b : Nat} {As : List Value} {rv : Option Value} {we0 wo wce w1e w20 wb wb1 : va_W} {C : String} {ci : Nat} {T : u_T} {N : Nat} {fs : List Value}
    (X : mx_X p s m args meth c own name cc nL ret G) (hW : mx_W G s A ((we0 ++ wo) ++ wb) H locs) (hls : ls.size = nL) (hM : mx_C l y bytes maxL ret' rm G (.ref b :: As) (wce ++ wb) rv (w1e ++ wb1)) (q0 : Nat) (he : wce[q0]? = some (b, .inr (ci, fs))) (hc : vwCl[ci]? = some (C, T, N))
    (h1 : Cond.methodLink own idx y ∈ TB) (h2 : Cond.instanceMethod y ∈ TB) (h3 : Cond.selects C y y ∈ TB) (h4 : Cond.initialized C ∈ TB) (h5 : Cond.code y bytes maxL ret' ∈ TB) (hd : y.cls = C ∧ y.cls ≠ "java/lang/invoke/MethodHandle" ∧ y.cls ≠ "java/lang/invoke/VarHandle" ∧ (parseMethodDescriptor y.desc).map (fun d => d.parameters.length) = some n)
    (hm0 : rm.cells = 0 ∧ rm.slots = 0) (hR : rm.frames + 1 ≤ R.frames ∧ 8 + (maxL + 11) + rm.locals ≤ R.locals) (hcl : cells ≤ R.cells ∧ slots ≤ R.slots) (isC : List Nat) (hn : va_nd isC = true) (hC0 : isC.map (fun i => we0[i]?) = wce.map some) (ms : List (Option Nat)) (hmk : mx_mk isC ms = true) (hok : mx_ok w1e we0 w20 ms) (ha0 : w20.map Prod.fst = we0.map Prod.fst) (hb1 : wb1.map Prod.fst = wb.map Prod.fst)
    (hlen : As.length = n) (hst : st = As.reverse ++ .ref b :: rest) (hcat : (rest.map fun v => v.category).sum ≤ 8) (hst1 : rv.toList ++ rest = st1) (hdg : decode cc pc = .ok (.invokevirtual idx, 3))
    (kk : ∀ (H1 : Heap) (locs1 : List Loc), mx_W G s A ((w20 ++ wo) ++ wb1) H1 locs1 → W p l e R s m args below meth c H1 locs1 cells slots Q (F0 m (pc + 3) ls st1)) : W p l e R s m args below meth c H locs cells slots Q (F0 m pc ls st) := by
  subst hst1
  have hlt0 := mx_lt_of hC0
  have hC : isC.map (fun i => (we0 ++ wo)[i]?) = wce.map some := by
    rw [← hC0]
    exact List.map_congr_left (fun i hi => List.getElem?_append_left (hlt0 i hi))
  have ha2 : (w20 ++ wo).map Prod.fst = (we0 ++ wo).map Prod.fst := by rw [List.map_append, List.map_append, ha0]
  have hl0 : w20.length = we0.length := by
    have e1 := congrArg List.length ha0
    simp only [List.length_map] at e1
    exact e1
  have hlt : ∀ i ∈ isC, i < (we0 ++ wo).length := mx_lt_of hC
  have hC' : (isC ++ (List.range wb.length).map (fun j => (we0 ++ wo).length + j)).map (fun i => ((we0 ++ wo) ++ wb)[i]?) = (wce ++ wb).map some := by
    rw [List.map_append, List.map_append, mx_rng, ← hC]
    congr 1
    exact List.map_congr_left (fun i hi => List.getElem?_append_left (hlt i hi))
  have hn' : va_nd (isC ++ (List.range wb.length).map (fun j => (we0 ++ wo).length + j)) = true := by
    refine va_nd_of _ (List.nodup_append.mpr ⟨va_nd_to _ hn, ?_, ?_⟩)
    · exact List.Pairwise.map _ (fun a b (h : a ≠ b) => fun h2 => h (by omega)) List.nodup_range
    · intro x hx y hy
      obtain ⟨j, -, rfl⟩ := List.mem_map.mp hy
      have := hlt x hx
      omega
  have hin := mx_inC hW _ hC' hn'
  have hXX := X
  obtain ⟨hx, hb, hml, hown, hts, hKN, -⟩ := X
  have hl2 : (w20 ++ wo).length = (we0 ++ wo).length := by
    have e1 := congrArg List.length ha2
    simp only [List.length_map] at e1
    exact e1
  have he' : (wce ++ wb)[q0]? = some (b, .inr (ci, fs)) := by
    rw [List.getElem?_append_left (List.getElem?_eq_some_iff.mp he).1]; exact he
  refine mx_after2 (wc := wce ++ wb) (w1 := w1e ++ wb1) (va_runV (cc := cc) (nL := nL) (Ts := TB) (own := own) ⟨hx, hb, hml, hown, hts⟩ (hM H.size) (cwV n hts (mx_gV (c0 := .initialized C) h1 h2 h3 h4 h5) rfl hm0.1 hm0.2 hd hR) ⟨mx_blind, va_recv hKN.1 hin.1 hc he', fun U hU hWm => ⟨rfl, by rw [hU], by rw [hU]; exact hin.1, hKN.moved hWm, hin.2, by rw [hU]; exact mx_ST.moved hWm hW.2.2.2.2 hW.2.2.1 (va_free hW.2.1 hW.2.2.1 hW.2.2.2.1 _ hC')⟩⟩ rfl hlen hls hst (lv_room hcat) hdg ⟨hcl.1, hcl.2⟩) hW _ hC' ?_ (by rw [List.map_append (l₁ := w20 ++ wo), List.map_append (l₁ := we0 ++ wo), ha2, hb1]) kk
  intro k q hq
  by_cases hk : k < (we0 ++ wo).length
  · rw [List.getElem?_append_left (by omega)] at hq
    have hlen1 : (w20 ++ wo).length = (we0 ++ wo).length := by rw [List.length_append, List.length_append, hl0]
    by_cases hk0 : k < w20.length
    · rw [List.getElem?_append_left hk0] at hq
      rcases mx_ok_at we0 w20 ms hok k q hq with ⟨j, hj, -⟩ | ⟨hj, hn0⟩
      · exact Or.inl (List.mem_append_left _ (List.mem_of_getElem? hj))
      · refine Or.inr ⟨by rw [List.getElem?_append_left hk, List.getElem?_append_left (by omega)]; exact hj, fun h'' => ?_⟩
        rcases List.mem_append.mp h'' with z | z
        · have := List.all_eq_true.mp hmk k z
          rw [hn0] at this
          cases this
        · obtain ⟨j, -, rfl⟩ := List.mem_map.mp z
          omega
    · rw [List.getElem?_append_right (by omega)] at hq
      refine Or.inr ⟨by rw [List.getElem?_append_left hk, List.getElem?_append_right (by omega), ← hl0]; exact hq, fun h'' => ?_⟩
      rcases List.mem_append.mp h'' with z | z
      · have := hlt0 k z
        omega
      · obtain ⟨j, -, rfl⟩ := List.mem_map.mp z
        omega
  · rw [List.getElem?_append_right (by omega)] at hq
    exact Or.inl (List.mem_append_right _ (List.mem_of_getElem? hq))
end BLKH
