/-! a call over a long world, compared cell by cell -/
/-- w2 is w, but for the marked cells, which are w1's -/
def mx_ok (w1 : va_W) : va_W → va_W → List (Option Nat) → Prop
  | a :: w, a2 :: w2, none :: ms => a2 = a ∧ mx_ok w1 w w2 ms
  | a :: w, a2 :: w2, some j :: ms => w1[j]? = some a2 ∧ mx_ok w1 w w2 ms
  | [], [], [] => True
  | _, _, _ => False
def mx_mk (isC : List Nat) (ms : List (Option Nat)) : Bool := isC.all (fun k => match ms[k]? with | some (some _) => true | _ => false)
theorem mx_ok_at {w1 : va_W} : ∀ (w w2 : va_W) (ms : List (Option Nat)), mx_ok w1 w w2 ms → ∀ (k : Nat) (q : Nat × va_E), w2[k]? = some q → (∃ j : Nat, w1[j]? = some q ∧ ∃ j' : Nat, ms[k]? = some (some j')) ∨ (w[k]? = some q ∧ ms[k]? = some none)
  | [], [], [], _, k, q, h => by simp at h
  | a :: w, a2 :: w2, none :: ms, ho, 0, q, h => by
    obtain ⟨h1, -⟩ := ho
    exact Or.inr ⟨by rw [← h, h1]; rfl, rfl⟩
  | a :: w, a2 :: w2, some j :: ms, ho, 0, q, h => by
    obtain ⟨h1, -⟩ := ho
    have e : a2 = q := Option.some.inj h
    exact Or.inl ⟨j, by rw [h1, e], j, rfl⟩
  | a :: w, a2 :: w2, none :: ms, ho, k + 1, q, h => mx_ok_at w w2 ms ho.2 k q h
  | a :: w, a2 :: w2, some j :: ms, ho, k + 1, q, h => mx_ok_at w w2 ms ho.2 k q h
  | [], _ :: _, _, ho, _, _, _ => by cases ho
  | [], [], _ :: _, ho, _, _, _ => by cases ho
  | _ :: _, [], _, ho, _, _, _ => by cases ho
  | _ :: _, _ :: _, [], ho, _, _, _ => by cases ho
section LAWG
variable {p : Program} {l : Launch} {e : Env} {R : Room} {s : State} {m : MethodId} {args : Array Value} {below : List Frame} {meth : Method} {c : Code} {H : Heap} {locs : List Loc} {cells slots : Nat} {Q : State → Prop}
variable {own name : String} {cc : ByteArray} {nL : Nat} {ret : Option FieldType} {G : mx_G} {A : Nat → Prop} {pc : Nat} {ls : Array Slot} {rest st st1 : List Value}
theorem mx_callVG {y : MethodName} {bytes : ByteArray} {maxL n idx : Nat} {ret' : Option FieldType} {rm : Room} {b : Nat} {As : List Value} {rv : Option Value} {we wb wc w1 w2 : va_W} {C : String} {ci : Nat} {T : u_T} {N : Nat} {fs : List Value}
    (X : mx_X p s m args meth c own name cc nL ret G) (hW : mx_W G s A (we ++ wb) H locs) (hls : ls.size = nL) (hM : mx_C l y bytes maxL ret' rm G (.ref b :: As) wc rv w1) (q0 : Nat) (he : wc[q0]? = some (b, .inr (ci, fs))) (hc : vwCl[ci]? = some (C, T, N))
    (h1 : Cond.methodLink own idx y ∈ TB) (h2 : Cond.instanceMethod y ∈ TB) (h3 : Cond.selects C y y ∈ TB) (h4 : Cond.initialized C ∈ TB) (h5 : Cond.code y bytes maxL ret' ∈ TB) (hd : y.cls = C ∧ y.cls ≠ "java/lang/invoke/MethodHandle" ∧ y.cls ≠ "java/lang/invoke/VarHandle" ∧ (parseMethodDescriptor y.desc).map (fun d => d.parameters.length) = some n)
    (hm0 : rm.cells = 0 ∧ rm.slots = 0) (hR : rm.frames + 1 ≤ R.frames ∧ 8 + (maxL + 11) + rm.locals ≤ R.locals) (hcl : cells ≤ R.cells ∧ slots ≤ R.slots) (isC : List Nat) (hn : va_nd isC = true) (hC : isC.map (fun i => we[i]?) = wc.map some) (ms : List (Option Nat)) (hmk : mx_mk isC ms = true) (hok : mx_ok w1 we w2 ms) (ha2 : w2.map Prod.fst = we.map Prod.fst)
    (hlen : As.length = n) (hst : st = As.reverse ++ .ref b :: rest) (hcat : (rest.map fun v => v.category).sum ≤ 8) (hst1 : rv.toList ++ rest = st1) (hdg : decode cc pc = .ok (.invokevirtual idx, 3))
    (kk : ∀ (H1 : Heap) (locs1 : List Loc), mx_W G s A (w2 ++ wb) H1 locs1 → W p l e R s m args below meth c H1 locs1 cells slots Q (F0 m (pc + 3) ls st1)) : W p l e R s m args below meth c H locs cells slots Q (F0 m pc ls st) := by
  subst hst1
  have hlt := mx_lt_of hC
  have hC' : isC.map (fun i => (we ++ wb)[i]?) = wc.map some := by
    rw [← hC]
    exact List.map_congr_left (fun i hi => List.getElem?_append_left (hlt i hi))
  have hlw : w2.length = we.length := by
    have := congrArg List.length ha2
    rwa [List.length_map, List.length_map] at this
  have hin := mx_inC hW isC hC' hn
  obtain ⟨hx, hb, hml, hown, hts, hKN, -⟩ := X
  refine mx_after2 (w2 := w2 ++ wb) (va_runV (cc := cc) (nL := nL) (Ts := TB) (own := own) ⟨hx, hb, hml, hown, hts⟩ (hM H.size) (cwV n hts (mx_gV (c0 := .initialized C) h1 h2 h3 h4 h5) rfl hm0.1 hm0.2 hd hR) ⟨mx_blind, va_recv hKN.1 hin.1 hc he, fun U hU hWm => ⟨rfl, by rw [hU], by rw [hU]; exact hin.1, hKN.moved hWm, hin.2, by rw [hU]; exact mx_ST.moved hWm hW.2.2.2.2 hW.2.2.1 (va_free hW.2.1 hW.2.2.1 hW.2.2.2.1 isC hC')⟩⟩ rfl hlen hls hst (lv_room hcat) hdg ⟨hcl.1, hcl.2⟩) hW isC hC' ?_ (by rw [List.map_append, List.map_append, ha2]) kk
  intro k q hq
  by_cases hk : k < w2.length
  · rw [List.getElem?_append_left hk] at hq
    rcases mx_ok_at we w2 ms hok k q hq with ⟨j, hj, -⟩ | ⟨hj, hn0⟩
    · exact Or.inl (List.mem_of_getElem? hj)
    · refine Or.inr ⟨by rw [List.getElem?_append_left (by omega)]; exact hj, fun hi => ?_⟩
      have := List.all_eq_true.mp hmk k hi
      rw [hn0] at this
      cases this
  · rw [List.getElem?_append_right (by omega)] at hq
    refine Or.inr ⟨by rw [List.getElem?_append_right (by omega), ← hlw]; exact hq, fun hi => ?_⟩
    have := hlt k hi
    omega
end LAWG
