/-! led, whatever has been told -/
theorem pT_53 {cap : Nat} {ci : Nat → Int32} {cf : Nat → Nat → Int32} {mi : Nat → Int32} {mf : Nat → Nat → Int32} {ri : Nat → Int32} {rf : Nat → Nat → Int32} {kl kb kf ks : Nat → Int32} {kw : Nat → Nat → Int32} {mlM mbM mfM msM : Nat → Int32} {mwM : Nat → Nat → Int32} (hr : rlT cap ci cf mi mf ri rf kl kb kf ks kw mlM mbM mfM msM mwM) (x1 : Int32) : (∃ x, f_led_L x1 (ci 18) (ci 67) 2000 0 0 = some (some x) ∧ f_X12_led x1 (mi 0) (ri 3) (mf 1) = some (x, 0)) ∨ (f_led_L x1 (ci 18) (ci 67) 2000 0 0 = some none ∧ f_X12_led x1 (mi 0) (ri 3) (mf 1) = some (0, 1)) := by
  obtain ⟨R, l, hC, hR, D, D2, hN, hM, hK⟩ := hr
  have d67 : ci 67 = nI (R 0 1) := D.2.2.2.1
  have r3 : ri 3 = nI (R 0 1) := D2.2.2.2.1
  rw [d67, r3]
  obtain ⟨o, e1, e2⟩ := j_led (R := R) hR.1.2.2.1 hN x1 (mi 0)
  cases o with
  | none => exact Or.inr ⟨e1, e2⟩
  | some x => exact Or.inl ⟨x, e1, e2⟩
section LAWH
variable {p : Program} {l : Launch} {e : Env} {s : State} {m : MethodId} {args : Array Value} {below : List Frame} {meth : Method} {c : Code} {H : Heap} {locs : List Loc} {cells slots : Nat} {Q : State → Prop}
variable {name : String} {ret : Option FieldType} {G : mx_G} {A : Nat → Prop} {ls : Array Slot} {b L : Nat} {xs : Nat → Int32} {i : Int32} {cap qo b0 m0 : Nat}
theorem h_53 (X : mx_X p s m args meth c RL name cL_law 7 ret G) (hAO : va_AO "RiverCorset$State" s) (hst : l.stackTraces = false) (hNS : nseK A s s.heap) (hX : va_X b L xs s s.heap) (hbl : b < s.heap.size) (hbA : ¬ A b) (hcl : cells + 20 ≤ room_1.cells ∧ slots + 200 ≤ room_1.slots) (h5 : vp_in (i + 1) L ∧ vp_in (i + 2) L ∧ vp_in (i + 3) L ∧ vp_in (i + 4) L ∧ vp_in (i + 5) L) (hcap : cap < 2 ^ 15) (hl : lv_has ls 7 [(0, .ref b), (1, .ref b0), (2, .ref m0), (3, .ref qo), (4, .int i)]) (hI : lwI G s A cap qo b0 m0 H locs) (kk : ∀ (ls : Array Slot) (H1 : Heap) (locs1 : List Loc), lv_has ls 7 [(0, .ref b), (1, .ref b0), (2, .ref m0), (3, .ref qo), (4, .int i)] → lwI G s A (cap + 1) qo b0 m0 H1 locs1 → W p l e room_1 s m args below meth c H1 locs1 (cells + 20) (slots + 200) Q (F0 m 1535 ls [])) : W p l e room_1 s m args below meth c H locs cells slots Q (F0 m 1441 ls []) := by
  have hcl0 : cells ≤ room_1.cells ∧ slots ≤ room_1.slots := ⟨Nat.le_trans (Nat.le_add_right _ _) hcl.1, Nat.le_trans (Nat.le_add_right _ _) hcl.2⟩
  rcases hI with ⟨qa, aK, aM, aKw, aMw, ci, cf, cn, cc, fo, qm, vr, mi, mf, mw, qr, ri, rf, rn, kl, kb, kf, ks, kw, mlM, mbM, mfM, msM, mwM, rfl, rfl, hW, hr⟩ | ⟨qa, aK, aM, aKw, aMw, ci, cf, cn, cc, fo, qm, vr, mi, mf, mw, kl, kb, kf, ks, kw, mlM, mbM, mfM, msM, mwM, rfl, rfl, hW, hr⟩
  · rcases pT_53 hr (xs (i + 1).toNatClampNeg) with ⟨x, e1, e2⟩ | ⟨e1, e2⟩
    · exact mT_53r X hX hbl hbA ⟨Nat.le_trans (Nat.add_le_add_left (by decide) _) hcl.1, Nat.le_trans (Nat.add_le_add_left (by decide) _) hcl.2⟩ h5.1 hl hW x e1 e2 (fun ls1 H1 locs1 hl1 hW1 => W.widen (Nat.add_le_add_left (by decide) _) (Nat.add_le_add_left (by decide) _) (kk ls1 H1 locs1 hl1 (lwI_T hW1 (rlT_up hr))))
    · exact mT_53t X hst hNS hX hbl hbA ⟨Nat.le_trans (Nat.add_le_add_left (by decide) _) hcl.1, Nat.le_trans (Nat.add_le_add_left (by decide) _) hcl.2⟩ h5.1 hl hW e1 e2 (fun ls1 H1 locs1 hl1 hW1 => W.widen (Nat.add_le_add_left (by decide) _) (Nat.add_le_add_left (by decide) _) (kk ls1 H1 locs1 hl1 (lwI_T hW1 (rlT_up hr))))
  · have e1 : f_led_L (xs (i + 1).toNatClampNeg) (ci 18) (ci 67) 2000 0 0 = some none := by rw [hr.2.2.2.2.2.2.2.2.1]; exact n_led _ _
    exact mU_53t X hst hNS hX hbl hbA ⟨Nat.le_trans (Nat.add_le_add_left (by decide) _) hcl.1, Nat.le_trans (Nat.add_le_add_left (by decide) _) hcl.2⟩ h5.1 hl hW e1 rfl (fun ls1 H1 locs1 hl1 hW1 => W.widen (Nat.add_le_add_left (by decide) _) (Nat.add_le_add_left (by decide) _) (kk ls1 H1 locs1 hl1 (lwI_U hW1 hr)))
end LAWH
