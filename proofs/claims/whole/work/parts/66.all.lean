/-! all lines -/
theorem c_noWord {s : Int32} (hs : ¬ s = 1) (tc : (Nat → Int32)) (names : Nat → Int64) (lines nums : (Nat → Int32)) (f fp : Int32) (fl ta re ro ha bo mu lo : Int32) (ki wi ba md at_ pu be st bw bd : (Nat → Int32)) (named en at0 pl v : Int32) (cd : Int64) : ∃ o, f_X5_readLine tc names lines nums f fp fl ta re ro ha bo mu lo ki wi ba md at_ pu be st bw bd named en at0 s pl v cd = some o ∧ o.1 = 0 := by
  unfold f_X5_readLine f_X5_lineOfWord
  rw [if_neg hs, bind_some', if_pos rfl]
  exact ⟨_, rfl, rfl⟩
set_option maxHeartbeats 1000000 in
theorem j_lines {e : Nat} (he : e ≤ 900) {tc tm : (Nat → Int32)} {bt : Nat → Nat} (h : tpB e tc tm bt) {KC : Int32 → (Nat → Int64) → (Nat → Int32) → (Nat → Int32) → Int32 → Int32 → Int32 → Int32 → Int32 → Int32 → Int32 → Int32 → Int32 → Int32 → (Nat → Int32) → (Nat → Int32) → (Nat → Int32) → (Nat → Int32) → (Nat → Int32) → (Nat → Int32) → (Nat → Int32) → (Nat → Int32) → (Nat → Int32) → (Nat → Int32) → Int32 → Int32 → Int32 → Int32 → Int32 → Int64 → Option (Int32 × (Nat → Int64) × (Nat → Int32) × (Nat → Int32) × Int32 × Int32 × Int32 × Int32 × Int32 × Int32 × Int32 × Int32 × Int32 × Int32 × Int32 × (Nat → Int32) × (Nat → Int32) × (Nat → Int32) × (Nat → Int32) × (Nat → Int32) × (Nat → Int32) × (Nat → Int32) × (Nat → Int32) × (Nat → Int32) × (Nat → Int32) × Int32 × Int32 × Int32 × Int32 × Int32 × Int32 × Int64)} {KM : Int32 → Int32 → Int32 → Int32 → Int32 → Int32 → Int32 → Int32 → Int32 → (Nat → Int32) → (Nat → Int32) → (Nat → Int32) → (Nat → Int32) → (Nat → Int32) → (Nat → Int32) → (Nat → Int32) → (Nat → Int32) → (Nat → Int32) → (Nat → Int32) → (Nat → Int64) → (Nat → Int32) → (Nat → Int32) → Int32 → Int32 → Int32 → Int32 → Int32 → Int32 → Int64 → Option (Int32 × Int32 × Int32 × Int32 × Int32 × Int32 × Int32 × Int32 × Int32 × (Nat → Int32) × (Nat → Int32) × (Nat → Int32) × (Nat → Int32) × (Nat → Int32) × (Nat → Int32) × (Nat → Int32) × (Nat → Int32) × (Nat → Int32) × (Nat → Int32) × (Nat → Int64) × (Nat → Int32) × (Nat → Int32) × Int32 × Int32 × Int32 × Int32 × Int32 × Int32 × Int64)} {fp wr : Int32} : ∀ (d i f1 f2 p : Nat) (names : Nat → Int64) (lines nums : (Nat → Int32)) (fl ta re ro ha bo mu lo : Int32) (ki wi ba md at_ pu be st bw bd : (Nat → Int32)) (named : Int32) (ct : (Int32 × Int32 × Int32 × Int32 × Int64)) (fl2 ta2 re2 ro2 ha2 bo2 mu2 lo2 nn2 : Int32) (ki2 wi2 ba2 md2 at2 pu2 be2 st2 bw2 bd2 : (Nat → Int32)) (name : Nat → Int64) (sorts nums2 : (Nat → Int32)) (mt : (Int32 × Int32 × Int32 × Int32 × Int64)), SR e p names lines nums fl ta re ro ha bo mu lo ki wi ba md at_ pu be st bw bd named ct fl2 ta2 re2 ro2 ha2 bo2 mu2 lo2 nn2 ki2 wi2 ba2 md2 at2 pu2 be2 st2 bw2 bd2 name sorts nums2 mt → (ct.2.1 = 1 → i < p ∧ e < p + d) → d < f1 → d + 1 < f2 →
    (∃ (names' : Nat → Int64) (lines' nums' : (Nat → Int32)) (fl' ta' re' ro' ha' bo' mu' lo' : Int32) (ki' wi' ba' md' at_' pu' be' st' bw' bd' : (Nat → Int32)) (named' : Int32) (c2 : (Int32 × Int32 × Int32 × Int32 × Int64)) (fl2' ta2' re2' ro2' ha2' bo2' mu2' lo2' nn2' : Int32) (ki2' wi2' ba2' md2' at2' pu2' be2' st2' bw2' bd2' : (Nat → Int32)) (name' : Nat → Int64) (sorts' nums2' : (Nat → Int32)) (m2 : (Int32 × Int32 × Int32 × Int32 × Int64)) (p' : Nat), SR e p' names' lines' nums' fl' ta' re' ro' ha' bo' mu' lo' ki' wi' ba' md' at_' pu' be' st' bw' bd' named' c2 fl2' ta2' re2' ro2' ha2' bo2' mu2' lo2' nn2' ki2' wi2' ba2' md2' at2' pu2' be2' st2' bw2' bd2' name' sorts' nums2' m2 ∧ ¬ c2.2.1 = 3 ∧ ((f_X5_readLine tc names lines nums 0 fp fl ta re ro ha bo mu lo ki wi ba md at_ pu be st bw bd named (nI e) ct.1 ct.2.1 ct.2.2.1 ct.2.2.2.1 ct.2.2.2.2).bind fun o9 => f_X5_read_L50 KC tc (nI e) f1 o9.1 (nI i) o9.2.1 o9.2.2.1 o9.2.2.2.1 o9.2.2.2.2.1 o9.2.2.2.2.2.1 o9.2.2.2.2.2.2.1 o9.2.2.2.2.2.2.2.1 o9.2.2.2.2.2.2.2.2.1 o9.2.2.2.2.2.2.2.2.2.1 o9.2.2.2.2.2.2.2.2.2.2.1 o9.2.2.2.2.2.2.2.2.2.2.2.1 o9.2.2.2.2.2.2.2.2.2.2.2.2.1 o9.2.2.2.2.2.2.2.2.2.2.2.2.2.1 o9.2.2.2.2.2.2.2.2.2.2.2.2.2.2.1 o9.2.2.2.2.2.2.2.2.2.2.2.2.2.2.2.1 o9.2.2.2.2.2.2.2.2.2.2.2.2.2.2.2.2.1 o9.2.2.2.2.2.2.2.2.2.2.2.2.2.2.2.2.2.1 o9.2.2.2.2.2.2.2.2.2.2.2.2.2.2.2.2.2.2.1 o9.2.2.2.2.2.2.2.2.2.2.2.2.2.2.2.2.2.2.2.1 o9.2.2.2.2.2.2.2.2.2.2.2.2.2.2.2.2.2.2.2.2.1 o9.2.2.2.2.2.2.2.2.2.2.2.2.2.2.2.2.2.2.2.2.2.1 o9.2.2.2.2.2.2.2.2.2.2.2.2.2.2.2.2.2.2.2.2.2.2.1 o9.2.2.2.2.2.2.2.2.2.2.2.2.2.2.2.2.2.2.2.2.2.2.2.1 o9.2.2.2.2.2.2.2.2.2.2.2.2.2.2.2.2.2.2.2.2.2.2.2.2.1 o9.2.2.2.2.2.2.2.2.2.2.2.2.2.2.2.2.2.2.2.2.2.2.2.2.2.1 o9.2.2.2.2.2.2.2.2.2.2.2.2.2.2.2.2.2.2.2.2.2.2.2.2.2.2.1 o9.2.2.2.2.2.2.2.2.2.2.2.2.2.2.2.2.2.2.2.2.2.2.2.2.2.2.2.1 o9.2.2.2.2.2.2.2.2.2.2.2.2.2.2.2.2.2.2.2.2.2.2.2.2.2.2.2.2.1 o9.2.2.2.2.2.2.2.2.2.2.2.2.2.2.2.2.2.2.2.2.2.2.2.2.2.2.2.2.2) = KC 1 names' lines' nums' 0 fp fl' ta' re' ro' ha' bo' mu' lo' ki' wi' ba' md' at_' pu' be' st' bw' bd' named' c2.1 c2.2.1 c2.2.2.1 c2.2.2.2.1 c2.2.2.2.2 ∧ (f_X12_readAll_L2 KM tm (nI e) f2 1 fl2 ta2 re2 ro2 ha2 bo2 mu2 lo2 nn2 ki2 wi2 ba2 md2 at2 pu2 be2 st2 bw2 bd2 name sorts nums2 mt.1 mt.2.1 mt.2.2.1 mt.2.2.2.1 0 wr mt.2.2.2.2) = KM fl2' ta2' re2' ro2' ha2' bo2' mu2' lo2' nn2' ki2' wi2' ba2' md2' at2' pu2' be2' st2' bw2' bd2' name' sorts' nums2' m2.1 m2.2.1 m2.2.2.1 m2.2.2.2.1 0 wr m2.2.2.2.2) ∨
    (∃ F q, badF F ∧ q ≤ e ∧ (∃ o : (Int32 × (Nat → Int64) × (Nat → Int32) × (Nat → Int32) × Int32 × Int32 × Int32 × Int32 × Int32 × Int32 × Int32 × Int32 × Int32 × Int32 × (Nat → Int32) × (Nat → Int32) × (Nat → Int32) × (Nat → Int32) × (Nat → Int32) × (Nat → Int32) × (Nat → Int32) × (Nat → Int32) × (Nat → Int32) × (Nat → Int32) × Int32 × Int32 × Int32 × Int32 × Int32 × Int64), o.1 = 0 ∧ o.2.2.2.2.1 = F ∧ o.2.2.2.2.2.1 = nI q ∧ ((f_X5_readLine tc names lines nums 0 fp fl ta re ro ha bo mu lo ki wi ba md at_ pu be st bw bd named (nI e) ct.1 ct.2.1 ct.2.2.1 ct.2.2.2.1 ct.2.2.2.2).bind fun o9 => f_X5_read_L50 KC tc (nI e) f1 o9.1 (nI i) o9.2.1 o9.2.2.1 o9.2.2.2.1 o9.2.2.2.2.1 o9.2.2.2.2.2.1 o9.2.2.2.2.2.2.1 o9.2.2.2.2.2.2.2.1 o9.2.2.2.2.2.2.2.2.1 o9.2.2.2.2.2.2.2.2.2.1 o9.2.2.2.2.2.2.2.2.2.2.1 o9.2.2.2.2.2.2.2.2.2.2.2.1 o9.2.2.2.2.2.2.2.2.2.2.2.2.1 o9.2.2.2.2.2.2.2.2.2.2.2.2.2.1 o9.2.2.2.2.2.2.2.2.2.2.2.2.2.2.1 o9.2.2.2.2.2.2.2.2.2.2.2.2.2.2.2.1 o9.2.2.2.2.2.2.2.2.2.2.2.2.2.2.2.2.1 o9.2.2.2.2.2.2.2.2.2.2.2.2.2.2.2.2.2.1 o9.2.2.2.2.2.2.2.2.2.2.2.2.2.2.2.2.2.2.1 o9.2.2.2.2.2.2.2.2.2.2.2.2.2.2.2.2.2.2.2.1 o9.2.2.2.2.2.2.2.2.2.2.2.2.2.2.2.2.2.2.2.2.1 o9.2.2.2.2.2.2.2.2.2.2.2.2.2.2.2.2.2.2.2.2.2.1 o9.2.2.2.2.2.2.2.2.2.2.2.2.2.2.2.2.2.2.2.2.2.2.1 o9.2.2.2.2.2.2.2.2.2.2.2.2.2.2.2.2.2.2.2.2.2.2.2.1 o9.2.2.2.2.2.2.2.2.2.2.2.2.2.2.2.2.2.2.2.2.2.2.2.2.1 o9.2.2.2.2.2.2.2.2.2.2.2.2.2.2.2.2.2.2.2.2.2.2.2.2.2.1 o9.2.2.2.2.2.2.2.2.2.2.2.2.2.2.2.2.2.2.2.2.2.2.2.2.2.2.1 o9.2.2.2.2.2.2.2.2.2.2.2.2.2.2.2.2.2.2.2.2.2.2.2.2.2.2.2.1 o9.2.2.2.2.2.2.2.2.2.2.2.2.2.2.2.2.2.2.2.2.2.2.2.2.2.2.2.2.1 o9.2.2.2.2.2.2.2.2.2.2.2.2.2.2.2.2.2.2.2.2.2.2.2.2.2.2.2.2.2) = KC o.1 o.2.1 o.2.2.1 o.2.2.2.1 o.2.2.2.2.1 o.2.2.2.2.2.1 o.2.2.2.2.2.2.1 o.2.2.2.2.2.2.2.1 o.2.2.2.2.2.2.2.2.1 o.2.2.2.2.2.2.2.2.2.1 o.2.2.2.2.2.2.2.2.2.2.1 o.2.2.2.2.2.2.2.2.2.2.2.1 o.2.2.2.2.2.2.2.2.2.2.2.2.1 o.2.2.2.2.2.2.2.2.2.2.2.2.2.1 o.2.2.2.2.2.2.2.2.2.2.2.2.2.2.1 o.2.2.2.2.2.2.2.2.2.2.2.2.2.2.2.1 o.2.2.2.2.2.2.2.2.2.2.2.2.2.2.2.2.1 o.2.2.2.2.2.2.2.2.2.2.2.2.2.2.2.2.2.1 o.2.2.2.2.2.2.2.2.2.2.2.2.2.2.2.2.2.2.1 o.2.2.2.2.2.2.2.2.2.2.2.2.2.2.2.2.2.2.2.1 o.2.2.2.2.2.2.2.2.2.2.2.2.2.2.2.2.2.2.2.2.1 o.2.2.2.2.2.2.2.2.2.2.2.2.2.2.2.2.2.2.2.2.2.1 o.2.2.2.2.2.2.2.2.2.2.2.2.2.2.2.2.2.2.2.2.2.2.1 o.2.2.2.2.2.2.2.2.2.2.2.2.2.2.2.2.2.2.2.2.2.2.2.1 o.2.2.2.2.2.2.2.2.2.2.2.2.2.2.2.2.2.2.2.2.2.2.2.2.1 o.2.2.2.2.2.2.2.2.2.2.2.2.2.2.2.2.2.2.2.2.2.2.2.2.2.1 o.2.2.2.2.2.2.2.2.2.2.2.2.2.2.2.2.2.2.2.2.2.2.2.2.2.2.1 o.2.2.2.2.2.2.2.2.2.2.2.2.2.2.2.2.2.2.2.2.2.2.2.2.2.2.2.1 o.2.2.2.2.2.2.2.2.2.2.2.2.2.2.2.2.2.2.2.2.2.2.2.2.2.2.2.2.1 o.2.2.2.2.2.2.2.2.2.2.2.2.2.2.2.2.2.2.2.2.2.2.2.2.2.2.2.2.2) ∧ (∃ o2 : (Int32 × Int32 × Int32 × Int32 × Int32 × Int32 × Int32 × Int32 × Int32 × (Nat → Int32) × (Nat → Int32) × (Nat → Int32) × (Nat → Int32) × (Nat → Int32) × (Nat → Int32) × (Nat → Int32) × (Nat → Int32) × (Nat → Int32) × (Nat → Int32) × (Nat → Int64) × (Nat → Int32) × (Nat → Int32) × Int32 × Int32 × Int32 × Int32 × Int32 × Int32 × Int64), o2.2.2.2.2.2.2.2.2.2.2.2.2.2.2.2.2.2.2.2.2.2.2.2.1 = 5 ∧ o2.2.2.2.2.2.2.2.2.2.2.2.2.2.2.2.2.2.2.2.2.2.2.2.2.2.2.1 = F ∧ o2.2.2.2.2.2.2.2.2.2.2.2.2.2.2.2.2.2.2.2.2.2.2.2.2.2.2.2.1 = nI q ∧ (f_X12_readAll_L2 KM tm (nI e) f2 1 fl2 ta2 re2 ro2 ha2 bo2 mu2 lo2 nn2 ki2 wi2 ba2 md2 at2 pu2 be2 st2 bw2 bd2 name sorts nums2 mt.1 mt.2.1 mt.2.2.1 mt.2.2.2.1 0 wr mt.2.2.2.2) = KM o2.1 o2.2.1 o2.2.2.1 o2.2.2.2.1 o2.2.2.2.2.1 o2.2.2.2.2.2.1 o2.2.2.2.2.2.2.1 o2.2.2.2.2.2.2.2.1 o2.2.2.2.2.2.2.2.2.1 o2.2.2.2.2.2.2.2.2.2.1 o2.2.2.2.2.2.2.2.2.2.2.1 o2.2.2.2.2.2.2.2.2.2.2.2.1 o2.2.2.2.2.2.2.2.2.2.2.2.2.1 o2.2.2.2.2.2.2.2.2.2.2.2.2.2.1 o2.2.2.2.2.2.2.2.2.2.2.2.2.2.2.1 o2.2.2.2.2.2.2.2.2.2.2.2.2.2.2.2.1 o2.2.2.2.2.2.2.2.2.2.2.2.2.2.2.2.2.1 o2.2.2.2.2.2.2.2.2.2.2.2.2.2.2.2.2.2.1 o2.2.2.2.2.2.2.2.2.2.2.2.2.2.2.2.2.2.2.1 o2.2.2.2.2.2.2.2.2.2.2.2.2.2.2.2.2.2.2.2.1 o2.2.2.2.2.2.2.2.2.2.2.2.2.2.2.2.2.2.2.2.2.1 o2.2.2.2.2.2.2.2.2.2.2.2.2.2.2.2.2.2.2.2.2.2.1 o2.2.2.2.2.2.2.2.2.2.2.2.2.2.2.2.2.2.2.2.2.2.2.1 o2.2.2.2.2.2.2.2.2.2.2.2.2.2.2.2.2.2.2.2.2.2.2.2.1 o2.2.2.2.2.2.2.2.2.2.2.2.2.2.2.2.2.2.2.2.2.2.2.2.2.1 o2.2.2.2.2.2.2.2.2.2.2.2.2.2.2.2.2.2.2.2.2.2.2.2.2.2.1 o2.2.2.2.2.2.2.2.2.2.2.2.2.2.2.2.2.2.2.2.2.2.2.2.2.2.2.1 o2.2.2.2.2.2.2.2.2.2.2.2.2.2.2.2.2.2.2.2.2.2.2.2.2.2.2.2.1 o2.2.2.2.2.2.2.2.2.2.2.2.2.2.2.2.2.2.2.2.2.2.2.2.2.2.2.2.2)) := by
  intro d
  induction d with
  | zero =>
    intro i f1 f2 p names lines nums fl ta re ro ha bo mu lo ki wi ba md at_ pu be st bw bd named ct fl2 ta2 re2 ro2 ha2 bo2 mu2 lo2 nn2 ki2 wi2 ba2 md2 at2 pu2 be2 st2 bw2 bd2 name sorts nums2 mt hs hc h1 h2
    obtain ⟨a1, rfl⟩ := Nat.exists_eq_succ_of_ne_zero (show f1 ≠ 0 by omega)
    obtain ⟨a2, rfl⟩ := Nat.exists_eq_succ_of_ne_zero (show f2 ≠ 0 by omega)
    obtain ⟨a3, rfl⟩ := Nat.exists_eq_succ_of_ne_zero (show a2 ≠ 0 by omega)
    have hpe : p ≤ e := by
      obtain ⟨-, -, -, -, -, -, -, -, -, -, -, -, -, -, q, h0, -⟩ := hs
      exact h0
    rcases j_readLine he h hs 0 fp 0 wr with ⟨names', lines', nums', fl', ta', re', ro', ha', bo', mu', lo', ki', wi', ba', md', at_', pu', be', st', bw', bd', named', c2, fl2', ta2', re2', ro2', ha2', bo2', mu2', lo2', nn2', ki2', wi2', ba2', md2', at2', pu2', be2', st2', bw2', bd2', name', sorts', nums2', m2, p', ecl, emd, hp2, hs2⟩ | ⟨F, q, hBd, hq, ⟨o, ecl, b1, b2, b3⟩, o2, emd, b5, b6, b7⟩
    · exfalso
      by_cases hw : ct.2.1 = 1
      · have := hc hw; omega
      · obtain ⟨o, eo, ho⟩ := c_noWord hw tc names lines nums 0 fp fl ta re ro ha bo mu lo ki wi ba md at_ pu be st bw bd named (nI e) ct.1 ct.2.2.1 ct.2.2.2.1 ct.2.2.2.2
        rw [ecl] at eo
        injection eo with eo
        rw [← eo] at ho
        exact one_ne ho
    · right
      refine ⟨F, q, hBd, hq, ⟨o, b1, b2, b3, ?_⟩, o2, b5, b6, b7, ?_⟩
      · rw [ecl, bind_some', f_X5_read_L50]
        by_cases z : 900 ≤ nI i
        · rw [if_pos z]
        · rw [if_neg z, if_pos b1]
      · rw [f_X12_readAll_L2, if_neg one_ne, emd, bind_some']
        unfold f_X12_eatsSemicolon
        rw [if_neg (show ¬ o2.2.2.2.2.2.2.2.2.2.2.2.2.2.2.2.2.2.2.2.2.2.2.2.1 = 4 by rw [b5]; decide), bind_some', f_X12_readAll_L2, if_pos rfl]
  | succ d ih =>
    intro i f1 f2 p names lines nums fl ta re ro ha bo mu lo ki wi ba md at_ pu be st bw bd named ct fl2 ta2 re2 ro2 ha2 bo2 mu2 lo2 nn2 ki2 wi2 ba2 md2 at2 pu2 be2 st2 bw2 bd2 name sorts nums2 mt hs hc h1 h2
    obtain ⟨a1, rfl⟩ := Nat.exists_eq_succ_of_ne_zero (show f1 ≠ 0 by omega)
    obtain ⟨a2, rfl⟩ := Nat.exists_eq_succ_of_ne_zero (show f2 ≠ 0 by omega)
    obtain ⟨a3, rfl⟩ := Nat.exists_eq_succ_of_ne_zero (show a2 ≠ 0 by omega)
    have hpe : p ≤ e := by
      obtain ⟨-, -, -, -, -, -, -, -, -, -, -, -, -, -, q, h0, -⟩ := hs
      exact h0
    rcases j_readLine he h hs 0 fp 0 wr with ⟨names', lines', nums', fl', ta', re', ro', ha', bo', mu', lo', ki', wi', ba', md', at_', pu', be', st', bw', bd', named', c2, fl2', ta2', re2', ro2', ha2', bo2', mu2', lo2', nn2', ki2', wi2', ba2', md2', at2', pu2', be2', st2', bw2', bd2', name', sorts', nums2', m2, p', ecl, emd, hp2, hs2⟩ | ⟨F, q, hBd, hq, ⟨o, ecl, b1, b2, b3⟩, o2, emd, b5, b6, b7⟩
    · have hw : ct.2.1 = 1 := by
        by_cases hw : ct.2.1 = 1
        · exact hw
        · exfalso
          obtain ⟨o, eo, ho⟩ := c_noWord hw tc names lines nums 0 fp fl ta re ro ha bo mu lo ki wi ba md at_ pu be st bw bd named (nI e) ct.1 ct.2.2.1 ct.2.2.2.1 ct.2.2.2.2
          rw [ecl] at eo
          injection eo with eo
          rw [← eo] at ho
          exact one_ne ho
      obtain ⟨hip, hed⟩ := hc hw
      have ht2 : tkR e p' c2 m2 := by
        obtain ⟨-, -, -, -, -, -, -, -, -, -, -, -, -, -, h0⟩ := hs2
        exact h0
      have h5 := tkR_5 ht2
      obtain ⟨q, t1, t2, t3, t4, t5, t6, t7⟩ := id ht2
      have hi9 : ¬ (900 : Int32) ≤ nI i := nI_ge (b := 900) (by omega) (by decide)
      by_cases hpart : c2.2.1 = 3
      · have hm4 : m2.2.1 = 4 := by
          rcases t7 with ⟨a, b⟩ | ⟨l, l1, l2, a, b, -⟩ | ⟨x, x1, a, b, -⟩ | ⟨a, b⟩ | ⟨a, b⟩
          · rw [a] at hpart; exact absurd hpart (by decide)
          · rw [a] at hpart; exact absurd hpart (by decide)
          · rw [a] at hpart; exact absurd hpart (by decide)
          · exact b
          · rw [a] at hpart; exact absurd hpart (by decide)
        obtain ⟨p3, c3, m3, ec3, em3, ht3, hp3, hst⟩ := j_next he h t1 c2.2.1 c2.2.2.1 c2.2.2.2.1 c2.2.2.2.2 m2.2.1 m2.2.2.1 m2.2.2.2.1 m2.2.2.2.2 h5
        rw [← t3] at ec3
        rw [← t4] at em3
        have hs3 : SR e p3 names' lines' nums' fl' ta' re' ro' ha' bo' mu' lo' ki' wi' ba' md' at_' pu' be' st' bw' bd' named' c3 fl2' ta2' re2' ro2' ha2' bo2' mu2' lo2' nn2' ki2' wi2' ba2' md2' at2' pu2' be2' st2' bw2' bd2' name' sorts' nums2' m3 := by
          obtain ⟨R, l, c, N, x1, x2, x3, x4, x5, x6, x7, x8, x9, x10, -⟩ := hs2
          exact ⟨R, l, c, N, x1, x2, x3, x4, x5, x6, x7, x8, x9, x10, ht3⟩
        have key := ih (i + 1) a1 (a3 + 1) p3 names' lines' nums' fl' ta' re' ro' ha' bo' mu' lo' ki' wi' ba' md' at_' pu' be' st' bw' bd' named' c3 fl2' ta2' re2' ro2' ha2' bo2' mu2' lo2' nn2' ki2' wi2' ba2' md2' at2' pu2' be2' st2' bw2' bd2' name' sorts' nums2' m3 hs3 (fun z => by have := hst (Or.inr z); omega) (by omega) (by omega)
        have ecC : ((f_X5_readLine tc names lines nums 0 fp fl ta re ro ha bo mu lo ki wi ba md at_ pu be st bw bd named (nI e) ct.1 ct.2.1 ct.2.2.1 ct.2.2.2.1 ct.2.2.2.2).bind fun o9 => f_X5_read_L50 KC tc (nI e) (a1 + 1) o9.1 (nI i) o9.2.1 o9.2.2.1 o9.2.2.2.1 o9.2.2.2.2.1 o9.2.2.2.2.2.1 o9.2.2.2.2.2.2.1 o9.2.2.2.2.2.2.2.1 o9.2.2.2.2.2.2.2.2.1 o9.2.2.2.2.2.2.2.2.2.1 o9.2.2.2.2.2.2.2.2.2.2.1 o9.2.2.2.2.2.2.2.2.2.2.2.1 o9.2.2.2.2.2.2.2.2.2.2.2.2.1 o9.2.2.2.2.2.2.2.2.2.2.2.2.2.1 o9.2.2.2.2.2.2.2.2.2.2.2.2.2.2.1 o9.2.2.2.2.2.2.2.2.2.2.2.2.2.2.2.1 o9.2.2.2.2.2.2.2.2.2.2.2.2.2.2.2.2.1 o9.2.2.2.2.2.2.2.2.2.2.2.2.2.2.2.2.2.1 o9.2.2.2.2.2.2.2.2.2.2.2.2.2.2.2.2.2.2.1 o9.2.2.2.2.2.2.2.2.2.2.2.2.2.2.2.2.2.2.2.1 o9.2.2.2.2.2.2.2.2.2.2.2.2.2.2.2.2.2.2.2.2.1 o9.2.2.2.2.2.2.2.2.2.2.2.2.2.2.2.2.2.2.2.2.2.1 o9.2.2.2.2.2.2.2.2.2.2.2.2.2.2.2.2.2.2.2.2.2.2.1 o9.2.2.2.2.2.2.2.2.2.2.2.2.2.2.2.2.2.2.2.2.2.2.2.1 o9.2.2.2.2.2.2.2.2.2.2.2.2.2.2.2.2.2.2.2.2.2.2.2.2.1 o9.2.2.2.2.2.2.2.2.2.2.2.2.2.2.2.2.2.2.2.2.2.2.2.2.2.1 o9.2.2.2.2.2.2.2.2.2.2.2.2.2.2.2.2.2.2.2.2.2.2.2.2.2.2.1 o9.2.2.2.2.2.2.2.2.2.2.2.2.2.2.2.2.2.2.2.2.2.2.2.2.2.2.2.1 o9.2.2.2.2.2.2.2.2.2.2.2.2.2.2.2.2.2.2.2.2.2.2.2.2.2.2.2.2.1 o9.2.2.2.2.2.2.2.2.2.2.2.2.2.2.2.2.2.2.2.2.2.2.2.2.2.2.2.2.2) = ((f_X5_readLine tc names' lines' nums' 0 fp fl' ta' re' ro' ha' bo' mu' lo' ki' wi' ba' md' at_' pu' be' st' bw' bd' named' (nI e) c3.1 c3.2.1 c3.2.2.1 c3.2.2.2.1 c3.2.2.2.2).bind fun o9 => f_X5_read_L50 KC tc (nI e) a1 o9.1 (nI (i + 1)) o9.2.1 o9.2.2.1 o9.2.2.2.1 o9.2.2.2.2.1 o9.2.2.2.2.2.1 o9.2.2.2.2.2.2.1 o9.2.2.2.2.2.2.2.1 o9.2.2.2.2.2.2.2.2.1 o9.2.2.2.2.2.2.2.2.2.1 o9.2.2.2.2.2.2.2.2.2.2.1 o9.2.2.2.2.2.2.2.2.2.2.2.1 o9.2.2.2.2.2.2.2.2.2.2.2.2.1 o9.2.2.2.2.2.2.2.2.2.2.2.2.2.1 o9.2.2.2.2.2.2.2.2.2.2.2.2.2.2.1 o9.2.2.2.2.2.2.2.2.2.2.2.2.2.2.2.1 o9.2.2.2.2.2.2.2.2.2.2.2.2.2.2.2.2.1 o9.2.2.2.2.2.2.2.2.2.2.2.2.2.2.2.2.2.1 o9.2.2.2.2.2.2.2.2.2.2.2.2.2.2.2.2.2.2.1 o9.2.2.2.2.2.2.2.2.2.2.2.2.2.2.2.2.2.2.2.1 o9.2.2.2.2.2.2.2.2.2.2.2.2.2.2.2.2.2.2.2.2.1 o9.2.2.2.2.2.2.2.2.2.2.2.2.2.2.2.2.2.2.2.2.2.1 o9.2.2.2.2.2.2.2.2.2.2.2.2.2.2.2.2.2.2.2.2.2.2.1 o9.2.2.2.2.2.2.2.2.2.2.2.2.2.2.2.2.2.2.2.2.2.2.2.1 o9.2.2.2.2.2.2.2.2.2.2.2.2.2.2.2.2.2.2.2.2.2.2.2.2.1 o9.2.2.2.2.2.2.2.2.2.2.2.2.2.2.2.2.2.2.2.2.2.2.2.2.2.1 o9.2.2.2.2.2.2.2.2.2.2.2.2.2.2.2.2.2.2.2.2.2.2.2.2.2.2.1 o9.2.2.2.2.2.2.2.2.2.2.2.2.2.2.2.2.2.2.2.2.2.2.2.2.2.2.2.1 o9.2.2.2.2.2.2.2.2.2.2.2.2.2.2.2.2.2.2.2.2.2.2.2.2.2.2.2.2.1 o9.2.2.2.2.2.2.2.2.2.2.2.2.2.2.2.2.2.2.2.2.2.2.2.2.2.2.2.2.2) := by
          rw [ecl, bind_some', f_X5_read_L50, if_neg hi9, if_neg one_ne]
          (try dsimp only)
          rw [if_pos hpart, ec3, bind_some', nI_1]
        have ecM : (f_X12_readAll_L2 KM tm (nI e) (a3 + 1 + 1) 1 fl2 ta2 re2 ro2 ha2 bo2 mu2 lo2 nn2 ki2 wi2 ba2 md2 at2 pu2 be2 st2 bw2 bd2 name sorts nums2 mt.1 mt.2.1 mt.2.2.1 mt.2.2.2.1 0 wr mt.2.2.2.2) = (f_X12_readAll_L2 KM tm (nI e) (a3 + 1) 1 fl2' ta2' re2' ro2' ha2' bo2' mu2' lo2' nn2' ki2' wi2' ba2' md2' at2' pu2' be2' st2' bw2' bd2' name' sorts' nums2' m3.1 m3.2.1 m3.2.2.1 m3.2.2.2.1 0 wr m3.2.2.2.2) := by
          rw [f_X12_readAll_L2, if_neg one_ne, emd, bind_some']
          unfold f_X12_eatsSemicolon
          (try dsimp only)
          rw [if_pos hm4, em3, bind_some', bind_some']
        rw [ecC, ecM]
        exact key
      · left
        have hm4 : ¬ m2.2.1 = 4 := by
          rcases t7 with ⟨a, b⟩ | ⟨l, l1, l2, a, b, -⟩ | ⟨x, x1, a, b, -⟩ | ⟨a, b⟩ | ⟨a, b⟩
          · rw [b]; decide
          · rw [b]; decide
          · rw [b]; decide
          · exact absurd a hpart
          · rw [b]; decide
        refine ⟨names', lines', nums', fl', ta', re', ro', ha', bo', mu', lo', ki', wi', ba', md', at_', pu', be', st', bw', bd', named', c2, fl2', ta2', re2', ro2', ha2', bo2', mu2', lo2', nn2', ki2', wi2', ba2', md2', at2', pu2', be2', st2', bw2', bd2', name', sorts', nums2', m2, p', hs2, hpart, ?_, ?_⟩
        · rw [ecl, bind_some', f_X5_read_L50, if_neg hi9, if_neg one_ne]
          (try dsimp only)
          rw [if_neg hpart]
        · rw [f_X12_readAll_L2, if_neg one_ne, emd, bind_some']
          unfold f_X12_eatsSemicolon
          (try dsimp only)
          rw [if_neg hm4, bind_some', f_X12_readAll_L2, if_pos rfl]
    · right
      refine ⟨F, q, hBd, hq, ⟨o, b1, b2, b3, ?_⟩, o2, b5, b6, b7, ?_⟩
      · rw [ecl, bind_some', f_X5_read_L50]
        by_cases z : 900 ≤ nI i
        · rw [if_pos z]
        · rw [if_neg z, if_pos b1]
      · rw [f_X12_readAll_L2, if_neg one_ne, emd, bind_some']
        unfold f_X12_eatsSemicolon
        rw [if_neg (show ¬ o2.2.2.2.2.2.2.2.2.2.2.2.2.2.2.2.2.2.2.2.2.2.2.2.1 = 4 by rw [b5]; decide), bind_some', f_X12_readAll_L2, if_pos rfl]
