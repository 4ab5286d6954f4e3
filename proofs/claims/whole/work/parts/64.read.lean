/-! a line -/
def SR (e p : Nat) (names : Nat → Int64) (lines nums : (Nat → Int32)) (fl ta re ro ha bo mu lo : Int32) (ki wi ba md at_ pu be st bw bd : (Nat → Int32)) (named : Int32) (ct : (Int32 × Int32 × Int32 × Int32 × Int64)) (fl2 ta2 re2 ro2 ha2 bo2 mu2 lo2 nn2 : Int32) (ki2 wi2 ba2 md2 at2 pu2 be2 st2 bw2 bd2 : (Nat → Int32)) (name : Nat → Int64) (sorts nums2 : (Nat → Int32)) (mt : (Int32 × Int32 × Int32 × Int32 × Int64)) : Prop :=
  ∃ (R : Nat → Nat → Nat) (l c : Nat) (N : Nat → List Nat), drOK R l ∧ drF R l fl ta re ro ha bo mu lo ki wi ba md at_ pu be st bw bd ∧ (∀ r, R 0 0 ≤ r → r < 6 → md r = -1) ∧ drF R l fl2 ta2 re2 ro2 ha2 bo2 mu2 lo2 ki2 wi2 ba2 md2 at2 pu2 be2 st2 bw2 bd2 ∧ c = R 0 0 + R 0 1 + R 0 2 + R 0 3 ∧ named = nI c ∧ nn2 = nI c ∧ lnR c N cw names ∧ lnR c N mw name ∧ nmS (R 0 0) (R 0 1) c lines nums sorts nums2 ∧ tkR e p ct mt
/-- how a line begins in the class -/
theorem c_begin {x1 : Int32} (hx0 : ¬ x1 = 0) (hxm : ¬ x1 = -1) {tc : (Nat → Int32)} {names : Nat → Int64} {lines nums : (Nat → Int32)} {f fp : Int32} {fl ta re ro ha bo mu lo : Int32} {ki wi ba md at_ pu be st bw bd : (Nat → Int32)} {named en at0 s pl v : Int32} {cd : Int64} (hl : f_X5_lineOfWord s cd = some x1) {full : Int32} (hfull : f_X5_isFull x1 re ro ha bo = some full) {F : Nat} (hF : F ≤ 900) (hfl : fl = nI F) :
    (¬ full = 0 → ∃ o, f_X5_readLine tc names lines nums f fp fl ta re ro ha bo mu lo ki wi ba md at_ pu be st bw bd named en at0 s pl v cd = some o ∧ o.1 = 0 ∧ o.2.2.2.2.1 = 5 ∧ o.2.2.2.2.2.1 = pl) ∧ (full = 0 → F = 0 → ∃ o, f_X5_readLine tc names lines nums f fp fl ta re ro ha bo mu lo ki wi ba md at_ pu be st bw bd named en at0 s pl v cd = some o ∧ o.1 = 0 ∧ o.2.2.2.2.1 = 6 ∧ o.2.2.2.2.2.1 = pl) ∧ (full = 0 → 1 ≤ F → f_X5_readLine tc names lines nums f fp fl ta re ro ha bo mu lo ki wi ba md at_ pu be st bw bd named en at0 s pl v cd = f_X5_readLine_B75 x1 tc names lines nums f fp fl ta re ro ha bo mu lo ki wi ba md at_ pu be st bw bd named en at0 s pl v cd) := by
  subst hfl
  unfold f_X5_readLine f_X5_readLine_B31 f_X5_readLine_B46
  rw [hl, bind_some', if_neg hxm]
  simp only [if_neg hx0, hfull, bind_some']
  refine ⟨fun h => ?_, fun h h0 => ?_, fun h h0 => ?_⟩
  · simp only [if_neg h]
    by_cases z : nI F ≤ 0
    · rw [if_pos z]; exact ⟨_, rfl, rfl, rfl, rfl⟩
    · rw [if_neg z]; exact ⟨_, rfl, rfl, rfl, rfl⟩
  · subst h0
    simp only [if_pos h, if_pos (show nI 0 ≤ 0 by decide), if_true]
    exact ⟨_, rfl, rfl, rfl, rfl⟩
  · simp only [if_pos h, if_neg (show ¬ nI F ≤ 0 from nI_nle (by omega) (by omega)), if_neg one_ne]
theorem d_lineReach {c : Nat} (hc : c ≤ 24) {re fl sz sp s pl n f0 w0 sp1 pl1 n1 F W mu lo : Int32} {w w1 : Int64} {tm : (Nat → Int32)} {name : Nat → Int64} {r1 r2 r3 r4 sorts nums2 : (Nat → Int32)} (hb : f_X12_lineBegins re 6 fl tm sz sp s pl n f0 w0 w = some (sp1, 5, pl1, n1, F, W, w1)) : ∃ o2, f_X12_readReach fl re (nI c) r1 r2 r3 r4 name sorts nums2 tm sz sp s pl n f0 w0 w = some o2 ∧ o2.2.2.2.2.2.2.2.2.2.2.1 = 5 ∧ o2.2.2.2.2.2.2.2.2.2.2.2.2.2.1 = F ∧ o2.2.2.2.2.2.2.2.2.2.2.2.2.2.2.1 = W := by
  unfold f_X12_readReach
  rw [hb, bind_some']
  (try dsimp only)
  rw [d_readFresh hc, bind_some']
  (try dsimp only)
  rw [d_readKind, bind_some']
  (try dsimp only)
  rw [d_readPart, bind_some']
  (try dsimp only)
  rw [d_readPart, bind_some']
  (try dsimp only)
  rw [if_pos rfl]
  exact ⟨_, rfl, rfl, rfl, rfl⟩
theorem d_lineRope {c : Nat} (hc : c ≤ 24) {re fl sz sp s pl n f0 w0 sp1 pl1 n1 F W mu lo : Int32} {w w1 : Int64} {tm : (Nat → Int32)} {name : Nat → Int64} {r1 r2 r3 r4 sorts nums2 : (Nat → Int32)} (hb : f_X12_lineBegins re 7 fl tm sz sp s pl n f0 w0 w = some (sp1, 5, pl1, n1, F, W, w1)) : ∃ o2, f_X12_readRope fl re (nI c) r1 r2 r3 name sorts nums2 tm sz sp s pl n f0 w0 w = some o2 ∧ o2.2.2.2.2.2.2.2.2.2.1 = 5 ∧ o2.2.2.2.2.2.2.2.2.2.2.2.2.1 = F ∧ o2.2.2.2.2.2.2.2.2.2.2.2.2.2.1 = W := by
  unfold f_X12_readRope
  rw [hb, bind_some']
  (try dsimp only)
  rw [d_readFresh hc, bind_some']
  (try dsimp only)
  rw [d_mustBe, bind_some']
  (try dsimp only)
  rw [d_knownOne hc, bind_some']
  (try dsimp only)
  rw [d_goesOn, bind_some']
  (try dsimp only)
  rw [d_readPart, bind_some']
  (try dsimp only)
  rw [d_readPart, bind_some']
  (try dsimp only)
  rw [if_pos rfl]
  exact ⟨_, rfl, rfl, rfl, rfl⟩
theorem d_lineHand {c : Nat} (hc : c ≤ 24) {re fl sz sp s pl n f0 w0 sp1 pl1 n1 F W mu lo : Int32} {w w1 : Int64} {tm : (Nat → Int32)} {name : Nat → Int64} {r1 r2 r3 r4 sorts nums2 : (Nat → Int32)} (hb : f_X12_lineBegins re 6 fl tm sz sp s pl n f0 w0 w = some (sp1, 5, pl1, n1, F, W, w1)) : ∃ o2, f_X12_readHand fl re (nI c) r1 name sorts nums2 tm sz sp s pl n f0 w0 w = some o2 ∧ o2.2.2.2.2.2.2.2.1 = 5 ∧ o2.2.2.2.2.2.2.2.2.2.2.1 = F ∧ o2.2.2.2.2.2.2.2.2.2.2.2.1 = W := by
  unfold f_X12_readHand
  rw [hb, bind_some']
  (try dsimp only)
  rw [d_readFresh hc, bind_some']
  (try dsimp only)
  rw [d_readPart, bind_some']
  (try dsimp only)
  rw [if_pos rfl]
  exact ⟨_, rfl, rfl, rfl, rfl⟩
theorem d_lineBoat {c : Nat} (hc : c ≤ 24) {re fl sz sp s pl n f0 w0 sp1 pl1 n1 F W mu lo : Int32} {w w1 : Int64} {tm : (Nat → Int32)} {name : Nat → Int64} {r1 r2 r3 r4 sorts nums2 : (Nat → Int32)} (hb : f_X12_lineBegins re 5 fl tm sz sp s pl n f0 w0 w = some (sp1, 5, pl1, n1, F, W, w1)) : ∃ o2, f_X12_readBoat fl re (nI c) r1 r2 name sorts nums2 tm sz sp s pl n f0 w0 w = some o2 ∧ o2.2.2.2.2.2.2.2.2.1 = 5 ∧ o2.2.2.2.2.2.2.2.2.2.2.2.1 = F ∧ o2.2.2.2.2.2.2.2.2.2.2.2.2.1 = W := by
  unfold f_X12_readBoat
  rw [hb, bind_some']
  (try dsimp only)
  rw [d_readFresh hc, bind_some']
  (try dsimp only)
  rw [d_readPart, bind_some']
  (try dsimp only)
  rw [d_readPart, bind_some']
  (try dsimp only)
  rw [if_pos rfl]
  exact ⟨_, rfl, rfl, rfl, rfl⟩
theorem d_lineLoose {c : Nat} (hc : c ≤ 24) {re fl sz sp s pl n f0 w0 sp1 pl1 n1 F W mu lo : Int32} {w w1 : Int64} {tm : (Nat → Int32)} {name : Nat → Int64} {r1 r2 r3 r4 sorts nums2 : (Nat → Int32)} (hb : f_X12_lineBegins 0 1 fl tm sz sp s pl n f0 w0 w = some (sp1, 5, pl1, n1, F, W, w1)) : ∃ o2, f_X12_readLoose fl lo (nI c) name sorts nums2 tm sz sp s pl n f0 w0 w = some o2 ∧ o2.2.2.1 = 5 ∧ o2.2.2.2.2.2.1 = F ∧ o2.2.2.2.2.2.2.1 = W := by
  unfold f_X12_readLoose f_X12_readLoose_B39
  rw [hb, bind_some']
  (try dsimp only)
  rw [d_knownOne hc, bind_some', if_pos rfl]
  (try dsimp only)
  rw [d_goesOn, bind_some']
  (try dsimp only)
  rw [if_pos rfl]
  exact ⟨_, rfl, rfl, rfl, rfl⟩
theorem d_lineMud {c : Nat} (hc : c ≤ 24) {re fl sz sp s pl n f0 w0 sp1 pl1 n1 F W mu lo : Int32} {w w1 : Int64} {tm : (Nat → Int32)} {name : Nat → Int64} {r1 r2 r3 r4 sorts nums2 : (Nat → Int32)} (hb : f_X12_lineBegins 0 1 fl tm sz sp s pl n f0 w0 w = some (sp1, 5, pl1, n1, F, W, w1)) : ∃ o2, f_X12_readMud fl mu (nI c) r1 name sorts nums2 tm sz sp s pl n f0 w0 w = some o2 ∧ o2.2.2.2.1 = 5 ∧ o2.2.2.2.2.2.2.1 = F ∧ o2.2.2.2.2.2.2.2.1 = W := by
  unfold f_X12_readMud f_X12_readMud_B38
  rw [hb, bind_some']
  (try dsimp only)
  rw [d_knownOne hc, bind_some', if_pos rfl]
  (try dsimp only)
  rw [d_goesOn, bind_some']
  (try dsimp only)
  rw [d_readPart, bind_some']
  (try dsimp only)
  rw [if_pos rfl]
  exact ⟨_, rfl, rfl, rfl, rfl⟩
