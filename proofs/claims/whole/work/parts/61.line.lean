/-! the lines of the text -/
theorem j_partL {e : Nat} (he : e ≤ 900) {tc tm : (Nat → Int32)} {bt : Nat → Nat} (h : tpB e tc tm bt) {C : Int64} {k : Nat} {l0 : List Nat} (hk : kwOK C k l0) (lo hi : Nat) (lo' hi' : Int32) (h1 : lo' = nI lo) (h2 : hi' = nI hi) (hlo : lo ≤ 999) (hhi : hi ≤ 999) {p : Nat} {c m : (Int32 × Int32 × Int32 × Int32 × Int64)} (ht : tkR e p c m) (f fp f2 wr : Int32) :
    (∃ x p' c1 c2 m2, lo ≤ x ∧ x ≤ hi ∧ f_X5_readWhole C lo' hi' tc f fp (nI e) c.1 c.2.1 c.2.2.1 c.2.2.2.1 c.2.2.2.2 = some (1, f, fp, c1) ∧ c1.2.2.2.1 = nI x ∧ f_X5_next tc (nI e) c1.1 c1.2.1 c1.2.2.1 c1.2.2.2.1 c1.2.2.2.2 = some c2 ∧ f_X12_readPart k lo' hi' tm (nI e) m.1 m.2.1 m.2.2.1 m.2.2.2.1 f2 wr m.2.2.2.2 = some (nI x, m2.1, m2.2.1, m2.2.2.1, m2.2.2.2.1, f2, wr, m2.2.2.2.2) ∧ tkR e p' c2 m2 ∧ p ≤ p') ∨
    (∃ F q o o2, badF F ∧ q ≤ e ∧ f_X5_readWhole C lo' hi' tc f fp (nI e) c.1 c.2.1 c.2.2.1 c.2.2.2.1 c.2.2.2.2 = some o ∧ o.1 = 0 ∧ o.2.1 = F ∧ o.2.2.1 = nI q ∧ f_X12_readPart k lo' hi' tm (nI e) m.1 m.2.1 m.2.2.1 m.2.2.2.1 f2 wr m.2.2.2.2 = some o2 ∧ o2.2.2.1 = 5 ∧ o2.2.2.2.2.2.1 = F ∧ o2.2.2.2.2.2.2.1 = nI q) := by
  subst h1; subst h2
  exact j_part he h hk lo hi hlo hhi ht f fp f2 wr
theorem m_names {c : Nat} (hc : c < 24) (w : Int64) (s k : Int32) (name : Nat → Int64) (sorts nums : (Nat → Int32)) : f_X12_names w s k (nI c) name sorts nums = some (nI (c + 1), vp_updL name c w, upd sorts c s, upd nums c k) := by
  unfold f_X12_names
  simp only [inb_nI hc (show 24 < 2 ^ 31 by decide), gd_true, nm_eq, nI_clamp (show c < 2 ^ 31 by omega), nI_1]
/-- the river's line -/
theorem j_lineRiver {e : Nat} (he : e ≤ 900) {tc tm : (Nat → Int32)} {bt : Nat → Nat} (h : tpB e tc tm bt) {p : Nat} {c1 m1 : (Int32 × Int32 × Int32 × Int32 × Int64)} (ht : tkR e p c1 m1) {sp s pl n : Int32} {w : Int64} (hg : f_X12_goesOn tm (nI e) sp s pl n w = some m1) (f fp f2 wr fl ta fl2 ta2 : Int32) :
    (∃ x y p' c2 m2, 1 ≤ x ∧ x ≤ 900 ∧ 2 ≤ y ∧ y ≤ 40 ∧ f_X5_readRiver tc f fp fl ta (nI e) c1.1 c1.2.1 c1.2.2.1 c1.2.2.2.1 c1.2.2.2.2 = some (1, f, fp, nI x, nI y, c2) ∧ f_X12_readRiver_B15 fl2 ta2 tm (nI e) sp s pl n f2 wr w = some (nI x, nI y, m2.1, m2.2.1, m2.2.2.1, m2.2.2.2.1, f2, wr, m2.2.2.2.2) ∧ tkR e p' c2 m2 ∧ p ≤ p') ∨
    (∃ F q o o2, badF F ∧ q ≤ e ∧ f_X5_readRiver tc f fp fl ta (nI e) c1.1 c1.2.1 c1.2.2.1 c1.2.2.2.1 c1.2.2.2.2 = some o ∧ o.1 = 0 ∧ o.2.1 = F ∧ o.2.2.1 = nI q ∧ f_X12_readRiver_B15 fl2 ta2 tm (nI e) sp s pl n f2 wr w = some o2 ∧ o2.2.2.2.1 = 5 ∧ o2.2.2.2.2.2.2.1 = F ∧ o2.2.2.2.2.2.2.2.1 = nI q) := by
  unfold f_X5_readRiver f_X12_readRiver_B15
  rw [hg, bind_some']
  rcases j_partL he h kw_flow 1 900 1 900 rfl rfl (by decide) (by decide) ht f fp f2 wr with ⟨x, p2, c2, c3, m2, x1, x2, e1, hv, e2, e3, ht2, hp2⟩ | ⟨F, q, o, o2, hF, hq, e1, b1, b2, b3, e3, b5, b6, b7⟩
  · rw [e1, e3, bind_some', bind_some']
    (try dsimp only)
    rw [if_neg one_ne, e2, bind_some', hv]
    rcases j_partL he h kw_tape 2 40 2 40 rfl rfl (by decide) (by decide) ht2 f fp f2 wr with ⟨y, p3, c4, c5, m3, y1, y2, e4, hv2, e5, e6, ht3, hp3⟩ | ⟨F, q, o, o2, hF, hq, e4, b1, b2, b3, e6, b5, b6, b7⟩
    · left
      rw [e4, e6, bind_some', bind_some']
      (try dsimp only)
      rw [if_neg one_ne, e5, bind_some', hv2, if_neg (tkR_5 ht3)]
      exact ⟨x, y, p3, c5, m3, x1, x2, y1, y2, rfl, rfl, ht3, by omega⟩
    · right
      rw [e4, e6, bind_some', bind_some', if_pos b1, if_pos b5]
      exact ⟨F, q, _, _, hF, hq, rfl, rfl, b2, b3, rfl, b5, b6, b7⟩
  · right
    rw [e1, e3, bind_some', bind_some', if_pos b1, b5, d_readPart, bind_some']
    (try dsimp only)
    rw [if_pos rfl]
    exact ⟨F, q, _, _, hF, hq, rfl, rfl, b2, b3, rfl, rfl, b6, b7⟩
/-- a reach's line -/
theorem j_lineReach {e : Nat} (he : e ≤ 900) {tc tm : (Nat → Int32)} {bt : Nat → Nat} (h : tpB e tc tm bt) {c : Nat} (hc : c < 24) {N : Nat → List Nat} {names name : Nat → Int64} (hn : lnR c N cw names) (hm : lnR c N mw name) {r : Nat} (hr : r < 6) {p : Nat} {c1 m1 : (Int32 × Int32 × Int32 × Int32 × Int64)} (ht : tkR e p c1 m1) {fl sp s pl n f0 w0 f2 wr : Int32} {w : Int64} (hb : f_X12_lineBegins (nI r) 6 fl tm (nI e) sp s pl n f0 w0 w = some (m1.1, m1.2.1, m1.2.2.1, m1.2.2.2.1, f2, wr, m1.2.2.2.2)) (f fp : Int32) (lines nums ki wi ba ki2 wi2 ba2 md2 sorts nums2 : (Nat → Int32)) :
    (∃ l k x y p' c2 m2, lv l ∧ l.length ≤ 8 ∧ k ≤ 3 ∧ 3 ≤ x ∧ x ≤ 40 ∧ 1 ≤ y ∧ y ≤ 99 ∧ f_X5_readReach tc names lines nums f fp (nI r) ki wi ba (nI c) (nI e) c1.1 c1.2.1 c1.2.2.1 c1.2.2.2.1 c1.2.2.2.2 = some (1, vp_updL names c (lN (cw l)), upd lines c 1, upd nums c (nI r), f, fp, nI (r + 1), upd ki r (nI k), upd wi r (nI x), upd ba r (nI y), nI (c + 1), c2) ∧ f_X12_readReach fl (nI r) (nI c) ki2 wi2 ba2 md2 name sorts nums2 tm (nI e) sp s pl n f0 w0 w = some (nI (r + 1), nI (c + 1), upd ki2 r (nI k), upd wi2 r (nI x), upd ba2 r (nI y), upd md2 r (-1), vp_updL name c (lN (mw l)), upd sorts c 0, upd nums2 c (nI r), m2.1, m2.2.1, m2.2.2.1, m2.2.2.2.1, f2, wr, m2.2.2.2.2) ∧ tkR e p' c2 m2 ∧ p ≤ p') ∨
    (∃ F q o o2, badF F ∧ q ≤ e ∧ f_X5_readReach tc names lines nums f fp (nI r) ki wi ba (nI c) (nI e) c1.1 c1.2.1 c1.2.2.1 c1.2.2.2.1 c1.2.2.2.2 = some o ∧ o.1 = 0 ∧ o.2.2.2.2.1 = F ∧ o.2.2.2.2.2.1 = nI q ∧ f_X12_readReach fl (nI r) (nI c) ki2 wi2 ba2 md2 name sorts nums2 tm (nI e) sp s pl n f0 w0 w = some o2 ∧ o2.2.2.2.2.2.2.2.2.2.2.1 = 5 ∧ o2.2.2.2.2.2.2.2.2.2.2.2.2.2.1 = F ∧ o2.2.2.2.2.2.2.2.2.2.2.2.2.2.2.1 = nI q) := by
  unfold f_X5_readReach f_X12_readReach
  rw [hb, bind_some']
  (try dsimp only)
  rcases j_fresh he h hc hn hm 1 (nI r) lines nums ht f fp f2 wr with ⟨l, p2, c2, m2, l1, l2, e1, e2, ht2, hp2⟩ | ⟨F, q, o, o2, hF, hq, e1, b1, b2, b3, e2, b5, b6, b7⟩
  · rw [e1, e2, bind_some', bind_some']
    (try dsimp only)
    rw [if_neg one_ne]
    rcases j_kind he h ht2 f2 wr with ⟨k, p3, c3, m3, hk, e3, e4, e5, ht3, hp3⟩ | ⟨q, o2, hq, e3, e4, e5, b5, b6, b7⟩
    · have hk1 : ¬ nI k = -1 := by
        rw [i32_eq, nI_toInt (by omega)]
        have : (-1 : Int32).toInt = -1 := rfl
        omega
      rw [e3, e5, bind_some', bind_some']
      (try dsimp only)
      rw [if_neg hk1, inb_nI (show r < 6 by omega) (by decide), gd_true, nm_eq, e4, bind_some']
      rcases j_partL he h kw_wide 3 40 3 40 rfl rfl (by decide) (by decide) ht3 f fp f2 wr with ⟨x, p4, c4, c5, m4, x1, x2, e6, hv, e7, e8, ht4, hp4⟩ | ⟨F, q, o, o2, hF, hq, e6, b1, b2, b3, e8, b5, b6, b7⟩
      · rw [e6, e8, bind_some', bind_some']
        (try dsimp only)
        rw [if_neg one_ne, gd_true, nm_eq, e7, bind_some', hv]
        rcases j_partL he h kw_bank 1 99 1 99 rfl rfl (by decide) (by decide) ht4 f fp f2 wr with ⟨y, p5, c6, c7, m5, y1, y2, e9, hv2, e10, e11, ht5, hp5⟩ | ⟨F, q, o, o2, hF, hq, e9, b1, b2, b3, e11, b5, b6, b7⟩
        · left
          rw [e9, e11, bind_some', bind_some']
          (try dsimp only)
          rw [if_neg one_ne, gd_true, nm_eq, e10, bind_some', hv2, if_neg (tkR_5 ht5), m_names hc, bind_some']
          simp only [inb_nI (show r < 6 by omega) (show 6 < 2 ^ 31 by decide), gd_true, nm_eq, nI_1, nI_clamp (show r < 2 ^ 31 by omega)]
          exact ⟨l, k, x, y, p5, c7, m5, l1, l2, hk, x1, x2, y1, y2, rfl, rfl, ht5, by omega⟩
        · right
          rw [e9, e11, bind_some', bind_some', if_pos b1, if_pos b5]
          exact ⟨F, q, _, _, hF, hq, rfl, rfl, b2, b3, rfl, b5, b6, b7⟩
      · right
        rw [e6, e8, bind_some', bind_some', if_pos b1, b5, d_readPart, bind_some']
        (try dsimp only)
        rw [if_pos rfl]
        exact ⟨F, q, _, _, hF, hq, rfl, rfl, b2, b3, rfl, rfl, b6, b7⟩
    · right
      rw [e3, e5, bind_some', bind_some', if_pos rfl, b5, d_readPart, bind_some']
      (try dsimp only)
      rw [d_readPart, bind_some']
      (try dsimp only)
      rw [if_pos rfl]
      exact ⟨1, q, _, _, ⟨1, by decide, by decide, rfl⟩, hq, rfl, rfl, rfl, e4, rfl, rfl, b6, b7⟩
  · right
    rw [e1, e2, bind_some', bind_some', if_pos b1, b5, d_readKind, bind_some']
    (try dsimp only)
    rw [d_readPart, bind_some']
    (try dsimp only)
    rw [d_readPart, bind_some']
    (try dsimp only)
    rw [if_pos rfl]
    exact ⟨F, q, _, _, hF, hq, rfl, rfl, b2, b3, rfl, rfl, b6, b7⟩
/-- a hand's line -/
theorem j_lineHand {e : Nat} (he : e ≤ 900) {tc tm : (Nat → Int32)} {bt : Nat → Nat} (h : tpB e tc tm bt) {c : Nat} (hc : c < 24) {N : Nat → List Nat} {names name : Nat → Int64} (hn : lnR c N cw names) (hm : lnR c N mw name) {r : Nat} (hr : r < 6) {p : Nat} {c1 m1 : (Int32 × Int32 × Int32 × Int32 × Int64)} (ht : tkR e p c1 m1) {fl sp s pl n f0 w0 f2 wr : Int32} {w : Int64} (hb : f_X12_lineBegins (nI r) 6 fl tm (nI e) sp s pl n f0 w0 w = some (m1.1, m1.2.1, m1.2.2.1, m1.2.2.2.1, f2, wr, m1.2.2.2.2)) (f fp : Int32) (lines nums st st2 sorts nums2 : (Nat → Int32)) :
    (∃ l x p' c2 m2, lv l ∧ l.length ≤ 8 ∧ 1 ≤ x ∧ x ≤ 99 ∧ f_X5_readHand tc names lines nums f fp (nI r) st (nI c) (nI e) c1.1 c1.2.1 c1.2.2.1 c1.2.2.2.1 c1.2.2.2.2 = some (1, vp_updL names c (lN (cw l)), upd lines c 4, upd nums c (nI r), f, fp, nI (r + 1), upd st r (nI x), nI (c + 1), c2) ∧ f_X12_readHand fl (nI r) (nI c) st2 name sorts nums2 tm (nI e) sp s pl n f0 w0 w = some (nI (r + 1), nI (c + 1), upd st2 r (nI x), vp_updL name c (lN (mw l)), upd sorts c 2, upd nums2 c (nI r), m2.1, m2.2.1, m2.2.2.1, m2.2.2.2.1, f2, wr, m2.2.2.2.2) ∧ tkR e p' c2 m2 ∧ p ≤ p') ∨
    (∃ F q o o2, badF F ∧ q ≤ e ∧ f_X5_readHand tc names lines nums f fp (nI r) st (nI c) (nI e) c1.1 c1.2.1 c1.2.2.1 c1.2.2.2.1 c1.2.2.2.2 = some o ∧ o.1 = 0 ∧ o.2.2.2.2.1 = F ∧ o.2.2.2.2.2.1 = nI q ∧ f_X12_readHand fl (nI r) (nI c) st2 name sorts nums2 tm (nI e) sp s pl n f0 w0 w = some o2 ∧ o2.2.2.2.2.2.2.2.1 = 5 ∧ o2.2.2.2.2.2.2.2.2.2.2.1 = F ∧ o2.2.2.2.2.2.2.2.2.2.2.2.1 = nI q) := by
  unfold f_X5_readHand f_X12_readHand
  rw [hb, bind_some']
  (try dsimp only)
  rcases j_fresh he h hc hn hm 4 (nI r) lines nums ht f fp f2 wr with ⟨l, p2, c2, m2, l1, l2, e1, e2, ht2, hp2⟩ | ⟨F, q, o, o2, hF, hq, e1, b1, b2, b3, e2, b5, b6, b7⟩
  · rw [e1, e2, bind_some', bind_some']
    (try dsimp only)
    rw [if_neg one_ne]
    rcases j_partL he h kw_strong 1 99 1 99 rfl rfl (by decide) (by decide) ht2 f fp f2 wr with ⟨x, p4, c4, c5, m4, x1, x2, e6, hv, e7, e8, ht4, hp4⟩ | ⟨F, q, o, o2, hF, hq, e6, b1, b2, b3, e8, b5, b6, b7⟩
    · left
      rw [e6, e8, bind_some', bind_some']
      (try dsimp only)
      rw [if_neg one_ne, inb_nI (show r < 6 by omega) (by decide), gd_true, nm_eq, e7, bind_some', hv, if_neg (tkR_5 ht4), m_names hc, bind_some', gd_true, nm_eq, nm_eq, nm_eq, nI_1, nI_clamp (show r < 2 ^ 31 by omega)]
      exact ⟨l, x, p4, c5, m4, l1, l2, x1, x2, rfl, rfl, ht4, by omega⟩
    · right
      rw [e6, e8, bind_some', bind_some', if_pos b1, if_pos b5]
      exact ⟨F, q, _, _, hF, hq, rfl, rfl, b2, b3, rfl, b5, b6, b7⟩
  · right
    rw [e1, e2, bind_some', bind_some', if_pos b1, b5, d_readPart, bind_some']
    (try dsimp only)
    rw [if_pos rfl]
    exact ⟨F, q, _, _, hF, hq, rfl, rfl, b2, b3, rfl, rfl, b6, b7⟩
/-- a boat's line -/
theorem j_lineBoat {e : Nat} (he : e ≤ 900) {tc tm : (Nat → Int32)} {bt : Nat → Nat} (h : tpB e tc tm bt) {c : Nat} (hc : c < 24) {N : Nat → List Nat} {names name : Nat → Int64} (hn : lnR c N cw names) (hm : lnR c N mw name) {r : Nat} (hr : r < 5) {p : Nat} {c1 m1 : (Int32 × Int32 × Int32 × Int32 × Int64)} (ht : tkR e p c1 m1) {fl sp s pl n f0 w0 f2 wr : Int32} {w : Int64} (hb : f_X12_lineBegins (nI r) 5 fl tm (nI e) sp s pl n f0 w0 w = some (m1.1, m1.2.1, m1.2.2.1, m1.2.2.2.1, f2, wr, m1.2.2.2.2)) (f fp : Int32) (lines nums bw bd bw2 bd2 sorts nums2 : (Nat → Int32)) :
    (∃ l x y p' c2 m2, lv l ∧ l.length ≤ 8 ∧ 1 ≤ x ∧ x ≤ 30 ∧ 0 ≤ y ∧ y ≤ 60 ∧ f_X5_readBoat tc names lines nums f fp (nI r) bw bd (nI c) (nI e) c1.1 c1.2.1 c1.2.2.1 c1.2.2.2.1 c1.2.2.2.2 = some (1, vp_updL names c (lN (cw l)), upd lines c 5, upd nums c (nI r), f, fp, nI (r + 1), upd bw r (nI x), upd bd r (nI y), nI (c + 1), c2) ∧ f_X12_readBoat fl (nI r) (nI c) bw2 bd2 name sorts nums2 tm (nI e) sp s pl n f0 w0 w = some (nI (r + 1), nI (c + 1), upd bw2 r (nI x), upd bd2 r (nI y), vp_updL name c (lN (mw l)), upd sorts c 2, upd nums2 c (nI r), m2.1, m2.2.1, m2.2.2.1, m2.2.2.2.1, f2, wr, m2.2.2.2.2) ∧ tkR e p' c2 m2 ∧ p ≤ p') ∨
    (∃ F q o o2, badF F ∧ q ≤ e ∧ f_X5_readBoat tc names lines nums f fp (nI r) bw bd (nI c) (nI e) c1.1 c1.2.1 c1.2.2.1 c1.2.2.2.1 c1.2.2.2.2 = some o ∧ o.1 = 0 ∧ o.2.2.2.2.1 = F ∧ o.2.2.2.2.2.1 = nI q ∧ f_X12_readBoat fl (nI r) (nI c) bw2 bd2 name sorts nums2 tm (nI e) sp s pl n f0 w0 w = some o2 ∧ o2.2.2.2.2.2.2.2.2.1 = 5 ∧ o2.2.2.2.2.2.2.2.2.2.2.2.1 = F ∧ o2.2.2.2.2.2.2.2.2.2.2.2.2.1 = nI q) := by
  unfold f_X5_readBoat f_X12_readBoat
  rw [hb, bind_some']
  (try dsimp only)
  rcases j_fresh he h hc hn hm 5 (nI r) lines nums ht f fp f2 wr with ⟨l, p2, c2, m2, l1, l2, e1, e2, ht2, hp2⟩ | ⟨F, q, o, o2, hF, hq, e1, b1, b2, b3, e2, b5, b6, b7⟩
  · rw [e1, e2, bind_some', bind_some']
    (try dsimp only)
    rw [if_neg one_ne]
    rcases j_partL he h kw_wide 1 30 1 30 rfl rfl (by decide) (by decide) ht2 f fp f2 wr with ⟨x, p4, c4, c5, m4, x1, x2, e6, hv, e7, e8, ht4, hp4⟩ | ⟨F, q, o, o2, hF, hq, e6, b1, b2, b3, e8, b5, b6, b7⟩
    · rw [e6, e8, bind_some', bind_some']
      (try dsimp only)
      rw [if_neg one_ne, inb_nI (show r < 5 by omega) (by decide), gd_true, nm_eq, e7, bind_some', hv]
      rcases j_partL he h kw_deep 0 60 0 60 rfl rfl (by decide) (by decide) ht4 f fp f2 wr with ⟨y, p5, c6, c7, m5, y1, y2, e9, hv2, e10, e11, ht5, hp5⟩ | ⟨F, q, o, o2, hF, hq, e9, b1, b2, b3, e11, b5, b6, b7⟩
      · left
        rw [e9, e11, bind_some', bind_some']
        (try dsimp only)
        rw [if_neg one_ne, gd_true, nm_eq, e10, bind_some', hv2, if_neg (tkR_5 ht5), m_names hc, bind_some']
        simp only [inb_nI (show r < 5 by omega) (show 5 < 2 ^ 31 by decide), gd_true, nm_eq, nI_1, nI_clamp (show r < 2 ^ 31 by omega)]
        exact ⟨l, x, y, p5, c7, m5, l1, l2, x1, x2, y1, y2, rfl, rfl, ht5, by omega⟩
      · right
        rw [e9, e11, bind_some', bind_some', if_pos b1, if_pos b5]
        exact ⟨F, q, _, _, hF, hq, rfl, rfl, b2, b3, rfl, b5, b6, b7⟩
    · right
      rw [e6, e8, bind_some', bind_some', if_pos b1, b5, d_readPart, bind_some']
      (try dsimp only)
      rw [if_pos rfl]
      exact ⟨F, q, _, _, hF, hq, rfl, rfl, b2, b3, rfl, rfl, b6, b7⟩
  · right
    rw [e1, e2, bind_some', bind_some', if_pos b1, b5, d_readPart, bind_some']
    (try dsimp only)
    rw [d_readPart, bind_some']
    (try dsimp only)
    rw [if_pos rfl]
    exact ⟨F, q, _, _, hF, hq, rfl, rfl, b2, b3, rfl, rfl, b6, b7⟩
