/-! ropes, loose ones, mud -/
theorem j_must {e : Nat} (he : e ≤ 900) {tc tm : (Nat → Int32)} {bt : Nat → Nat} (h : tpB e tc tm bt) {C : Int64} {k : Nat} {l0 : List Nat} (hk : kwOK C k l0) {p : Nat} {c m : (Int32 × Int32 × Int32 × Int32 × Int64)} (ht : tkR e p c m) (f2 wr : Int32) :
    (∃ p' c2 m2, f_X5_isWord C c.2.1 c.2.2.2.2 = some 1 ∧ f_X5_next tc (nI e) c.1 c.2.1 c.2.2.1 c.2.2.2.1 c.2.2.2.2 = some c2 ∧ f_X12_mustBe k tm (nI e) m.1 m.2.1 m.2.2.1 m.2.2.2.1 f2 wr m.2.2.2.2 = some (m2.1, m2.2.1, m2.2.2.1, m2.2.2.2.1, f2, wr, m2.2.2.2.2) ∧ tkR e p' c2 m2 ∧ p ≤ p') ∨
    (∃ q o2, q ≤ e ∧ f_X5_isWord C c.2.1 c.2.2.2.2 = some 0 ∧ c.2.2.1 = nI q ∧ f_X12_mustBe k tm (nI e) m.1 m.2.1 m.2.2.1 m.2.2.2.1 f2 wr m.2.2.2.2 = some o2 ∧ o2.2.1 = 5 ∧ o2.2.2.2.2.1 = 1 ∧ o2.2.2.2.2.2.1 = nI q) := by
  obtain ⟨ol, hw⟩ := tkR_wd ht
  have h5 := tkR_5 ht
  obtain ⟨q, t1, t2, t3, t4, t5, t6, t7⟩ := id ht
  obtain ⟨w1, w2⟩ := j_isWord hw hk
  unfold f_X12_mustBe
  rw [w1, w2, bind_some']
  by_cases ho : ol = some l0
  · left
    obtain ⟨p1, c1, m1, ec, em, ht1, hp1, -⟩ := j_next he h t1 c.2.1 c.2.2.1 c.2.2.2.1 c.2.2.2.2 m.2.1 m.2.2.1 m.2.2.2.1 m.2.2.2.2 h5
    rw [if_pos ho, if_neg one_ne, t3, t4, ec, em]
    exact ⟨p1, c1, m1, rfl, rfl, rfl, ht1, hp1⟩
  · right
    rw [if_neg ho, if_pos rfl, n_flaw h5, bind_some']
    (try dsimp only)
    rw [d_goesOn]
    exact ⟨q, _, t2, rfl, t5, rfl, rfl, rfl, t6⟩
theorem lnR_up {c : Nat} {N : Nat → List Nat} {f : List Nat → Nat} {names : Nat → Int64} (h : lnR c N f names) {l : List Nat} (h1 : lv l) (h8 : l.length ≤ 8) : lnR (c + 1) (fun i => if i = c then l else N i) f (vp_updL names c (lN (f l))) := by
  intro i hi
  by_cases e : i = c
  · subst e
    rw [pk_uLs]
    simp [h1, h8]
  · rw [pk_uLn e]
    simp only [e, if_false]
    exact h i (by omega)
/-- a rope's line -/
theorem j_lineRope {e : Nat} (he : e ≤ 900) {tc tm : (Nat → Int32)} {bt : Nat → Nat} (h : tpB e tc tm bt) {c : Nat} (hc : c < 24) {N : Nat → List Nat} {names name : Nat → Int64} (hn : lnR c N cw names) (hm : lnR c N mw name) {r : Nat} (hr : r < 7) {nr : Nat} (hnr : nr ≤ 6) {lines nums sorts nums2 : (Nat → Int32)} (hcl : ∀ i, i < c → (lines i = 1 ∧ sorts i = 0 ∧ ∃ r, r < nr ∧ nums i = nI r ∧ nums2 i = nI r) ∨ (¬ lines i = 1 ∧ ¬ sorts i = 0)) {p : Nat} {c1 m1 : (Int32 × Int32 × Int32 × Int32 × Int64)} (ht : tkR e p c1 m1) {fl sp s pl n f0 w0 f2 wr : Int32} {w : Int64} (hb : f_X12_lineBegins (nI r) 7 fl tm (nI e) sp s pl n f0 w0 w = some (m1.1, m1.2.1, m1.2.2.1, m1.2.2.2.1, f2, wr, m1.2.2.2.2)) (f fp : Int32) (at_ pu be at2 pu2 be2 : (Nat → Int32)) :
    (∃ l k x y p' c2 m2, lv l ∧ l.length ≤ 8 ∧ k < nr ∧ 1 ≤ x ∧ x ≤ 9 ∧ 1 ≤ y ∧ y ≤ 99 ∧ f_X5_readRope tc names lines nums f fp (nI r) at_ pu be (nI c) (nI e) c1.1 c1.2.1 c1.2.2.1 c1.2.2.2.1 c1.2.2.2.2 = some (1, vp_updL names c (lN (cw l)), upd lines c 2, upd nums c (nI r), f, fp, nI (r + 1), upd at_ r (nI k), upd pu r (nI x), upd be r (nI y), nI (c + 1), c2) ∧ f_X12_readRope fl (nI r) (nI c) at2 pu2 be2 name sorts nums2 tm (nI e) sp s pl n f0 w0 w = some (nI (r + 1), nI (c + 1), upd at2 r (nI k), upd pu2 r (nI x), upd be2 r (nI y), vp_updL name c (lN (mw l)), upd sorts c 1, upd nums2 c (nI r), m2.1, m2.2.1, m2.2.2.1, m2.2.2.2.1, f2, wr, m2.2.2.2.2) ∧ tkR e p' c2 m2 ∧ p ≤ p') ∨
    (∃ F q o o2, badF F ∧ q ≤ e ∧ f_X5_readRope tc names lines nums f fp (nI r) at_ pu be (nI c) (nI e) c1.1 c1.2.1 c1.2.2.1 c1.2.2.2.1 c1.2.2.2.2 = some o ∧ o.1 = 0 ∧ o.2.2.2.2.1 = F ∧ o.2.2.2.2.2.1 = nI q ∧ f_X12_readRope fl (nI r) (nI c) at2 pu2 be2 name sorts nums2 tm (nI e) sp s pl n f0 w0 w = some o2 ∧ o2.2.2.2.2.2.2.2.2.2.1 = 5 ∧ o2.2.2.2.2.2.2.2.2.2.2.2.2.1 = F ∧ o2.2.2.2.2.2.2.2.2.2.2.2.2.2.1 = nI q) := by
  unfold f_X5_readRope f_X12_readRope
  rw [hb, bind_some']
  (try dsimp only)
  rcases j_fresh he h hc hn hm 2 (nI r) lines nums ht f fp f2 wr with ⟨l, p2, c2, m2, l1, l2, e1, e2, ht2, hp2⟩ | ⟨F, q, o, o2, hF, hq, e1, b1, b2, b3, e2, b5, b6, b7⟩
  · rw [e1, e2, bind_some', bind_some']
    (try dsimp only)
    rw [if_neg one_ne]
    rcases j_must he h kw_at ht2 f2 wr with ⟨p3, c3, m3, e3, e4, e5, ht3, hp3⟩ | ⟨q, o2, hq, e3, e4, e5, b5, b6, b7⟩
    · rw [e3, e5, bind_some', bind_some']
      (try dsimp only)
      rw [if_neg one_ne, e4, bind_some']
      rcases j_known (c := c) (c' := c + 1) (by omega) (by omega) (lnR_up hn l1 l2) hm (fun i hi => if_neg (by omega)) (line := 1) (sort := 0) (bd := nr) (lines := upd lines c 2) (nums := upd nums c (nI r)) (sorts := sorts) (nums2 := nums2) (fun i hi => by rw [upd_n _ _ (show i ≠ c by omega), upd_n _ _ (show i ≠ c by omega)]; exact hcl i hi) (fun i h1 h2 => by rw [show i = c by omega, upd_s]; decide) ht3 f fp f2 wr with ⟨k, hk, e6, e7⟩ | ⟨F, q, x, hF, hq, e6, e7⟩
      · have hk1 : ¬ nI k = -1 ∨ 2 ^ 31 ≤ k := by
          by_cases hk3 : k < 2 ^ 31
          · left
            rw [i32_eq, nI_toInt hk3]
            have : (-1 : Int32).toInt = -1 := rfl
            omega
          · right; omega
        have hnk : ¬ nI k = -1 := by
          rcases hk1 with z | z
          · exact z
          · exact absurd hnr (by omega)
        obtain ⟨-, t1, -, t3, t4, -⟩ := id ht3
        obtain ⟨p4, c4, m4, ec4, em4, ht4, hp4, -⟩ := j_next he h t1 c3.2.1 c3.2.2.1 c3.2.2.2.1 c3.2.2.2.2 m3.2.1 m3.2.2.1 m3.2.2.2.1 m3.2.2.2.2 (tkR_5 ht3)
        rw [← t3] at ec4
        rw [← t4] at em4
        rw [e6, e7, bind_some', bind_some']
        (try dsimp only)
        rw [if_neg hnk, inb_nI hr (by decide), gd_true, nm_eq, ec4, bind_some', em4, bind_some']
        rcases j_partL he h kw_pulls 1 9 1 9 rfl rfl (by decide) (by decide) ht4 f fp f2 wr with ⟨x, p5, c5, c6, m5, x1, x2, e8, hv, e9, e10, ht5, hp5⟩ | ⟨F, q, o, o2, hF, hq, e8, b1, b2, b3, e10, b5, b6, b7⟩
        · rw [e8, e10, bind_some', bind_some']
          (try dsimp only)
          rw [if_neg one_ne, gd_true, nm_eq, e9, bind_some', hv]
          rcases j_partL he h kw_bears 1 99 1 99 rfl rfl (by decide) (by decide) ht5 f fp f2 wr with ⟨y, p6, c7, c8, m6, y1, y2, e11, hv2, e12, e13, ht6, hp6⟩ | ⟨F, q, o, o2, hF, hq, e11, b1, b2, b3, e13, b5, b6, b7⟩
          · left
            rw [e11, e13, bind_some', bind_some']
            (try dsimp only)
            rw [if_neg one_ne, gd_true, nm_eq, e12, bind_some', hv2, if_neg (tkR_5 ht6), m_names hc, bind_some']
            simp only [inb_nI hr (show 7 < 2 ^ 31 by decide), gd_true, nm_eq, nI_1, nI_clamp (show r < 2 ^ 31 by omega)]
            exact ⟨l, k, x, y, p6, c8, m6, l1, l2, hk, x1, x2, y1, y2, rfl, rfl, ht6, by omega⟩
          · right
            rw [e11, e13, bind_some', bind_some', if_pos b1, if_pos b5]
            exact ⟨F, q, _, _, hF, hq, rfl, rfl, b2, b3, rfl, b5, b6, b7⟩
        · right
          rw [e8, e10, bind_some', bind_some', if_pos b1, b5, d_readPart, bind_some']
          (try dsimp only)
          rw [if_pos rfl]
          exact ⟨F, q, _, _, hF, hq, rfl, rfl, b2, b3, rfl, rfl, b6, b7⟩
      · right
        rw [e6, e7, bind_some', bind_some']
        (try dsimp only)
        rw [if_pos rfl, d_goesOn, bind_some']
        (try dsimp only)
        rw [d_readPart, bind_some']
        (try dsimp only)
        rw [d_readPart, bind_some']
        (try dsimp only)
        rw [if_pos rfl]
        exact ⟨F, q, _, _, hF, hq, rfl, rfl, rfl, rfl, rfl, rfl, rfl, rfl⟩
    · right
      rw [e3, e5, bind_some', bind_some', if_pos rfl, b5, d_knownOne (by omega), bind_some']
      (try dsimp only)
      rw [d_goesOn, bind_some']
      (try dsimp only)
      rw [d_readPart, bind_some']
      (try dsimp only)
      rw [d_readPart, bind_some']
      (try dsimp only)
      rw [if_pos rfl]
      exact ⟨1, q, _, _, ⟨1, by decide, by decide, rfl⟩, hq, rfl, rfl, rfl, e4, rfl, rfl, b6, b7⟩
  · right
    rw [e1, e2, bind_some', bind_some', if_pos b1, b5, d_mustBe, bind_some']
    (try dsimp only)
    rw [d_knownOne (by omega), bind_some']
    (try dsimp only)
    rw [d_goesOn, bind_some']
    (try dsimp only)
    rw [d_readPart, bind_some']
    (try dsimp only)
    rw [d_readPart, bind_some']
    (try dsimp only)
    rw [if_pos rfl]
    exact ⟨F, q, _, _, hF, hq, rfl, rfl, b2, b3, rfl, rfl, b6, b7⟩
/-- a loose rope's line -/
theorem j_lineLoose {e : Nat} (he : e ≤ 900) {tc tm : (Nat → Int32)} {bt : Nat → Nat} (h : tpB e tc tm bt) {c : Nat} (hc : c ≤ 24) {N : Nat → List Nat} {names name : Nat → Int64} (hn : lnR c N cw names) (hm : lnR c N mw name) {nr lo : Nat} (hnr : nr ≤ 7) (hlo : lo < 2 ^ nr) {lines nums sorts nums2 : (Nat → Int32)} (hcl : ∀ i, i < c → (lines i = 2 ∧ sorts i = 1 ∧ ∃ r, r < nr ∧ nums i = nI r ∧ nums2 i = nI r) ∨ (¬ lines i = 2 ∧ ¬ sorts i = 1)) {p : Nat} {c1 m1 : (Int32 × Int32 × Int32 × Int32 × Int64)} (ht : tkR e p c1 m1) {fl sp s pl n f0 w0 f2 wr : Int32} {w : Int64} (hb : f_X12_lineBegins 0 1 fl tm (nI e) sp s pl n f0 w0 w = some (m1.1, m1.2.1, m1.2.2.1, m1.2.2.2.1, f2, wr, m1.2.2.2.2)) (f fp : Int32) :
    (∃ k p' c2 m2, k < nr ∧ f_X5_readLoose tc names lines nums f fp (nI lo) (nI c) (nI e) c1.1 c1.2.1 c1.2.2.1 c1.2.2.2.1 c1.2.2.2.2 = some (1, f, fp, nI (lo ||| 2 ^ k), c2) ∧ f_X12_readLoose fl (nI lo) (nI c) name sorts nums2 tm (nI e) sp s pl n f0 w0 w = some (nI (lo ||| 2 ^ k), m2.1, m2.2.1, m2.2.2.1, m2.2.2.2.1, f2, wr, m2.2.2.2.2) ∧ tkR e p' c2 m2 ∧ p ≤ p') ∨
    (∃ F q o o2, badF F ∧ q ≤ e ∧ f_X5_readLoose tc names lines nums f fp (nI lo) (nI c) (nI e) c1.1 c1.2.1 c1.2.2.1 c1.2.2.2.1 c1.2.2.2.2 = some o ∧ o.1 = 0 ∧ o.2.1 = F ∧ o.2.2.1 = nI q ∧ f_X12_readLoose fl (nI lo) (nI c) name sorts nums2 tm (nI e) sp s pl n f0 w0 w = some o2 ∧ o2.2.2.1 = 5 ∧ o2.2.2.2.2.2.1 = F ∧ o2.2.2.2.2.2.2.1 = nI q) := by
  unfold f_X5_readLoose f_X12_readLoose
  rw [hb, bind_some']
  (try dsimp only)
  rcases j_known (c := c) (c' := c) (Nat.le_refl _) (by omega) hn hm (fun i hi => rfl) (line := 2) (sort := 1) (bd := nr) (lines := lines) (nums := nums) (sorts := sorts) (nums2 := nums2) hcl (fun i h1 h2 => absurd h2 (by omega)) ht f fp f2 wr with ⟨k, hk, e6, e7⟩ | ⟨F, q, x, hF, hq, e6, e7⟩
  · have hnk : ¬ nI k = -1 := by
      rw [i32_eq, nI_toInt (by omega)]
      have : (-1 : Int32).toInt = -1 := rfl
      omega
    obtain ⟨q, t1, t2, t3, t4, t5, t6, -⟩ := id ht
    have h5 := tkR_5 ht
    rw [e6, e7, bind_some', bind_some']
    (try dsimp only)
    rw [if_neg hnk, if_neg h5, isIn_nI (pow_k hnr hlo) (by omega), bit_nI (pow_k hnr hlo) (by omega), bind_some', bind_some']
    unfold f_X12_readLoose_B39
    by_cases hl : lo.testBit k = true
    · right
      rw [if_pos hl, if_neg one_ne, if_neg one_ne, n_flaw h5, bind_some']
      (try dsimp only)
      rw [d_goesOn, bind_some']
      (try dsimp only)
      rw [if_pos rfl]
      exact ⟨3, q, _, _, ⟨3, by decide, by decide, rfl⟩, t2, rfl, rfl, rfl, t5, rfl, rfl, rfl, t6⟩
    · left
      obtain ⟨p4, c4, m4, ec4, em4, ht4, hp4, -⟩ := j_next he h t1 c1.2.1 c1.2.2.1 c1.2.2.2.1 c1.2.2.2.2 m1.2.1 m1.2.2.1 m1.2.2.2.1 m1.2.2.2.2 h5
      rw [← t3] at ec4
      rw [← t4] at em4
      rw [if_neg hl, if_pos rfl, if_pos rfl, nm_eq, ec4, bind_some', em4, bind_some', if_neg (tkR_5 ht4), nm_eq, s_l' _ (by omega), nI_or]
      exact ⟨k, p4, c4, m4, hk, rfl, rfl, ht4, hp4⟩
  · right
    unfold f_X12_readLoose_B39
    rw [e6, e7, bind_some', bind_some']
    (try dsimp only)
    rw [if_pos rfl, if_pos rfl, d_goesOn, bind_some']
    (try dsimp only)
    rw [if_pos rfl]
    exact ⟨F, q, _, _, hF, hq, rfl, rfl, rfl, rfl, rfl, rfl, rfl, rfl⟩
/-- mud's line -/
theorem j_lineMud {e : Nat} (he : e ≤ 900) {tc tm : (Nat → Int32)} {bt : Nat → Nat} (h : tpB e tc tm bt) {c : Nat} (hc : c ≤ 24) {N : Nat → List Nat} {names name : Nat → Int64} (hn : lnR c N cw names) (hm : lnR c N mw name) {nr : Nat} (hnr : nr ≤ 6) {lines nums sorts nums2 : (Nat → Int32)} (hcl : ∀ i, i < c → (lines i = 1 ∧ sorts i = 0 ∧ ∃ r, r < nr ∧ nums i = nI r ∧ nums2 i = nI r) ∨ (¬ lines i = 1 ∧ ¬ sorts i = 0)) {md md2 : (Nat → Int32)} {g : Nat → Nat} (hg : ∀ r, r < nr → g r ≤ 901) (hmd : ∀ r, r < nr → md r = mI (g r)) (hmd2 : ∀ r, r < nr → md2 r = mI (g r)) {p : Nat} {c1 m1 : (Int32 × Int32 × Int32 × Int32 × Int64)} (ht : tkR e p c1 m1) {fl sp s pl n f0 w0 f2 wr : Int32} {w : Int64} (hb : f_X12_lineBegins 0 1 fl tm (nI e) sp s pl n f0 w0 w = some (m1.1, m1.2.1, m1.2.2.1, m1.2.2.2.1, f2, wr, m1.2.2.2.2)) (f fp : Int32) (mu : Nat) :
    (∃ k x p' c2 m2, k < nr ∧ x ≤ 900 ∧ f_X5_readMud tc names lines nums f fp (nI mu) md (nI c) (nI e) c1.1 c1.2.1 c1.2.2.1 c1.2.2.2.1 c1.2.2.2.2 = some (1, f, fp, nI (mu + 1), upd md k (nI x), c2) ∧ f_X12_readMud fl (nI mu) (nI c) md2 name sorts nums2 tm (nI e) sp s pl n f0 w0 w = some (nI (mu + 1), upd md2 k (nI x), m2.1, m2.2.1, m2.2.2.1, m2.2.2.2.1, f2, wr, m2.2.2.2.2) ∧ tkR e p' c2 m2 ∧ p ≤ p') ∨
    (∃ F q o o2, badF F ∧ q ≤ e ∧ f_X5_readMud tc names lines nums f fp (nI mu) md (nI c) (nI e) c1.1 c1.2.1 c1.2.2.1 c1.2.2.2.1 c1.2.2.2.2 = some o ∧ o.1 = 0 ∧ o.2.1 = F ∧ o.2.2.1 = nI q ∧ f_X12_readMud fl (nI mu) (nI c) md2 name sorts nums2 tm (nI e) sp s pl n f0 w0 w = some o2 ∧ o2.2.2.2.1 = 5 ∧ o2.2.2.2.2.2.2.1 = F ∧ o2.2.2.2.2.2.2.2.1 = nI q) := by
  unfold f_X5_readMud f_X12_readMud
  rw [hb, bind_some']
  (try dsimp only)
  rcases j_known (c := c) (c' := c) (Nat.le_refl _) (by omega) hn hm (fun i hi => rfl) (line := 1) (sort := 0) (bd := nr) (lines := lines) (nums := nums) (sorts := sorts) (nums2 := nums2) hcl (fun i h1 h2 => absurd h2 (by omega)) ht f fp f2 wr with ⟨k, hk, e6, e7⟩ | ⟨F, q, x, hF, hq, e6, e7⟩
  · have hnk : ¬ nI k = -1 := by
      rw [i32_eq, nI_toInt (by omega)]
      have : (-1 : Int32).toInt = -1 := rfl
      omega
    obtain ⟨q, t1, t2, t3, t4, t5, t6, -⟩ := id ht
    have h5 := tkR_5 ht
    rw [e6, e7, bind_some', bind_some']
    (try dsimp only)
    rw [if_neg hnk, if_neg h5, inb_nI (show k < 6 by omega) (by decide), gd_true, gd_true, nI_clamp (show k < 2 ^ 31 by omega), hmd k hk, hmd2 k hk]
    unfold f_X12_readMud_B38
    by_cases hl : g k = 0
    · have hm1 := (mI_n (hg k hk)).mpr hl
      rw [if_pos hm1, if_pos hm1]
      obtain ⟨p4, c4, m4, ec4, em4, ht4, hp4, -⟩ := j_next he h t1 c1.2.1 c1.2.2.1 c1.2.2.2.1 c1.2.2.2.2 m1.2.1 m1.2.2.1 m1.2.2.2.1 m1.2.2.2.2 h5
      rw [← t3] at ec4
      rw [← t4] at em4
      rw [ec4, bind_some', em4, bind_some']
      rcases j_partL he h kw_deep 0 900 0 900 rfl rfl (by decide) (by decide) ht4 f fp f2 wr with ⟨x, p5, c5, c6, m5, x1, x2, e8, hv, e9, e10, ht5, hp5⟩ | ⟨F, q, o, o2, hF, hq, e8, b1, b2, b3, e10, b5, b6, b7⟩
      · left
        rw [e8, e10, bind_some', bind_some']
        (try dsimp only)
        rw [if_neg one_ne, if_neg (tkR_5 ht5), inb_nI (show k < 6 by omega) (by decide), gd_true, gd_true, nm_eq, nm_eq, nm_eq, nm_eq, e9, bind_some', hv, nI_clamp (show k < 2 ^ 31 by omega), nI_1]
        exact ⟨k, x, p5, c6, m5, hk, x2, rfl, rfl, ht5, by omega⟩
      · right
        rw [e8, e10, bind_some', bind_some', if_pos b1, if_pos b5]
        exact ⟨F, q, _, _, hF, hq, rfl, rfl, b2, b3, rfl, b5, b6, b7⟩
    · right
      have hm1 : ¬ mI (g k) = -1 := fun z => hl ((mI_n (hg k hk)).mp z)
      rw [if_neg hm1, if_neg hm1, n_flaw h5, bind_some']
      (try dsimp only)
      rw [d_goesOn, bind_some']
      (try dsimp only)
      rw [d_readPart, bind_some']
      (try dsimp only)
      rw [if_pos rfl]
      exact ⟨3, q, _, _, ⟨3, by decide, by decide, rfl⟩, t2, rfl, rfl, rfl, t5, rfl, rfl, rfl, t6⟩
  · right
    unfold f_X12_readMud_B38
    rw [e6, e7, bind_some', bind_some']
    (try dsimp only)
    rw [if_pos rfl, if_pos rfl, d_goesOn, bind_some']
    (try dsimp only)
    rw [d_readPart, bind_some']
    (try dsimp only)
    rw [if_pos rfl]
    exact ⟨F, q, _, _, hF, hq, rfl, rfl, rfl, rfl, rfl, rfl, rfl, rfl⟩
