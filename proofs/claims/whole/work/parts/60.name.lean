/-! names, kinds, how lines begin -/
theorem d_B12 {c : Nat} (hc : c ≤ 24) (k : Int32) (name : Nat → Int64) (sorts nums : (Nat → Int32)) (pl f wr : Int32) (w : Int64) : f_X12_knownOne_B12 k (nI c) name sorts nums 5 pl f wr w = some (0, 5, f, wr) := by
  obtain ⟨o, eo, ho⟩ := m_find hc w name
  unfold f_X12_knownOne_B12 f_X12_knownOne_B42
  rw [eo, bind_some', d_flaw, bind_some']
  (try dsimp only)
  rw [if_pos rfl]
  rcases ho with rfl | ⟨i, hi, rfl⟩
  · rw [if_pos rfl]
  · rw [inb_nI (show i < 24 by omega) (by decide), gd_true]
    by_cases h : nI i = -1
    · rw [if_pos h]
    · rw [if_neg h]
      by_cases h2 : sorts (nI i).toNatClampNeg = k
      · rw [if_pos h2]
      · rw [if_neg h2]
theorem d_F12 {c : Nat} (hc : c ≤ 24) (name : Nat → Int64) (tm : (Nat → Int32)) (sz sp pl n f wr : Int32) (w : Int64) : f_X12_readFresh_B12 (nI c) name tm sz sp 5 pl n f wr w = some (w, sp, 5, pl, n, f, wr, w) := by
  obtain ⟨o, eo, -⟩ := m_find hc w name
  unfold f_X12_readFresh_B12
  rw [eo, bind_some', d_flaw, bind_some']
  (try dsimp only)
  rw [d_goesOn]
  by_cases h : o = -1
  · rw [if_pos h]; rfl
  · rw [if_neg h]; rfl
theorem fi_congr {N N' : Nat → List Nat} {l : List Nat} : ∀ {c : Nat}, (∀ i, i < c → N' i = N i) → fi N' l c = fi N l c
  | 0, _ => rfl
  | c + 1, h => by rw [fi, fi, fi_congr (fun i hi => h i (by omega)), h c (by omega)]
/-- a new name -/
theorem j_fresh {e : Nat} (he : e ≤ 900) {tc tm : (Nat → Int32)} {bt : Nat → Nat} (h : tpB e tc tm bt) {c : Nat} (hc : c < 24) {N : Nat → List Nat} {names name : Nat → Int64} (hn : lnR c N cw names) (hm : lnR c N mw name) (line num : Int32) (lines nums : (Nat → Int32)) {p : Nat} {ct mt : (Int32 × Int32 × Int32 × Int32 × Int64)} (ht : tkR e p ct mt) (f fp f2 wr : Int32) :
    (∃ l p' c2 m2, lv l ∧ l.length ≤ 8 ∧ f_X5_readNewName line num tc names lines nums f fp (nI c) (nI e) ct.1 ct.2.1 ct.2.2.1 ct.2.2.2.1 ct.2.2.2.2 = some (1, vp_updL names c (lN (cw l)), upd lines c line, upd nums c num, f, fp, nI (c + 1), c2) ∧ f_X12_readFresh (nI c) name tm (nI e) mt.1 mt.2.1 mt.2.2.1 mt.2.2.2.1 f2 wr mt.2.2.2.2 = some (lN (mw l), m2.1, m2.2.1, m2.2.2.1, m2.2.2.2.1, f2, wr, m2.2.2.2.2) ∧ tkR e p' c2 m2 ∧ p ≤ p') ∨
    (∃ F q o o2, badF F ∧ q ≤ e ∧ f_X5_readNewName line num tc names lines nums f fp (nI c) (nI e) ct.1 ct.2.1 ct.2.2.1 ct.2.2.2.1 ct.2.2.2.2 = some o ∧ o.1 = 0 ∧ o.2.2.2.2.1 = F ∧ o.2.2.2.2.2.1 = nI q ∧ f_X12_readFresh (nI c) name tm (nI e) mt.1 mt.2.1 mt.2.2.1 mt.2.2.2.1 f2 wr mt.2.2.2.2 = some o2 ∧ o2.2.2.1 = 5 ∧ o2.2.2.2.2.2.1 = F ∧ o2.2.2.2.2.2.2.1 = nI q) := by
  obtain ⟨ol, hw⟩ := tkR_wd ht
  have h5 := tkR_5 ht
  obtain ⟨q, t1, t2, t3, t4, t5, t6, t7⟩ := id ht
  unfold f_X5_readNewName f_X12_readFresh
  rcases j_isName hw with ⟨hb, a1, a2⟩ | ⟨hb, a1, a2⟩
  · rw [a1, a2, bind_some', bind_some', if_neg one_ne, if_neg one_ne]
    rcases hw with ⟨l, rfl, l1, l2, s1, s2, cd, wd⟩ | ⟨rfl, -⟩
    · unfold f_X12_readFresh_B12
      rw [cd, wd, c_index (by omega) hn l1 l2, m_index (by omega) hm l1 l2, bind_some', bind_some']
      cases ef : fi N l c with
      | none =>
        left
        obtain ⟨p1, c1, m1, ec, em, ht1, hp1, -⟩ := j_next he h t1 ct.2.1 ct.2.2.1 ct.2.2.2.1 (lN (cw l)) mt.2.1 mt.2.2.1 mt.2.2.2.1 (lN (mw l)) h5
        rw [if_pos (show en_i none = -1 from rfl), if_pos (show en_i none = -1 from rfl), if_pos (show nI c < 24 from nI_lt (b := 24) hc (by decide))]
        simp only [inb_nI hc (show 24 < 2 ^ 31 by decide), gd_true, nm_eq, nI_clamp (show c < 2 ^ 31 by omega), nI_1]
        rw [t3, t4, ec, em]
        exact ⟨l, p1, c1, m1, l1, l2, rfl, rfl, ht1, hp1⟩
      | some i =>
        right
        have hi := (fi_lt ef).1
        have hne := en_i_ne (o := some i) rfl (show i < 2 ^ 31 by omega)
        rw [if_neg hne, if_neg hne, n_flaw h5, bind_some']
        (try dsimp only)
        rw [d_goesOn]
        exact ⟨3, q, _, _, ⟨3, by decide, by decide, rfl⟩, t2, rfl, rfl, rfl, t5, rfl, rfl, rfl, t6⟩
    · obtain ⟨⟨l, hl⟩, -⟩ := hb
      exact absurd hl (by simp)
  · right
    rw [a1, a2, bind_some', bind_some', if_pos rfl, if_pos rfl, n_flaw h5, bind_some']
    (try dsimp only)
    rw [d_F12 (by omega)]
    exact ⟨1, q, _, _, ⟨1, by decide, by decide, rfl⟩, t2, rfl, rfl, rfl, t5, rfl, rfl, rfl, t6⟩
/-- a name that is told -/
theorem j_known {e : Nat} {c c' : Nat} (hcc : c ≤ c') (hc : c' ≤ 24) {N N' : Nat → List Nat} {names name : Nat → Int64} (hn : lnR c' N' cw names) (hm : lnR c N mw name) (hN : ∀ i, i < c → N' i = N i) {line sort : Int32} {bd : Nat} {lines nums sorts nums2 : (Nat → Int32)} (hcl : ∀ i, i < c → (lines i = line ∧ sorts i = sort ∧ ∃ r, r < bd ∧ nums i = nI r ∧ nums2 i = nI r) ∨ (¬ lines i = line ∧ ¬ sorts i = sort)) (hx : ∀ i, c ≤ i → i < c' → ¬ lines i = line) {p : Nat} {ct mt : (Int32 × Int32 × Int32 × Int32 × Int64)} (ht : tkR e p ct mt) (f fp f2 wr : Int32) :
    (∃ r, r < bd ∧ f_X5_usedName line names lines nums f fp (nI c') ct.2.1 ct.2.2.1 ct.2.2.2.2 = some (nI r, f, fp) ∧ f_X12_knownOne sort (nI c) name sorts nums2 mt.2.1 mt.2.2.1 f2 wr mt.2.2.2.2 = some (nI r, mt.2.1, f2, wr)) ∨
    (∃ F q x, badF F ∧ q ≤ e ∧ f_X5_usedName line names lines nums f fp (nI c') ct.2.1 ct.2.2.1 ct.2.2.2.2 = some (-1, F, nI q) ∧ f_X12_knownOne sort (nI c) name sorts nums2 mt.2.1 mt.2.2.1 f2 wr mt.2.2.2.2 = some (x, 5, F, nI q)) := by
  obtain ⟨ol, hw⟩ := tkR_wd ht
  have h5 := tkR_5 ht
  obtain ⟨q, t1, t2, t3, t4, t5, t6, t7⟩ := id ht
  unfold f_X5_usedName f_X12_knownOne
  rcases j_isName hw with ⟨hb, a1, a2⟩ | ⟨hb, a1, a2⟩
  · rw [a1, a2, bind_some', bind_some', if_neg one_ne, if_neg one_ne]
    rcases hw with ⟨l, rfl, l1, l2, s1, s2, cd, wd⟩ | ⟨rfl, -⟩
    · have hfc : fi N' l c = fi N l c := fi_congr hN
      unfold f_X12_knownOne_B12
      rw [cd, wd, c_index hc hn l1 l2, m_index (by omega) hm l1 l2, bind_some', bind_some']
      cases ef : fi N l c with
      | none =>
        right
        refine ⟨2, q, 0, ⟨2, by decide, by decide, rfl⟩, t2, ?_, ?_⟩
        · cases ef' : fi N' l c' with
          | none => rw [if_pos (show en_i none = -1 from rfl), t5]; rfl
          | some i =>
            have hi := (fi_lt ef').1
            have hge : c ≤ i := by
              by_cases hlt : i < c
              · exfalso
                have hNi := (fi_lt ef').2
                have key : ∀ k, i < k → fi N' l k ≠ none := by
                  intro k
                  induction k with
                  | zero => intro z; omega
                  | succ k ih =>
                    intro hk hz
                    rw [fi] at hz
                    cases e1 : fi N' l k with
                    | some j => rw [e1] at hz; cases hz
                    | none =>
                      rw [e1] at hz
                      by_cases hik : i = k
                      · subst hik; dsimp only at hz; rw [if_pos hNi] at hz; cases hz
                      · exact ih (by omega) e1
                exact key c hlt (by rw [hfc]; exact ef)
              · omega
            have hne := en_i_ne (o := some i) rfl (show i < 2 ^ 31 by omega)
            rw [if_neg hne, show en_i (some i) = nI i from rfl, inb_nI (show i < 24 by omega) (by decide), gd_true, nI_clamp (show i < 2 ^ 31 by omega), if_neg (hx i hge hi), t5]; rfl
        · unfold f_X12_knownOne_B42
          rw [if_pos (show en_i none = -1 from rfl), n_flaw h5, bind_some']
          (try dsimp only)
          rw [if_pos rfl, t6]
      | some i =>
        have hi := (fi_lt ef).1
        have ef' : fi N' l c' = some i := by
          have := fi_up (hfc.trans ef) (c' - c)
          rw [show c + (c' - c) = c' by omega] at this
          exact this
        have hne := en_i_ne (o := some i) rfl (show i < 2 ^ 31 by omega)
        rw [ef', if_neg hne, if_neg hne, show en_i (some i) = nI i from rfl, inb_nI (show i < 24 by omega) (by decide), gd_true, gd_true, gd_true, gd_true, nI_clamp (show i < 2 ^ 31 by omega)]
        rcases hcl i hi with ⟨b1, b2, r, b3, b4, b5⟩ | ⟨b1, b2⟩
        · left
          rw [if_pos b1, if_pos b2, if_neg h5, b4, b5]
          exact ⟨r, b3, rfl, rfl⟩
        · right
          unfold f_X12_knownOne_B42
          rw [if_neg b1, if_neg b2, n_flaw h5, bind_some']
          (try dsimp only)
          rw [if_pos rfl, t5, t6]
          exact ⟨2, q, 0, ⟨2, by decide, by decide, rfl⟩, t2, rfl, rfl⟩
    · obtain ⟨⟨l, hl⟩, -⟩ := hb
      exact absurd hl (by simp)
  · right
    rw [a1, a2, bind_some', bind_some', if_pos rfl, if_pos rfl, n_flaw h5, bind_some']
    (try dsimp only)
    rw [d_B12 (by omega), t5, t6]
    exact ⟨1, q, _, ⟨1, by decide, by decide, rfl⟩, t2, rfl, rfl⟩
/-- the kind of a reach -/
theorem j_kind {e : Nat} (he : e ≤ 900) {tc tm : (Nat → Int32)} {bt : Nat → Nat} (h : tpB e tc tm bt) {p : Nat} {c m : (Int32 × Int32 × Int32 × Int32 × Int64)} (ht : tkR e p c m) (f2 wr : Int32) :
    (∃ k p' c2 m2, k ≤ 3 ∧ f_X5_kindOfWord c.2.1 c.2.2.2.2 = some (nI k) ∧ f_X5_next tc (nI e) c.1 c.2.1 c.2.2.1 c.2.2.2.1 c.2.2.2.2 = some c2 ∧ f_X12_readKind tm (nI e) m.1 m.2.1 m.2.2.1 m.2.2.2.1 f2 wr m.2.2.2.2 = some (nI k, m2.1, m2.2.1, m2.2.2.1, m2.2.2.2.1, f2, wr, m2.2.2.2.2) ∧ tkR e p' c2 m2 ∧ p ≤ p') ∨
    (∃ q o2, q ≤ e ∧ f_X5_kindOfWord c.2.1 c.2.2.2.2 = some (-1) ∧ c.2.2.1 = nI q ∧ f_X12_readKind tm (nI e) m.1 m.2.1 m.2.2.1 m.2.2.2.1 f2 wr m.2.2.2.2 = some o2 ∧ o2.2.2.1 = 5 ∧ o2.2.2.2.2.2.1 = 1 ∧ o2.2.2.2.2.2.2.1 = nI q) := by
  obtain ⟨ol, hw⟩ := tkR_wd ht
  have h5 := tkR_5 ht
  obtain ⟨q, t1, t2, t3, t4, t5, t6, t7⟩ := id ht
  unfold f_X5_kindOfWord f_X12_readKind f_X12_readKind_B53
  rw [(j_isWord hw kw_plain).1, (j_isWord hw kw_meadow).1, (j_isWord hw kw_cellar).1, (j_isWord hw kw_bridge).1, (j_isWord hw kw_plain).2, (j_isWord hw kw_meadow).2, (j_isWord hw kw_cellar).2, (j_isWord hw kw_bridge).2]
  simp only [bind_some']
  obtain ⟨p1, c1, m1, ec, em, ht1, hp1, -⟩ := j_next he h t1 c.2.1 c.2.2.1 c.2.2.2.1 c.2.2.2.2 m.2.1 m.2.2.1 m.2.2.2.1 m.2.2.2.2 h5
  rw [t3, t4, ec, em]
  by_cases e0 : ol = some l_plain
  · left
    rw [if_pos e0, if_neg one_ne, if_neg one_ne, if_neg (show ¬ (0 : Int32) = -1 by decide)]
    exact ⟨0, p1, c1, m1, by decide, rfl, rfl, rfl, ht1, hp1⟩
  · rw [if_neg e0, if_pos rfl, if_pos rfl]
    by_cases e1 : ol = some l_meadow
    · left
      rw [if_pos e1, if_neg one_ne, if_neg one_ne, if_neg (show ¬ (1 : Int32) = -1 by decide)]
      exact ⟨1, p1, c1, m1, by decide, rfl, rfl, rfl, ht1, hp1⟩
    · rw [if_neg e1, if_pos rfl, if_pos rfl]
      by_cases e2 : ol = some l_cellar
      · left
        rw [if_pos e2, if_neg one_ne, if_neg one_ne, if_neg (show ¬ (2 : Int32) = -1 by decide)]
        exact ⟨2, p1, c1, m1, by decide, rfl, rfl, rfl, ht1, hp1⟩
      · rw [if_neg e2, if_pos rfl, if_pos rfl]
        by_cases e3 : ol = some l_bridge
        · left
          rw [if_pos e3, if_neg one_ne, if_neg one_ne, if_neg (show ¬ (3 : Int32) = -1 by decide)]
          exact ⟨3, p1, c1, m1, by decide, rfl, rfl, rfl, ht1, hp1⟩
        · right
          rw [if_neg e3, if_pos rfl, if_pos rfl, if_pos trivial, n_flaw h5, bind_some']
          (try dsimp only)
          rw [d_goesOn]
          exact ⟨q, _, t2, rfl, t5, rfl, rfl, rfl, t6⟩
/-- how a line begins in the reference -/
theorem m_begins {a b F : Nat} (hab : a ≤ b) (hb : b ≤ 7) (hF : F ≤ 900) (tm : (Nat → Int32)) (sz sp s pl n f2 wr : Int32) (w : Int64) (h5 : ¬ s = 5) :
    (a = b → f_X12_lineBegins (nI a) (nI b) (nI F) tm sz sp s pl n f2 wr w = some (sp, 5, pl, n, 5, pl, w)) ∧ (a < b → F = 0 → f_X12_lineBegins (nI a) (nI b) (nI F) tm sz sp s pl n f2 wr w = some (sp, 5, pl, n, 6, pl, w)) ∧ (a < b → 1 ≤ F → f_X12_lineBegins (nI a) (nI b) (nI F) tm sz sp s pl n f2 wr w = (f_X12_goesOn tm sz sp s pl n w).bind fun o3 => some (o3.1, o3.2.1, o3.2.2.1, o3.2.2.2.1, f2, wr, o3.2.2.2.2)) := by
  unfold f_X12_lineBegins f_X12_lineBegins_B10
  refine ⟨fun h1 => ?_, fun h1 h2 => ?_, fun h1 h2 => ?_⟩
  · rw [if_pos (by rw [h1]), n_flaw h5, bind_some']
    (try dsimp only)
    rw [d_flaw, bind_some', d_goesOn]
    by_cases h0 : nI F = 0
    · rw [if_pos h0]; rfl
    · rw [if_neg h0]; rfl
  · rw [if_neg (by rw [nI_eq (by omega) (by omega)]; omega), if_pos (by rw [h2]; rfl), n_flaw h5, bind_some']
    (try dsimp only)
    rw [d_goesOn]; rfl
  · rw [if_neg (by rw [nI_eq (by omega) (by omega)]; omega), if_neg (fun z => by have := (nI_z (by omega)).mp z; omega)]
