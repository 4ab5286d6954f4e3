/-! words that the text knows, names, parts of lines -/
/-- the word l0 as a constant of the class and a string of the reference -/
def kwOK (C : Int64) (k : Nat) (l0 : List Nat) : Prop := C = lN (cw l0) ∧ f_X12_packed k = some (lN (mw l0)) ∧ lv l0 ∧ l0.length ≤ 8
def l_river : List Nat := [18, 5, 22, 9, 18]
theorem kw_river : kwOK 491395638642 0 l_river := ⟨by decide +kernel, by decide +kernel, by unfold lv; decide +kernel, by decide⟩
def l_flow : List Nat := [23, 15, 12, 6]
theorem kw_flow : kwOK 1718382455 1 l_flow := ⟨by decide +kernel, by decide +kernel, by unfold lv; decide +kernel, by decide⟩
def l_tape : List Nat := [5, 16, 1, 20]
theorem kw_tape : kwOK 1952542821 2 l_tape := ⟨by decide +kernel, by decide +kernel, by unfold lv; decide +kernel, by decide⟩
def l_reach : List Nat := [8, 3, 1, 5, 18]
theorem kw_reach : kwOK 491327153000 3 l_reach := ⟨by decide +kernel, by decide +kernel, by unfold lv; decide +kernel, by decide⟩
def l_rope : List Nat := [5, 16, 15, 18]
theorem kw_rope : kwOK 1919905893 4 l_rope := ⟨by decide +kernel, by decide +kernel, by unfold lv; decide +kernel, by decide⟩
def l_loose : List Nat := [5, 19, 15, 15, 12]
theorem kw_loose : kwOK 465726042981 5 l_loose := ⟨by decide +kernel, by decide +kernel, by unfold lv; decide +kernel, by decide⟩
def l_hand : List Nat := [4, 14, 1, 8]
theorem kw_hand : kwOK 1751215716 6 l_hand := ⟨by decide +kernel, by decide +kernel, by unfold lv; decide +kernel, by decide⟩
def l_boat : List Nat := [20, 1, 15, 2]
theorem kw_boat : kwOK 1651466612 7 l_boat := ⟨by decide +kernel, by decide +kernel, by unfold lv; decide +kernel, by decide⟩
def l_mud : List Nat := [4, 21, 13]
theorem kw_mud : kwOK 7173476 8 l_mud := ⟨by decide +kernel, by decide +kernel, by unfold lv; decide +kernel, by decide⟩
def l_plain : List Nat := [14, 9, 1, 12, 16]
theorem kw_plain : kwOK 482854660462 9 l_plain := ⟨by decide +kernel, by decide +kernel, by unfold lv; decide +kernel, by decide⟩
def l_meadow : List Nat := [23, 15, 4, 1, 5, 13]
theorem kw_meadow : kwOK 120282193096567 10 l_meadow := ⟨by decide +kernel, by decide +kernel, by unfold lv; decide +kernel, by decide⟩
def l_cellar : List Nat := [18, 1, 12, 12, 5, 3]
theorem kw_cellar : kwOK 109287261888882 11 l_cellar := ⟨by decide +kernel, by decide +kernel, by unfold lv; decide +kernel, by decide⟩
def l_bridge : List Nat := [5, 7, 4, 9, 18, 2]
theorem kw_bridge : kwOK 108243533981541 12 l_bridge := ⟨by decide +kernel, by decide +kernel, by unfold lv; decide +kernel, by decide⟩
def l_wide : List Nat := [5, 4, 9, 23]
theorem kw_wide : kwOK 2003395685 13 l_wide := ⟨by decide +kernel, by decide +kernel, by unfold lv; decide +kernel, by decide⟩
def l_bank : List Nat := [11, 14, 1, 2]
theorem kw_bank : kwOK 1650552427 14 l_bank := ⟨by decide +kernel, by decide +kernel, by unfold lv; decide +kernel, by decide⟩
def l_at : List Nat := [20, 1]
theorem kw_at : kwOK 24948 15 l_at := ⟨by decide +kernel, by decide +kernel, by unfold lv; decide +kernel, by decide⟩
def l_pulls : List Nat := [19, 12, 12, 21, 16]
theorem kw_pulls : kwOK 483006377075 16 l_pulls := ⟨by decide +kernel, by decide +kernel, by unfold lv; decide +kernel, by decide⟩
def l_bears : List Nat := [19, 18, 1, 5, 2]
theorem kw_bears : kwOK 422607680115 17 l_bears := ⟨by decide +kernel, by decide +kernel, by unfold lv; decide +kernel, by decide⟩
def l_strong : List Nat := [7, 14, 15, 18, 20, 19]
theorem kw_strong : kwOK 126943973305959 18 l_strong := ⟨by decide +kernel, by decide +kernel, by unfold lv; decide +kernel, by decide⟩
def l_deep : List Nat := [16, 5, 5, 4]
theorem kw_deep : kwOK 1684366704 19 l_deep := ⟨by decide +kernel, by decide +kernel, by unfold lv; decide +kernel, by decide⟩
/-- the token's word, if it is one -/
def wdR (ol : Option (List Nat)) (s : Int32) (cd : Int64) (s2 : Int32) (w : Int64) : Prop :=
  (∃ l, ol = some l ∧ lv l ∧ l.length ≤ 8 ∧ s = 1 ∧ s2 = 2 ∧ cd = lN (cw l) ∧ w = lN (mw l)) ∨ (ol = none ∧ ¬ s = 1 ∧ ¬ s2 = 2 ∧ ¬ s2 = 5)
theorem tkR_wd {e p : Nat} {c m : (Int32 × Int32 × Int32 × Int32 × Int64)} (h : tkR e p c m) : ∃ ol, wdR ol c.2.1 c.2.2.2.2 m.2.1 m.2.2.2.2 := by
  obtain ⟨q, h1, h2, h3, h4, h5, h6, h7⟩ := h
  rcases h7 with ⟨a, b⟩ | ⟨l, l1, l2, a, b, l3, l4⟩ | ⟨x, x1, a, b, x2, x3⟩ | ⟨a, b⟩ | ⟨a, b⟩
  · exact ⟨none, Or.inr ⟨rfl, by rw [a]; decide, by rw [b]; decide, by rw [b]; decide⟩⟩
  · exact ⟨some l, Or.inl ⟨l, rfl, l1, l2, a, b, l3, l4⟩⟩
  · exact ⟨none, Or.inr ⟨rfl, by rw [a]; decide, by rw [b]; decide, by rw [b]; decide⟩⟩
  · exact ⟨none, Or.inr ⟨rfl, by rw [a]; decide, by rw [b]; decide, by rw [b]; decide⟩⟩
  · exact ⟨none, Or.inr ⟨rfl, by rw [a]; decide, by rw [b]; decide, by rw [b]; decide⟩⟩
theorem tkR_5 {e p : Nat} {c m : (Int32 × Int32 × Int32 × Int32 × Int64)} (h : tkR e p c m) : ¬ m.2.1 = 5 := by
  obtain ⟨q, h1, h2, h3, h4, h5, h6, h7⟩ := h
  rcases h7 with ⟨a, b⟩ | ⟨l, l1, l2, a, b, l3, l4⟩ | ⟨x, x1, a, b, x2, x3⟩ | ⟨a, b⟩ | ⟨a, b⟩ <;> rw [b] <;> decide
theorem j_isWord {ol : Option (List Nat)} {s s2 : Int32} {cd w : Int64} (hw : wdR ol s cd s2 w) {C : Int64} {k : Nat} {l0 : List Nat} (hk : kwOK C k l0) : f_X5_isWord C s cd = some (if ol = some l0 then 1 else 0) ∧ f_X12_isWord k s2 w = some (if ol = some l0 then 1 else 0) := by
  obtain ⟨k1, k2, k3, k4⟩ := hk
  unfold f_X5_isWord f_X12_isWord
  rcases hw with ⟨l, rfl, l1, l2, rfl, rfl, rfl, rfl⟩ | ⟨rfl, a, b, c⟩
  · have hs := w_same l1 k3 l2 k4
    rw [if_pos rfl, if_pos rfl, k2, bind_some', k1]
    simp only [lg_cmp_eq, Option.some.injEq, hs.1, hs.2]
    by_cases e : l = l0
    · simp [e]
    · simp [e]
  · rw [if_neg a, if_neg b]
    simp
/-- which line a word begins -/
def lineN (ol : Option (List Nat)) : Int32 := if ol = some l_river then 0 else if ol = some l_reach then 1 else if ol = some l_rope then 2 else if ol = some l_loose then 3 else if ol = some l_hand then 4 else if ol = some l_boat then 5 else if ol = some l_mud then 6 else -1
theorem c_lineOf {ol : Option (List Nat)} {s s2 : Int32} {cd w : Int64} (hw : wdR ol s cd s2 w) : f_X5_lineOfWord s cd = some (lineN ol) := by
  unfold f_X5_lineOfWord lineN
  rcases hw with ⟨l, rfl, l1, l2, rfl, rfl, rfl, rfl⟩ | ⟨rfl, a, b, c⟩
  · have hs : ∀ {C : Int64} {k : Nat} {l0 : List Nat}, kwOK C k l0 → ((lg_cmp (lN (cw l)) C = 0) ↔ l = l0) := fun hk => by
      rw [lg_cmp_eq, hk.1]; exact (w_same l1 hk.2.2.1 l2 hk.2.2.2).1
    simp only [if_true, hs kw_river, hs kw_reach, hs kw_rope, hs kw_loose, hs kw_hand, hs kw_boat, hs kw_mud, Option.some.injEq]
    by_cases e0 : l = l_river
    · simp only [e0, if_true]
    · by_cases e1 : l = l_reach
      · simp only [e0, e1, if_true, if_false]
        rw [if_neg (fun z => e0 (e1.trans z)), if_neg (fun z => e0 (e1.trans z))]
      · by_cases e2 : l = l_rope
        · rw [if_neg e0, if_neg e1, if_pos e2, if_neg e0, if_neg e1, if_pos e2]
        · by_cases e3 : l = l_loose
          · rw [if_neg e0, if_neg e1, if_neg e2, if_pos e3, if_neg e0, if_neg e1, if_neg e2, if_pos e3]
          · by_cases e4 : l = l_hand
            · rw [if_neg e0, if_neg e1, if_neg e2, if_neg e3, if_pos e4, if_neg e0, if_neg e1, if_neg e2, if_neg e3, if_pos e4]
            · by_cases e5 : l = l_boat
              · rw [if_neg e0, if_neg e1, if_neg e2, if_neg e3, if_neg e4, if_pos e5, if_neg e0, if_neg e1, if_neg e2, if_neg e3, if_neg e4, if_pos e5]
              · by_cases e6 : l = l_mud
                · rw [if_neg e0, if_neg e1, if_neg e2, if_neg e3, if_neg e4, if_neg e5, if_pos e6, if_neg e0, if_neg e1, if_neg e2, if_neg e3, if_neg e4, if_neg e5, if_pos e6]
                · rw [if_neg e0, if_neg e1, if_neg e2, if_neg e3, if_neg e4, if_neg e5, if_neg e6, if_neg e0, if_neg e1, if_neg e2, if_neg e3, if_neg e4, if_neg e5, if_neg e6]
  · rw [if_neg a]; rfl
/-- a name may stand there -/
def nmB (ol : Option (List Nat)) : Prop := (∃ l, ol = some l) ∧ lineN ol = -1
theorem j_isName {ol : Option (List Nat)} {s s2 : Int32} {cd w : Int64} (hw : wdR ol s cd s2 w) : (nmB ol ∧ f_X5_isName s cd = some 1 ∧ f_X12_isName s2 w = some 1) ∨ (¬ nmB ol ∧ f_X5_isName s cd = some 0 ∧ f_X12_isName s2 w = some 0) := by
  have hl := c_lineOf hw
  unfold f_X5_isName f_X12_isName
  rw [hl, bind_some', (j_isWord hw kw_river).2, (j_isWord hw kw_reach).2, (j_isWord hw kw_rope).2, (j_isWord hw kw_loose).2, (j_isWord hw kw_hand).2, (j_isWord hw kw_boat).2, (j_isWord hw kw_mud).2]
  simp only [bind_some']
  rcases hw with ⟨l, rfl, l1, l2, rfl, rfl, rfl, rfl⟩ | ⟨rfl, a, b, c⟩
  · simp only [if_true]
    unfold nmB lineN
    by_cases e0 : some l = some l_river
    · right; simp only [e0, if_true]; exact ⟨fun z => absurd z.2 (by decide), by decide, by decide⟩
    · by_cases e1 : some l = some l_reach
      · right; simp only [e0, e1, if_true, if_false]; exact ⟨fun z => absurd z.2 (by decide), by decide, by decide⟩
      · by_cases e2 : some l = some l_rope
        · right; simp only [e0, e1, e2, if_true, if_false]; exact ⟨fun z => absurd z.2 (by decide), by decide, by decide⟩
        · by_cases e3 : some l = some l_loose
          · right; simp only [e0, e1, e2, e3, if_true, if_false]; exact ⟨fun z => absurd z.2 (by decide), by decide, by decide⟩
          · by_cases e4 : some l = some l_hand
            · right; simp only [e0, e1, e2, e3, e4, if_true, if_false]; exact ⟨fun z => absurd z.2 (by decide), by decide, by decide⟩
            · by_cases e5 : some l = some l_boat
              · right; simp only [e0, e1, e2, e3, e4, e5, if_true, if_false]; exact ⟨fun z => absurd z.2 (by decide), by decide, by decide⟩
              · by_cases e6 : some l = some l_mud
                · right; simp only [e0, e1, e2, e3, e4, e5, e6, if_true, if_false]; exact ⟨fun z => absurd z.2 (by decide), by decide, by decide⟩
                · left
                  simp only [e0, e1, e2, e3, e4, e5, e6, if_true, if_false]
                  exact ⟨⟨⟨l, rfl⟩, trivial⟩, trivial, trivial⟩
  · right
    rw [if_neg a, if_neg b]
    exact ⟨fun z => (by obtain ⟨⟨l, hl⟩, -⟩ := z; exact absurd hl (by simp)), rfl, rfl⟩
/-! the reference behind a flaw goes on with nothing changed -/
theorem d_goesOn (tm : (Nat → Int32)) (sz sp pl n : Int32) (w : Int64) : f_X12_goesOn tm sz sp 5 pl n w = some (sp, 5, pl, n, w) := if_pos rfl
theorem d_flaw (k pl f wr : Int32) : f_X12_flaw k 5 pl f wr = some (5, f, wr) := if_pos rfl
theorem n_flaw {s : Int32} (h : ¬ s = 5) (k pl f wr : Int32) : f_X12_flaw k s pl f wr = some (5, k, pl) := if_neg h
theorem d_isWord (k : Nat) (w : Int64) : f_X12_isWord k 5 w = some 0 := if_neg (by decide)
theorem d_mustBe (k : Nat) (tm : (Nat → Int32)) (sz sp pl n f wr : Int32) (w : Int64) : f_X12_mustBe k tm sz sp 5 pl n f wr w = some (sp, 5, pl, n, f, wr, w) := by
  unfold f_X12_mustBe
  rw [d_isWord, bind_some', if_pos rfl, d_flaw, bind_some']
  (try dsimp only)
  rw [d_goesOn]; rfl
theorem d_readWhole (lo hi : Int32) (tm : (Nat → Int32)) (sz sp pl n f wr : Int32) (w : Int64) : f_X12_readWhole lo hi tm sz sp 5 pl n f wr w = some (lo, sp, 5, pl, n, f, wr, w) := by
  unfold f_X12_readWhole f_X12_readWhole_B33
  rw [if_neg (show ¬ (5 : Int32) = 3 by decide), d_flaw, bind_some']
  (try dsimp only)
  rw [if_pos rfl, d_goesOn]; rfl
theorem d_readPart (k : Nat) (lo hi : Int32) (tm : (Nat → Int32)) (sz sp pl n f wr : Int32) (w : Int64) : f_X12_readPart k lo hi tm sz sp 5 pl n f wr w = some (lo, sp, 5, pl, n, f, wr, w) := by
  unfold f_X12_readPart
  rw [d_mustBe, bind_some']
  (try dsimp only)
  rw [d_readWhole]; rfl
theorem d_readKind (tm : (Nat → Int32)) (sz sp pl n f wr : Int32) (w : Int64) : f_X12_readKind tm sz sp 5 pl n f wr w = some (-1, sp, 5, pl, n, f, wr, w) := by
  unfold f_X12_readKind f_X12_readKind_B53
  rw [d_isWord, d_isWord, d_isWord, d_isWord]
  simp only [bind_some', if_true]
  rw [d_flaw, bind_some']
  (try dsimp only)
  rw [d_goesOn]; rfl
theorem d_isName (w : Int64) : f_X12_isName 5 w = some 0 := if_neg (by decide)
/-- find comes to an end -/
theorem m_find {c : Nat} (hc : c ≤ 24) (w : Int64) (name : Nat → Int64) : ∃ o, f_X11_find w (nI c) name = some o ∧ (o = -1 ∨ ∃ i, i < c ∧ o = nI i) := by
  unfold f_X11_find
  refine loopX (F := f_X11_find_L2 (some (-1)) w (nI c) name) (P := fun i x => x = nI i) (Q := fun z => ∃ o, z = some o ∧ (o = -1 ∨ ∃ i, i < c ∧ o = nI i)) (a := 0) (N := c) (Nat.zero_le _) ?_ ?_ (by omega) rfl
  · rintro m _ rfl
    rw [f_X11_find_L2, if_pos (nI_le (by omega) (by omega))]
    exact ⟨_, rfl, Or.inl rfl⟩
  · rintro m i _ - hi rfl
    rw [f_X11_find_L2, if_neg (nI_ge (by omega) (by omega)), inb_nI (show i < 24 by omega) (by decide), gd_true, nI_1]
    by_cases h : lg_cmp (name (nI i).toNatClampNeg) w = 0
    · left; rw [if_pos h]; exact ⟨_, rfl, Or.inr ⟨i, hi, rfl⟩⟩
    · right; rw [if_neg h]; exact ⟨_, rfl, rfl⟩
theorem d_readFresh {c : Nat} (hc : c ≤ 24) (name : Nat → Int64) (tm : (Nat → Int32)) (sz sp pl n f wr : Int32) (w : Int64) : f_X12_readFresh (nI c) name tm sz sp 5 pl n f wr w = some (w, sp, 5, pl, n, f, wr, w) := by
  obtain ⟨o, eo, -⟩ := m_find hc w name
  unfold f_X12_readFresh f_X12_readFresh_B12
  rw [d_isName, bind_some', if_pos rfl, d_flaw, bind_some']
  (try dsimp only)
  rw [eo, bind_some', d_flaw, bind_some']
  (try dsimp only)
  rw [d_goesOn]
  by_cases h : o = -1
  · rw [if_pos h]; rfl
  · rw [if_neg h]; rfl
theorem d_knownOne {c : Nat} (hc : c ≤ 24) (k : Int32) (name : Nat → Int64) (sorts nums : (Nat → Int32)) (pl f wr : Int32) (w : Int64) : f_X12_knownOne k (nI c) name sorts nums 5 pl f wr w = some (0, 5, f, wr) := by
  obtain ⟨o, eo, ho⟩ := m_find hc w name
  unfold f_X12_knownOne f_X12_knownOne_B12 f_X12_knownOne_B42
  rw [d_isName, bind_some', if_pos rfl, d_flaw, bind_some']
  (try dsimp only)
  rw [eo, bind_some', d_flaw, bind_some']
  (try dsimp only)
  rw [if_pos rfl]
  rcases ho with rfl | ⟨i, hi, rfl⟩
  · rw [if_pos rfl]
  · rw [inb_nI (show i < 24 by omega) (by decide), gd_true]
    by_cases h : nI i = -1
    · rw [if_pos h]
    · rw [if_neg h]
      by_cases h2 : sorts (nI i).toNatClampNeg = k
      · rw [if_pos h2]
      · rw [if_neg h2]
/-! names told -/
def fi (N : Nat → List Nat) (l : List Nat) : Nat → Option Nat
  | 0 => none
  | c + 1 => match fi N l c with
    | some i => some i
    | none => if N c = l then some c else none
theorem fi_lt {N : Nat → List Nat} {l : List Nat} : ∀ {c i : Nat}, fi N l c = some i → i < c ∧ N i = l
  | 0, i, h => by cases h
  | c + 1, i, h => by
    rw [fi] at h
    cases e : fi N l c with
    | some j =>
      rw [e] at h
      injection h with h
      subst h
      have := fi_lt e
      exact ⟨by omega, this.2⟩
    | none =>
      rw [e] at h
      (try dsimp only at h)
      split at h
      · next hN => injection h with h; subst h; exact ⟨by omega, hN⟩
      · cases h
theorem fi_up {N : Nat → List Nat} {l : List Nat} {c i : Nat} (h : fi N l c = some i) : ∀ d, fi N l (c + d) = some i
  | 0 => h
  | d + 1 => by
    show fi N l ((c + d) + 1) = _
    rw [fi, fi_up h d]
def en_i : Option Nat → Int32
  | none => -1
  | some i => nI i
/-- the letters of the names, in both tables -/
def lnR (c : Nat) (N : Nat → List Nat) (f : List Nat → Nat) (names : Nat → Int64) : Prop := ∀ i, i < c → lv (N i) ∧ (N i).length ≤ 8 ∧ names i = lN (f (N i))
theorem c_index {c : Nat} (hc : c ≤ 24) {N : Nat → List Nat} {names : Nat → Int64} (h : lnR c N cw names) {l : List Nat} (h1 : lv l) (h8 : l.length ≤ 8) : f_X5_nameIndex names (nI c) (lN (cw l)) = some (en_i (fi N l c)) := by
  unfold f_X5_nameIndex
  refine loopX (F := f_X5_nameIndex_L2 (some (-1)) names (nI c) (lN (cw l))) (P := fun i x => x = nI i ∧ fi N l i = none) (Q := fun z => z = some (en_i (fi N l c))) (a := 0) (N := c) (Nat.zero_le _) ?_ ?_ (by omega) ⟨rfl, rfl⟩
  · rintro m _ ⟨rfl, h0⟩
    rw [f_X5_nameIndex_L2, if_pos (nI_le (by omega) (by omega)), h0]; rfl
  · rintro m i _ - hi ⟨rfl, h0⟩
    obtain ⟨g1, g2, g3⟩ := h i hi
    rw [f_X5_nameIndex_L2, if_neg (nI_ge (by omega) (by omega)), inb_nI (show i < 24 by omega) (by decide), gd_true, nI_clamp (by omega), nI_1, g3]
    have hs : (lg_cmp (lN (cw (N i))) (lN (cw l)) = 0) ↔ N i = l := by rw [lg_cmp_eq]; exact (w_same g1 h1 g2 h8).1
    by_cases he : N i = l
    · left
      have h2 : fi N l (i + 1) = some i := by rw [fi, h0]; simp [he]
      have h3 := fi_up h2 (c - (i + 1))
      rw [show i + 1 + (c - (i + 1)) = c by omega] at h3
      rw [if_pos (hs.mpr he), h3]; rfl
    · right
      rw [if_neg (fun z => he (hs.mp z))]
      refine ⟨_, ⟨rfl, ?_⟩, rfl⟩
      rw [fi, h0]; simp [he]
theorem m_index {c : Nat} (hc : c ≤ 24) {N : Nat → List Nat} {names : Nat → Int64} (h : lnR c N mw names) {l : List Nat} (h1 : lv l) (h8 : l.length ≤ 8) : f_X11_find (lN (mw l)) (nI c) names = some (en_i (fi N l c)) := by
  unfold f_X11_find
  refine loopX (F := f_X11_find_L2 (some (-1)) (lN (mw l)) (nI c) names) (P := fun i x => x = nI i ∧ fi N l i = none) (Q := fun z => z = some (en_i (fi N l c))) (a := 0) (N := c) (Nat.zero_le _) ?_ ?_ (by omega) ⟨rfl, rfl⟩
  · rintro m _ ⟨rfl, h0⟩
    rw [f_X11_find_L2, if_pos (nI_le (by omega) (by omega)), h0]; rfl
  · rintro m i _ - hi ⟨rfl, h0⟩
    obtain ⟨g1, g2, g3⟩ := h i hi
    rw [f_X11_find_L2, if_neg (nI_ge (by omega) (by omega)), inb_nI (show i < 24 by omega) (by decide), gd_true, nI_clamp (by omega), nI_1, g3]
    have hs : (lg_cmp (lN (mw (N i))) (lN (mw l)) = 0) ↔ N i = l := by rw [lg_cmp_eq]; exact (w_same g1 h1 g2 h8).2
    by_cases he : N i = l
    · left
      have h2 : fi N l (i + 1) = some i := by rw [fi, h0]; simp [he]
      have h3 := fi_up h2 (c - (i + 1))
      rw [show i + 1 + (c - (i + 1)) = c by omega] at h3
      rw [if_pos (hs.mpr he), h3]; rfl
    · right
      rw [if_neg (fun z => he (hs.mp z))]
      refine ⟨_, ⟨rfl, ?_⟩, rfl⟩
      rw [fi, h0]; simp [he]
theorem en_i_ne {o : Option Nat} {i : Nat} (h : o = some i) (hi : i < 2 ^ 31) : ¬ en_i o = -1 := by
  rw [h]
  show ¬ nI i = -1
  rw [i32_eq, nI_toInt hi]
  have : (-1 : Int32).toInt = -1 := rfl
  omega
/-! a word and a number -/
/-- a fault's number -/
def badF (F : Int32) : Prop := ∃ k : Nat, 1 ≤ k ∧ k ≤ 6 ∧ F = nI k
theorem j_part {e : Nat} (he : e ≤ 900) {tc tm : (Nat → Int32)} {bt : Nat → Nat} (h : tpB e tc tm bt) {C : Int64} {k : Nat} {l0 : List Nat} (hk : kwOK C k l0) (lo hi : Nat) (hlo : lo ≤ 999) (hhi : hi ≤ 999) {p : Nat} {c m : (Int32 × Int32 × Int32 × Int32 × Int64)} (ht : tkR e p c m) (f fp f2 wr : Int32) :
    (∃ x p' c1 c2 m2, lo ≤ x ∧ x ≤ hi ∧ f_X5_readWhole C (nI lo) (nI hi) tc f fp (nI e) c.1 c.2.1 c.2.2.1 c.2.2.2.1 c.2.2.2.2 = some (1, f, fp, c1) ∧ c1.2.2.2.1 = nI x ∧ f_X5_next tc (nI e) c1.1 c1.2.1 c1.2.2.1 c1.2.2.2.1 c1.2.2.2.2 = some c2 ∧ f_X12_readPart k (nI lo) (nI hi) tm (nI e) m.1 m.2.1 m.2.2.1 m.2.2.2.1 f2 wr m.2.2.2.2 = some (nI x, m2.1, m2.2.1, m2.2.2.1, m2.2.2.2.1, f2, wr, m2.2.2.2.2) ∧ tkR e p' c2 m2 ∧ p ≤ p') ∨
    (∃ F q o o2, badF F ∧ q ≤ e ∧ f_X5_readWhole C (nI lo) (nI hi) tc f fp (nI e) c.1 c.2.1 c.2.2.1 c.2.2.2.1 c.2.2.2.2 = some o ∧ o.1 = 0 ∧ o.2.1 = F ∧ o.2.2.1 = nI q ∧ f_X12_readPart k (nI lo) (nI hi) tm (nI e) m.1 m.2.1 m.2.2.1 m.2.2.2.1 f2 wr m.2.2.2.2 = some o2 ∧ o2.2.2.1 = 5 ∧ o2.2.2.2.2.2.1 = F ∧ o2.2.2.2.2.2.2.1 = nI q) := by
  obtain ⟨ol, hw⟩ := tkR_wd ht
  have h5 := tkR_5 ht
  obtain ⟨q, t1, t2, t3, t4, t5, t6, t7⟩ := ht
  obtain ⟨w1, w2⟩ := j_isWord hw hk
  unfold f_X5_readWhole f_X12_readPart f_X12_mustBe
  rw [w1, w2, bind_some', bind_some']
  by_cases ho : ol = some l0
  · rw [if_pos ho, if_neg one_ne, if_neg one_ne, t3, t4]
    obtain ⟨p1, c1, m1, ec, em, ht1, hp1, -⟩ := j_next he h t1 c.2.1 c.2.2.1 c.2.2.2.1 c.2.2.2.2 m.2.1 m.2.2.1 m.2.2.2.1 m.2.2.2.2 h5
    rw [ec, em, bind_some', bind_some', bind_some']
    (try dsimp only)
    have h5' := tkR_5 ht1
    obtain ⟨q', u1, u2, u3, u4, u5, u6, u7⟩ := id ht1
    unfold f_X12_readWhole
    have hbad : ∀ hs : ¬ c1.2.1 = 2, ¬ m1.2.1 = 3 → (∃ F q o o2, badF F ∧ q ≤ e ∧ (if c1.2.1 = 2 then (if c1.2.2.2.1 < nI lo then (f_X5_fail 4 f fp c1.2.2.1).bind fun o6 => (if o6.1 = 0 then some (0, o6.2.1, o6.2.2, c1.1, c1.2.1, c1.2.2.1, c1.2.2.2.1, c1.2.2.2.2) else some (1, o6.2.1, o6.2.2, c1.1, c1.2.1, c1.2.2.1, c1.2.2.2.1, c1.2.2.2.2)) else (if c1.2.2.2.1 ≤ nI hi then some (1, f, fp, c1.1, c1.2.1, c1.2.2.1, c1.2.2.2.1, c1.2.2.2.2) else (f_X5_fail 4 f fp c1.2.2.1).bind fun o9 => (if o9.1 = 0 then some (0, o9.2.1, o9.2.2, c1.1, c1.2.1, c1.2.2.1, c1.2.2.2.1, c1.2.2.2.2) else some (1, o9.2.1, o9.2.2, c1.1, c1.2.1, c1.2.2.1, c1.2.2.2.1, c1.2.2.2.2)))) else (f_X5_fail 1 f fp c1.2.2.1).bind fun o11 => gd (nbl o11.1) <| some (o11.1, o11.2.1, o11.2.2, c1.1, c1.2.1, c1.2.2.1, c1.2.2.2.1, c1.2.2.2.2)) = some o ∧ o.1 = 0 ∧ o.2.1 = F ∧ o.2.2.1 = nI q ∧ ((if m1.2.1 = 3 then (f_X12_in m1.2.2.2.1 (nI lo) (nI hi)).bind fun o2 => (if o2 = 0 then (f_X12_flaw 4 m1.2.1 m1.2.2.1 f2 wr).bind fun o7 => f_X12_readWhole_B33 (nI lo) tm (nI e) m1.1 o7.1 m1.2.2.1 m1.2.2.2.1 o7.2.1 o7.2.2 m1.2.2.2.2 else f_X12_readWhole_B33 (nI lo) tm (nI e) m1.1 m1.2.1 m1.2.2.1 m1.2.2.2.1 f2 wr m1.2.2.2.2) else (f_X12_flaw 1 m1.2.1 m1.2.2.1 f2 wr).bind fun o8 => f_X12_readWhole_B33 (nI lo) tm (nI e) m1.1 o8.1 m1.2.2.1 m1.2.2.2.1 o8.2.1 o8.2.2 m1.2.2.2.2).bind fun o2 => some (o2.1, o2.2.1, o2.2.2.1, o2.2.2.2.1, o2.2.2.2.2.1, o2.2.2.2.2.2.1, o2.2.2.2.2.2.2.1, o2.2.2.2.2.2.2.2)) = some o2 ∧ o2.2.2.1 = 5 ∧ o2.2.2.2.2.2.1 = F ∧ o2.2.2.2.2.2.2.1 = nI q) := by
      intro hs hs2
      unfold f_X12_readWhole_B33
      rw [if_neg hs, if_neg hs2, n_flaw h5', bind_some']
      (try dsimp only)
      rw [if_pos rfl, d_goesOn]
      exact ⟨1, q', _, _, ⟨1, by decide, by decide, rfl⟩, u2, rfl, rfl, rfl, u5, rfl, rfl, rfl, u6⟩
    rcases u7 with ⟨a, b⟩ | ⟨l, l1, l2, a, b, l3, l4⟩ | ⟨x, x1, a, b, x2, x3⟩ | ⟨a, b⟩ | ⟨a, b⟩
    · exact Or.inr (hbad (by rw [a]; decide) (by rw [b]; decide))
    · exact Or.inr (hbad (by rw [a]; decide) (by rw [b]; decide))
    · clear hbad
      rw [if_pos a, if_pos b, x2, x3]
      unfold f_X12_in f_X12_readWhole_B33
      by_cases hl : x < lo
      · right
        rw [if_pos (nI_lt hl (by omega)), if_pos (nI_lt hl (by omega)), bind_some', if_pos rfl, n_flaw h5', bind_some']
        (try dsimp only)
        rw [if_pos rfl, d_goesOn]
        exact ⟨4, q', _, _, ⟨4, by decide, by decide, rfl⟩, u2, rfl, rfl, rfl, u5, rfl, rfl, rfl, u6⟩
      · rw [if_neg (nI_nlt (by omega) (by omega)), if_neg (nI_nlt (by omega) (by omega))]
        by_cases hh : hi < x
        · right
          rw [if_neg (nI_ge hh (by omega)), if_pos (nI_lt hh (by omega)), bind_some', if_pos rfl, n_flaw h5', bind_some']
          (try dsimp only)
          rw [if_pos rfl, d_goesOn]
          exact ⟨4, q', _, _, ⟨4, by decide, by decide, rfl⟩, u2, rfl, rfl, rfl, u5, rfl, rfl, rfl, u6⟩
        · left
          obtain ⟨p2, c2, m2, ec2, em2, ht2, hp2, -⟩ := j_next he h u1 c1.2.1 c1.2.2.1 c1.2.2.2.1 c1.2.2.2.2 m1.2.1 m1.2.2.1 m1.2.2.2.1 m1.2.2.2.2 h5'
          rw [if_pos (nI_le (by omega) (by omega)), if_neg (nI_nlt (by omega) (by omega)), bind_some', if_neg one_ne, if_neg h5']
          rw [u4, ← x3, em2, bind_some']
          refine ⟨x, p2, c1, c2, m2, by omega, by omega, ?_, x2, ?_, ?_, ht2, by omega⟩
          · rw [x3, ← x2]
          · rw [u3]; exact ec2
          · rw [x3]; rfl
    · exact Or.inr (hbad (by rw [a]; decide) (by rw [b]; decide))
    · exact Or.inr (hbad (by rw [a]; decide) (by rw [b]; decide))
  · right
    rw [if_neg ho, if_pos rfl, if_pos rfl, n_flaw h5, bind_some']
    (try dsimp only)
    rw [d_goesOn, bind_some', bind_some']
    (try dsimp only)
    rw [d_readWhole]
    exact ⟨1, q, _, _, ⟨1, by decide, by decide, rfl⟩, t2, rfl, rfl, rfl, t5, rfl, rfl, rfl, t6⟩
