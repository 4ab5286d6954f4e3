/-! rope, worn -/
theorem shr_val {m k : Nat} (hm : m < 2 ^ 31) (hk : k < 31) : (nI m >>> (nI k &&& 31)) &&& 1 = nI (if m.testBit k = true then 1 else 0) := by
  have hs : ((nI k &&& 31 : Int32).toBitVec.smod 32).toNat = k := (show ∀ k, k < 31 → ((nI k &&& 31 : Int32).toBitVec.smod 32).toNat = k by decide +kernel) k hk
  rw [pk_shrN hm _ k hs, show (1 : Int32) = nI 1 from rfl, nI_and, Nat.and_one_is_mod, Nat.testBit_eq_decide_div_mod_eq]
  congr 1
  by_cases h : m / 2 ^ k % 2 = 1
  · simp [h]
  · simp [h]; omega
theorem isRope_or {n : Nat} (hn : n < 2 ^ 31) (p : Int32) : (f_X10_isRope p (nI n) = some 0 ∧ f_X12_isRope p (nI n) = some 0) ∨ (∃ r, r < n ∧ p = nI r ∧ f_X10_isRope p (nI n) = some 1 ∧ f_X12_isRope p (nI n) = some 1) := isReach_or hn p
theorem isBoat_or {n : Nat} (hn : n < 2 ^ 31) (p : Int32) : (f_X10_isBoat p (nI n) = some 0 ∧ f_X12_isBoat p (nI n) = some 0) ∨ (∃ r, r < n ∧ p = nI r ∧ f_X10_isBoat p (nI n) = some 1 ∧ f_X12_isBoat p (nI n) = some 1) := isReach_or hn p
/-- no rope is laced and burst -/
def dj (L U : Nat) : Prop := ∀ j, L.testBit j = true → U.testBit j = true → False
theorem j_rope {R : Nat → Nat → Nat} (hR : rvOK R) {L U f sd : Nat} {V : Nat → Nat} (hL : L < 2 ^ R 0 1) {kind wide bank at_ pulls kind2 wide2 bank2 at2 pulls2 v : Nat → Int32} (T : tR R kind wide bank at_ pulls) (T2 : tR R kind2 wide2 bank2 at2 pulls2) (hv : vR (R 0 1) v L U f sd V) {bears bears2 wear : Nat → Int32} (hb : rw_ (R 0 1) bears (R 6)) (hb2 : rw_ (R 0 1) bears2 (R 6)) (hwr : rw_ (R 0 1) wear V) (hV : ∀ j, j < R 0 1 → V j < 2 ^ 20) (hU : U < 2 ^ R 0 1) (hdj : dj L U) (hf : f < 2 ^ 16) (p1 p2 : Int32) (w co de sp ha : Nat → Int32) (be al si tr : Int32) (th tr2 wh : Int32) (wi wa de2 sp2 : Nat → Int32) (be2 : Int32) :
    ∃ ans t, cA (f_X10_rope p1 p2 (nI L) (nI U) (nI f) wear w co de sp ha be al si (nI (R 0 0)) (nI (R 0 1)) kind wide bank at_ pulls bears tr) ans t ∧ mA (f_X12_rope p1 p2 th tr2 wh (nI (R 0 0)) (nI (R 0 1)) kind2 wide2 bank2 at2 pulls2 bears2 v wi wa de2 sp2 be2) ans t := by
  have hn := hR.1.2.1
  have hk := hR.1.2.2.1
  have hL31 := pow_k hk hL
  have hU31 := pow_k hk hU
  obtain ⟨c1, c2, c3, c4, c5, c6, c7, c8, e, hw, hco, hde, hsp, hha, hbe, hal, hsi⟩ := s_pourNow hR hL hf T w co de sp ha be al si
  obtain ⟨m1, m2, m3, m4, m5, e2, k1, k2, k3, k4, k5⟩ := m_runsNow hR hL hf T2 hv wi wa de2 sp2 be2
  have hD : ∀ r, r < R 0 0 → dp R (wN R L) f r < 2 ^ 20 := fun r _ => Nat.lt_of_le_of_lt (dp_le R (wN R L) f r) (by omega)
  unfold f_X10_rope f_X12_rope
  rcases isRope_or (show R 0 1 < 2 ^ 31 by omega) p1 with ⟨a1, a2⟩ | ⟨r, hr, rfl, a1, a2⟩
  · rw [a1, a2]
    exact ⟨-1, 1, ⟨_, _, _, _, _, _, _, _, rfl⟩, ⟨_, _, _, _, _, rfl⟩⟩
  · rw [a1, a2, bind_some', bind_some', if_neg (show ¬ (1 : Int32) = 0 by decide), if_neg (show ¬ (1 : Int32) = 0 by decide)]
    unfold f_X12_in
    by_cases b1 : p2 < 0
    · rw [if_pos b1, if_pos b1]
      exact ⟨-1, 1, ⟨_, _, _, _, _, _, _, _, rfl⟩, ⟨_, _, _, _, _, rfl⟩⟩
    · rw [if_neg b1, if_neg b1]
      have b3 : (p2 ≤ 5) ↔ ¬ (5 < p2) := by rw [i32_le, i32_lt]; omega
      by_cases b2 : 5 < p2
      · rw [if_neg (fun h => b3.mp h b2), if_pos b2]
        exact ⟨-1, 1, ⟨_, _, _, _, _, _, _, _, rfl⟩, ⟨_, _, _, _, _, rfl⟩⟩
      · rw [if_pos (b3.mpr b2), if_neg b2, bind_some', if_neg (show ¬ (1 : Int32) = 0 by decide), e, bind_some', e2, bind_some']
        unfold f_X10_ofRope f_X10_answered f_X12_good
        dsimp only
        rw [s_bursting hR hL31 hD hV hde T.at_ hb hwr, vR_laced hk hv hL]
        simp only [bind_some']
        rw [m_bursting hR hL31 hD hV k3 T2.at_ hb2 hv.2.1]
        simp only [bind_some']
        rw [bit_nI (pow_k hk (bs_lt _ _)) (show r < 31 by omega), isIn_nI hU31 (show r < 31 by omega), shr_val hL31 (show r < 31 by omega), shr_val (pow_k hk (bs_lt _ _)) (show r < 31 by omega), show (0 : Int32) + nI r = nI r from (nI_add 0 r).trans (by rw [Nat.zero_add]), show (7 : Int32) + nI r = nI (7 + r) from nI_add 7 r]
        simp only [inb_nI (show r < 7 by omega) (by decide), inb_nI (show r < 16 by omega) (by decide), inb_nI (show 7 + r < 16 by omega) (by decide), gd_true, nI_clamp (show r < 2 ^ 31 by omega), nI_clamp (show 7 + r < 2 ^ 31 by omega), T.at_ r hr, T.pulls r hr, hb r hr, T2.at_ r hr, T2.pulls r hr, hb2 r hr, hwr r hr, hv.2.1 r hr, hv.1 r hr, bind_some']
        by_cases d0 : p2 = 0
        · rw [if_pos d0, if_pos d0]; exact ⟨_, _, ⟨_, _, _, _, _, _, _, _, rfl⟩, ⟨_, _, _, _, _, rfl⟩⟩
        · rw [if_neg d0, if_neg d0]
          by_cases d1 : p2 = 1
          · rw [if_pos d1, if_pos d1]; exact ⟨_, _, ⟨_, _, _, _, _, _, _, _, rfl⟩, ⟨_, _, _, _, _, rfl⟩⟩
          · rw [if_neg d1, if_neg d1]
            by_cases d2 : p2 = 2
            · rw [if_pos d2, if_pos d2]; exact ⟨_, _, ⟨_, _, _, _, _, _, _, _, rfl⟩, ⟨_, _, _, _, _, rfl⟩⟩
            · rw [if_neg d2, if_neg d2]
              by_cases d3 : p2 = 3
              · rw [if_pos d3, if_pos d3]
                by_cases u : U.testBit r = true
                · have nl : ¬ L.testBit r = true := fun h => hdj r h u
                  rw [if_pos u, if_neg (show ¬ (1 : Int32) = 0 by decide), if_neg nl, if_pos u]
                  exact ⟨_, _, ⟨_, _, _, _, _, _, _, _, rfl⟩, ⟨_, _, _, _, _, rfl⟩⟩
                · rw [if_neg u, if_pos rfl, if_neg u]
                  exact ⟨_, _, ⟨_, _, _, _, _, _, _, _, rfl⟩, ⟨_, _, _, _, _, rfl⟩⟩
              · rw [if_neg d3, if_neg d3]
                by_cases d4 : p2 = 4
                · rw [if_pos d4, if_pos d4]; exact ⟨_, _, ⟨_, _, _, _, _, _, _, _, rfl⟩, ⟨_, _, _, _, _, rfl⟩⟩
                · rw [if_neg d4, if_neg d4]
                  by_cases u : (bs (buB R L (dp R (wN R L) f) V) (R 0 1)).testBit r = true
                  · rw [if_pos u, if_pos u, if_neg (show ¬ (1 : Int32) = 0 by decide)]; exact ⟨_, _, ⟨_, _, _, _, _, _, _, _, rfl⟩, ⟨_, _, _, _, _, rfl⟩⟩
                  · rw [if_neg u, if_neg u, if_pos rfl]; exact ⟨_, _, ⟨_, _, _, _, _, _, _, _, rfl⟩, ⟨_, _, _, _, _, rfl⟩⟩
/-- the laced one that has the least left, of the first j -/
def sI (R : Nat → Nat → Nat) (D V : Nat → Nat) (j : Nat) : Int := (R 6 j : Int) - ((V j + D (R 4 j) : Nat) : Int)
def wo (R : Nat → Nat → Nat) (L : Nat) (D V : Nat → Nat) : Nat → Option Nat
  | 0 => none
  | j + 1 => if L.testBit j = true then (match wo R L D V j with
    | none => some j
    | some b => if sI R D V j < sI R D V b then some j else some b) else wo R L D V j
theorem wo_lt (R : Nat → Nat → Nat) (L : Nat) (D V : Nat → Nat) : ∀ j b, wo R L D V j = some b → b < j
  | 0, b, h => by cases h
  | j + 1, b, h => by
    have ih := wo_lt R L D V j
    simp only [wo] at h
    split at h
    · cases e : wo R L D V j with
      | none => rw [e] at h; simp at h; omega
      | some c =>
        rw [e] at h
        have := ih c e
        simp only at h
        split at h <;> (injection h with h; omega)
    · have := ih b h; omega
def enc : Option Nat → Int32
  | none => -2
  | some b => nI b
def encS (R : Nat → Nat → Nat) (D V : Nat → Nat) : Option Nat → Int32
  | none => 0
  | some b => nI (R 6 b) - nI (V b + D (R 4 b))
theorem nI_m2 {b : Nat} (hb : b < 2 ^ 31) : ¬ nI b = -2 := by
  rw [i32_eq, nI_toInt hb]
  have : (-2 : Int32).toInt = -2 := rfl
  omega
theorem s_worn {R : Nat → Nat → Nat} (hR : rvOK R) {L f : Nat} {V : Nat → Nat} (hL : L < 2 ^ R 0 1) (hf : f < 2 ^ 16) {kind wide bank at_ pulls bears wear : Nat → Int32} (T : tR R kind wide bank at_ pulls) (hb : rw_ (R 0 1) bears (R 6)) (hwr : rw_ (R 0 1) wear V) (hV : ∀ j, j < R 0 1 → V j < 2 ^ 20) (w co de sp ha : Nat → Int32) (be al si tr : Int32) : cA (f_X10_worn (nI L) (nI f) wear w co de sp ha be al si (nI (R 0 0)) (nI (R 0 1)) kind wide bank at_ pulls bears tr) (enc (wo R L (dp R (wN R L) f) V (R 0 1))) 0 := by
  have hk := hR.1.2.2.1
  have hL31 := pow_k hk hL
  obtain ⟨c1, c2, c3, c4, c5, c6, c7, c8, e, hw, hco, hde, hsp, hha, hbe, hal, hsi⟩ := s_pourNow hR hL hf T w co de sp ha be al si
  have hD : ∀ r, r < R 0 0 → dp R (wN R L) f r < 2 ^ 20 := fun r _ => Nat.lt_of_le_of_lt (dp_le R (wN R L) f r) (by omega)
  refine ⟨c1, c2, c3, c4, c5, c6, c7, c8, ?_⟩
  unfold f_X10_worn
  rw [s_noRiver hR, bind_some', if_pos rfl, e, bind_some']
  dsimp only
  refine (iter (F := f_X10_worn_L22 _ (nI L) wear c3 (nI (R 0 1)) at_ bears) (k := fun x => some (x, c1, c2, c3, c4, c5, c6, c7, c8, 0)) (g := fun j => enc (wo R L (dp R (wN R L) f) V j)) (a := 0) (N := R 0 1) (Nat.zero_le _) (fun m x => ?_) (fun m j _ hj => ?_) (show R 0 1 < 2000 by omega)).trans ?_
  · rw [f_X10_worn_L22, if_pos (nI_le (by omega) (by omega))]; rfl
  · rw [f_X10_worn_L22, if_neg (nI_ge (by omega) (by omega)), isIn_nI hL31 (by omega), bind_some', nI_1]
    simp only [wo]
    by_cases hl : L.testBit j = true
    · rw [if_pos hl, if_pos hl, if_neg (show ¬ (1 : Int32) = 0 by decide)]
      cases ew : wo R L (dp R (wN R L) f) V j with
      | none => rw [if_pos (show enc none = -2 from rfl)]; rfl
      | some b =>
        have hbj := wo_lt R L _ V j b ew
        rw [if_neg (show ¬ enc (some b) = -2 from nI_m2 (by omega)), s_slack hR hD hV hde T.at_ hb hwr hj, bind_some', show enc (some b) = nI b from rfl, s_slack hR hD hV hde T.at_ hb hwr (show b < R 0 1 by omega), bind_some']
        have g1 := (hR.2.2.1 j hj)
        have g2 := (hR.2.2.1 b (by omega))
        have t1 := pk_sub_toInt (a := R 6 j) (b := V j + dp R (wN R L) f (R 4 j)) (by omega) (by have := hV j hj; have := hD _ g1.1; omega)
        have t2 := pk_sub_toInt (a := R 6 b) (b := V b + dp R (wN R L) f (R 4 b)) (by omega) (by have := hV b (by omega); have := hD _ g2.1; omega)
        dsimp only
        by_cases h : sI R (dp R (wN R L) f) V j < sI R (dp R (wN R L) f) V b
        · rw [if_neg (by rw [i32_le, t1, t2]; unfold sI at h; omega), if_pos h]; rfl
        · rw [if_pos (by rw [i32_le, t1, t2]; unfold sI at h; omega), if_neg h]; rfl
    · rw [if_neg hl, if_neg hl, if_pos rfl]
  · rfl
theorem m_worn {R : Nat → Nat → Nat} (hR : rvOK R) {L U f sd : Nat} {V : Nat → Nat} (hL : L < 2 ^ R 0 1) (hf : f < 2 ^ 16) {kind2 wide2 bank2 at2 pulls2 bears2 v : Nat → Int32} (T2 : tR R kind2 wide2 bank2 at2 pulls2) (hb2 : rw_ (R 0 1) bears2 (R 6)) (hv : vR (R 0 1) v L U f sd V) (hV : ∀ j, j < R 0 1 → V j < 2 ^ 20) (th tr2 wh : Int32) (wi wa de2 sp2 : Nat → Int32) (be2 : Int32) : mA (f_X12_worn th tr2 wh (nI (R 0 0)) (nI (R 0 1)) kind2 wide2 bank2 at2 pulls2 bears2 v wi wa de2 sp2 be2) (enc (wo R L (dp R (wN R L) f) V (R 0 1))) 0 := by
  have hn := hR.1.2.1
  have hk := hR.1.2.2.1
  obtain ⟨m1, m2, m3, m4, m5, e2, k1, k2, k3, k4, k5⟩ := m_runsNow hR hL hf T2 hv wi wa de2 sp2 be2
  have hD : ∀ r, r < R 0 0 → dp R (wN R L) f r < 2 ^ 20 := fun r _ => Nat.lt_of_le_of_lt (dp_le R (wN R L) f r) (by omega)
  refine ⟨m1, m2, m3, m4, m5, ?_⟩
  unfold f_X12_worn
  rw [e2, bind_some']
  dsimp only
  refine (iter (F := fun n (x : Int32 × Int32) i => f_X12_worn_L29 _ (nI (R 0 1)) at2 bears2 v m3 n x.1 x.2 i) (k := fun x => some (x.1, 0, 0, -1, m1, m2, m3, m4, m5)) (g := fun j => (enc (wo R L (dp R (wN R L) f) V j), encS R (dp R (wN R L) f) V (wo R L (dp R (wN R L) f) V j))) (a := 0) (N := R 0 1) (Nat.zero_le _) (fun m x => ?_) (fun m j _ hj => ?_) (show R 0 1 < 2000 by omega)).trans ?_
  · rw [f_X12_worn_L29, if_pos (nI_le (by omega) (by omega))]; rfl
  · have g1 := (hR.2.2.1 j hj)
    dsimp only
    rw [f_X12_worn_L29, if_neg (nI_ge (by omega) (by omega)), nI_1, show (0 : Int32) + nI j = nI j from (nI_add 0 j).trans (by rw [Nat.zero_add]), show (7 : Int32) + nI j = nI (7 + j) from nI_add 7 j]
    simp only [inb_nI (show j < 7 by omega) (by decide), inb_nI (show j < 16 by omega) (by decide), inb_nI (show 7 + j < 16 by omega) (by decide), inb_nI (show R 4 j < 6 by omega) (by decide), gd_true, nm_eq, nI_clamp (show j < 2 ^ 31 by omega), nI_clamp (show 7 + j < 2 ^ 31 by omega), nI_clamp (show R 4 j < 2 ^ 31 by omega), T2.at_ j hj, hb2 j hj, hv.2.1 j hj, hv.1 j hj, k3 _ g1.1, sub2, nI_add, wo]
    by_cases hl : L.testBit j = true
    · rw [if_pos hl, if_pos (show nI 1 = 1 from rfl), if_pos hl]
      cases ew : wo R L (dp R (wN R L) f) V j with
      | none => rw [if_pos (show enc none = -2 from rfl)]; rfl
      | some b =>
        have hbj := wo_lt R L _ V j b ew
        have g2 := (hR.2.2.1 b (by omega))
        have t1 := pk_sub_toInt (a := R 6 j) (b := V j + dp R (wN R L) f (R 4 j)) (by omega) (by have := hV j hj; have := hD _ g1.1; omega)
        have t2 := pk_sub_toInt (a := R 6 b) (b := V b + dp R (wN R L) f (R 4 b)) (by omega) (by have := hV b (by omega); have := hD _ g2.1; omega)
        rw [if_neg (show ¬ enc (some b) = -2 from nI_m2 (by omega))]
        dsimp only
        by_cases h : sI R (dp R (wN R L) f) V j < sI R (dp R (wN R L) f) V b
        · rw [if_pos (by show nI (R 6 j) - nI (V j + dp R (wN R L) f (R 4 j)) < nI (R 6 b) - nI (V b + dp R (wN R L) f (R 4 b)); rw [i32_lt, t1, t2]; unfold sI at h; omega), if_pos h]; rfl
        · rw [if_neg (by show ¬ nI (R 6 j) - nI (V j + dp R (wN R L) f (R 4 j)) < nI (R 6 b) - nI (V b + dp R (wN R L) f (R 4 b)); rw [i32_lt, t1, t2]; unfold sI at h; omega), if_neg h]
    · rw [if_neg hl, if_neg hl, if_neg]
      by_cases u : U.testBit j = true
      · rw [if_pos u]; decide
      · rw [if_neg u]; decide
  · rfl
