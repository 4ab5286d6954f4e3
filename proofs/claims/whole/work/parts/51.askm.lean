/-! ask, askLeaves -/
/-- how many of the first i sets have depth d at reach r -/
def cn (g : Nat → Nat → Nat) (r d : Nat) (i : Nat) : Nat := sm (fun j => if g j r = d then 1 else 0) i
theorem cn_succ (g : Nat → Nat → Nat) (r d i : Nat) : cn g r d (i + 1) = cn g r d i + if g i r = d then 1 else 0 := rfl
theorem cn_mono (g : Nat → Nat → Nat) (r d i : Nat) : ∀ e, cn g r d i ≤ cn g r d (i + e)
  | 0 => Nat.le_refl _
  | e + 1 => by
    have := cn_mono g r d i e
    rw [show i + (e + 1) = (i + e) + 1 by omega, cn_succ]
    omega
theorem cn_le (g : Nat → Nat → Nat) (r d : Nat) : ∀ i, cn g r d i ≤ i
  | 0 => Nat.le_refl _
  | i + 1 => by
    have := cn_le g r d i
    rw [cn_succ]
    split <;> omega
def mx1 (g : Nat → Nat → Nat) (r : Nat) : Nat → Nat
  | 0 => 0
  | i + 1 => max (mx1 g r i) (cn g r (g i r) (i + 1))
def mx2 (g : Nat → Nat → Nat) (r N : Nat) : Nat → Nat
  | 0 => 0
  | i + 1 => max (mx2 g r N i) (cn g r (g i r) N)
theorem mx_up (g : Nat → Nat → Nat) (r d : Nat) : ∀ i, cn g r d i ≤ mx1 g r i
  | 0 => Nat.le_refl _
  | i + 1 => by
    have ih := mx_up g r d i
    simp only [mx1]
    by_cases h : g i r = d
    · subst h; omega
    · rw [cn_succ, if_neg h]; omega
theorem mx_12 (g : Nat → Nat → Nat) (r N : Nat) : ∀ i, i ≤ N → mx1 g r i ≤ mx2 g r N i
  | 0, _ => Nat.le_refl _
  | i + 1, h => by
    have ih := mx_12 g r N i (by omega)
    have := cn_mono g r (g i r) (i + 1) (N - (i + 1))
    rw [show i + 1 + (N - (i + 1)) = N by omega] at this
    simp only [mx1, mx2]
    omega
theorem mx_21 (g : Nat → Nat → Nat) (r N : Nat) : ∀ i, mx2 g r N i ≤ mx1 g r N
  | 0 => Nat.zero_le _
  | i + 1 => by
    have ih := mx_21 g r N i
    have := mx_up g r (g i r) N
    simp only [mx2]
    omega
theorem mx_eq (g : Nat → Nat → Nat) (r N : Nat) : mx2 g r N N = mx1 g r N := Nat.le_antisymm (mx_21 g r N N) (mx_12 g r N N (Nat.le_refl _))
theorem mx1_le (g : Nat → Nat → Nat) (r : Nat) : ∀ i, mx1 g r i ≤ i
  | 0 => Nat.le_refl _
  | i + 1 => by
    have ih := mx1_le g r i
    have := cn_le g r (g i r) (i + 1)
    simp only [mx1]
    omega
theorem mx2_le (g : Nat → Nat → Nat) (r N : Nat) (i : Nat) : mx2 g r N i ≤ N := Nat.le_trans (mx_21 g r N i) (mx1_le g r N)
/-- the tally is empty -/
def tz (t : Nat → Int32) : Prop := ∀ d, d < 1000 → t d = 0
theorem s_mostAlike {n c r : Nat} (hn : n ≤ 6) (hc : c ≤ 128) (hr : r < n) {g : Nat → Nat → Nat} (hg : ∀ j r, g j r < 1000) {t y : Nat → Int32} (ht : tbR n c g t) (hy : tz y) :
    ∃ y', f_X3_mostAlike (nI r) t y (nI c) = some (nI (mx1 g r c), y') ∧ tz y' := by
  unfold f_X3_mostAlike
  refine loopK3 (A_1 := Int32) (A_2 := Int32) (A_3 := (Nat → Int32)) (F := fun k s_1 s_2 s_3 => f_X3_mostAlike_L4 (fun x2 t4 => f_X3_mostAlike_L56 (fun t56 => some (x2, t56)) (nI r) t (nI c) 2000 0 t4) (nI r) t (nI c) k s_1 s_2 s_3) (P := fun i s_1 s_2 s_3 => s_2 = nI i ∧ s_1 = nI (mx1 g r i) ∧ ∀ d, d < 1000 → s_3 d = nI (cn g r d i)) (a := 0) (N := c) (fuel := 2000) (i_1 := 0) (i_2 := 0) (i_3 := y) ?_ (Nat.zero_le _) ?_ (by omega) ⟨rfl, rfl, hy⟩
  · rintro m y1 y2 y3 ⟨z1, z2, z3⟩ e
    (try dsimp only at z1 z2 z3 e)
    subst z1; subst z2
    refine loopK2 (A_1 := Int32) (A_2 := (Nat → Int32)) (F := fun k s_1 s_2 => f_X3_mostAlike_L56 (fun t56 => some (nI (mx1 g r c), t56)) (nI r) t (nI c) k s_1 s_2) (P := fun i s_1 s_2 => s_1 = nI i ∧ ∀ d, d < 1000 → (cn g r d i ≠ 0 → s_2 d = 0) ∧ (cn g r d i = 0 → s_2 d = nI (cn g r d c))) (a := 0) (N := c) (fuel := 2000) (i_1 := 0) (i_2 := y3) ?_ (Nat.zero_le _) ?_ (by omega) ⟨rfl, fun d hd => ⟨fun h => absurd rfl h, fun _ => z3 d hd⟩⟩
    · rintro m2 w1 w2 ⟨v1, v2⟩ e2
      (try dsimp only at v1 v2 e2)
      subst v1
      refine ⟨w2, ?_, fun d hd => ?_⟩
      · rw [e, f_X3_mostAlike_L4, if_pos (nI_le (by omega) (by omega)), e2, f_X3_mostAlike_L56, if_pos (nI_le (by omega) (by omega))]
      · by_cases h : cn g r d c = 0
        · rw [(v2 d hd).2 h, h]; rfl
        · exact (v2 d hd).1 h
    · rintro m i y1 y2 - hi ⟨z1, z2⟩
      (try dsimp only at z1 z2 ⊢)
      subst z1
      have hgi := hg i r
      rw [f_X3_mostAlike_L56, if_neg (nI_ge (by omega) (by omega)), ix6, inb_nI (show 6 * i + r < 768 by omega) (by decide), gd_true, nI_clamp (show 6 * i + r < 2 ^ 31 by omega), ht i r hi hr, inb_nI hgi (by decide), gd_true, nm_eq, nI_clamp (show g i r < 2 ^ 31 by omega), nI_1]
      refine ⟨_, _, rfl, ⟨rfl, fun d hd => ?_⟩⟩
      (try dsimp only)
      rw [cn_succ]
      by_cases h : g i r = d
      · subst h
        refine ⟨fun _ => upd_s _ _ _, fun h => absurd h (by simp)⟩
      · rw [if_neg h, upd_n _ _ (fun q => h q.symm), Nat.add_zero]
        exact z2 d hd
  · rintro m i y1 y2 y3 - hi ⟨z1, z2, z3⟩
    (try dsimp only at z1 z2 z3 ⊢)
    subst z1; subst z2
    have hgi := hg i r
    have h1 := mx1_le g r i
    have h2 := cn_le g r (g i r) i
    rw [f_X3_mostAlike_L4, if_neg (nI_ge (by omega) (by omega)), ix6]
    simp only [inb_nI (show 6 * i + r < 768 by omega) (by decide), gd_true, nm_eq, nI_clamp (show 6 * i + r < 2 ^ 31 by omega), ht i r hi hr, inb_nI hgi (by decide), nI_clamp (show g i r < 2 ^ 31 by omega), nI_1, upd_s, z3 _ hgi]
    refine ⟨_, _, _, rfl, ⟨rfl, ?_, fun d hd => ?_⟩⟩
    · (try dsimp only)
      rw [mx1, cn_succ, if_pos rfl]
      by_cases h : mx1 g r i < cn g r (g i r) i + 1
      · rw [if_pos (nI_lt h (by omega))]; refine congrArg nI ?_; omega
      · rw [if_neg (nI_nlt (by omega) (by omega))]; refine congrArg nI ?_; omega
    · (try dsimp only)
      rw [cn_succ]
      by_cases h : g i r = d
      · subst h
        rw [upd_s, if_pos rfl]
      · rw [if_neg h, upd_n _ _ (fun q => h q.symm), Nat.add_zero]
        exact z3 d hd
theorem m_leaves {n c r : Nat} (hn : n ≤ 6) (hc : c ≤ 128) (hr : r < n) {g : Nat → Nat → Nat} (hg : ∀ j r, g j r < 1000) {t : Nat → Int32} (ht : tbR n c g t) : f_X12_leaves (nI r) (nI c) t = some (nI (mx1 g r c)) := by
  unfold f_X12_leaves
  refine loopK2 (A_1 := Int32) (A_2 := Int32) (F := fun k s_1 s_2 => f_X12_leaves_L4 (fun x2 => some x2) (nI r) (nI c) t k s_1 s_2) (P := fun i s_1 s_2 => s_2 = nI i ∧ s_1 = nI (mx2 g r c i)) (a := 0) (N := c) (fuel := 2000) (i_1 := 0) (i_2 := 0) ?_ (Nat.zero_le _) ?_ (by omega) ⟨rfl, rfl⟩
  · rintro m y1 y2 ⟨z1, z2⟩ e
    (try dsimp only at z1 z2 e)
    subst z1; subst z2
    rw [e, f_X12_leaves_L4, if_pos (nI_le (by omega) (by omega)), mx_eq]
  · rintro m i y1 y2 - hi ⟨z1, z2⟩
    (try dsimp only at z1 z2 ⊢)
    subst z1; subst z2
    have hgi := hg i r
    have h1 := mx2_le g r c i
    have h2 := cn_le g r (g i r) c
    rw [f_X12_leaves_L4, if_neg (nI_ge (by omega) (by omega))]
    have hin : ∀ K : Int32 → Option Int32, f_X12_leaves_L18 K (nI r) (nI i) (nI c) t 2000 0 0 = K (nI (cn g r (g i r) c)) := by
      intro K
      refine gathers (F := f_X12_leaves_L18 K (nI r) (nI i) (nI c) t) (k := K) ?_ ?_ (by omega)
      · intro m acc; rw [f_X12_leaves_L18, if_pos (nI_le (by omega) (by omega))]
      · intro m j hj
        have hgj := hg j r
        rw [f_X12_leaves_L18, if_neg (nI_ge (by omega) (by omega)), ix6', ix6']
        simp only [inb_nI (show 6 * j + r < 768 by omega) (by decide), inb_nI (show 6 * i + r < 768 by omega) (by decide), gd_true, nm_eq, nI_clamp (show 6 * i + r < 2 ^ 31 by omega), nI_clamp (show 6 * j + r < 2 ^ 31 by omega), ht i r hi hr, ht j r hj hr, nI_1, Int32.add_zero, sm]
        by_cases h : g j r = g i r
        · rw [if_pos (by rw [h]), if_pos h]
        · rw [if_neg (by rw [nI_eq (by omega) (by omega)]; exact h), if_neg h]; rfl
    rw [hin, nI_1]
    by_cases h : cn g r (g i r) c ≤ mx2 g r c i
    · rw [if_pos (nI_le h (by omega))]
      refine ⟨_, _, rfl, ⟨rfl, ?_⟩⟩
      (try dsimp only); rw [mx2]; refine congrArg nI ?_; omega
    · rw [if_neg (nI_ge (by omega) (by omega))]
      refine ⟨_, _, rfl, ⟨rfl, ?_⟩⟩
      (try dsimp only); rw [mx2]; refine congrArg nI ?_; omega
/-- the reach to be asked for, and what is left then -/
def ch (R : Nat → Nat → Nat) (c : Nat) (g : Nat → Nat → Nat) : Nat → Option (Nat × Nat)
  | 0 => none
  | r + 1 => if R 10 r = 0 ∧ 0 < c then (match ch R c g r with
    | none => some (r, mx1 g r c)
    | some q => if mx1 g r c < q.2 then some (r, mx1 g r c) else some q) else ch R c g r
theorem ch_le (R : Nat → Nat → Nat) (c : Nat) (g : Nat → Nat → Nat) : ∀ r q, ch R c g r = some q → q.1 < r ∧ q.2 ≤ c
  | 0, q, h => by cases h
  | r + 1, q, h => by
    have ih := ch_le R c g r
    have hm := mx1_le g r c
    simp only [ch] at h
    split at h
    · cases e : ch R c g r with
      | none =>
        rw [e] at h
        simp only [Option.some.injEq] at h
        subst h
        exact ⟨Nat.lt_succ_self _, hm⟩
      | some x =>
        rw [e] at h
        have := ih x e
        simp only at h
        split at h
        · injection h with h; subst h; exact ⟨Nat.lt_succ_self _, hm⟩
        · injection h with h; subst h; omega
    · have := ih q h; omega
def en1 : Option (Nat × Nat) → Int32
  | none => -2
  | some q => nI q.1
def en2 : Option (Nat × Nat) → Int32
  | none => -2
  | some q => nI q.2
theorem mI_n {x : Nat} (hx : x ≤ 901) : mI x = -1 ↔ x = 0 := by
  cases x with
  | zero => simp [mI]
  | succ y =>
    constructor
    · intro h
      rw [mI, i32_eq, nI_toInt (by omega)] at h
      have : (-1 : Int32).toInt = -1 := rfl
      omega
    · intro h; omega
theorem ch_0 (R : Nat → Nat → Nat) (g : Nat → Nat → Nat) : ∀ r, ch R 0 g r = none
  | 0 => rfl
  | r + 1 => by simp [ch, ch_0 R g r]
theorem ch_n {R : Nat → Nat → Nat} {c r : Nat} {g : Nat → Nat → Nat} (hm : R 10 r = 0) (hc : 0 < c) (e : ch R c g r = none) : ch R c g (r + 1) = some (r, mx1 g r c) := by rw [ch, if_pos ⟨hm, hc⟩, e]
theorem ch_l {R : Nat → Nat → Nat} {c r : Nat} {g : Nat → Nat → Nat} {q : Nat × Nat} (hm : R 10 r = 0) (hc : 0 < c) (e : ch R c g r = some q) (h : mx1 g r c < q.2) : ch R c g (r + 1) = some (r, mx1 g r c) := by rw [ch, if_pos ⟨hm, hc⟩, e]; exact if_pos h
theorem ch_g {R : Nat → Nat → Nat} {c r : Nat} {g : Nat → Nat → Nat} {q : Nat × Nat} (hm : R 10 r = 0) (hc : 0 < c) (e : ch R c g r = some q) (h : ¬ mx1 g r c < q.2) : ch R c g (r + 1) = some q := by rw [ch, if_pos ⟨hm, hc⟩, e]; exact if_neg h
theorem ch_o {R : Nat → Nat → Nat} {c r : Nat} {g : Nat → Nat → Nat} (hm : ¬ R 10 r = 0) : ch R c g (r + 1) = ch R c g r := by rw [ch, if_neg (fun h => hm h.1)]
theorem s_choose {R : Nat → Nat → Nat} (hR : rvOK R) {c : Nat} (hc : c ≤ 128) {g : Nat → Nat → Nat} (hg : ∀ j r, g j r < 1000) {t y mud : Nat → Int32} (ht : tbR (R 0 0) c g t) (hy : tz y) (hm : ∀ r, r < R 0 0 → mud r = mI (R 10 r)) (a0 l0 : Int32) :
    ∃ y', f_X3_choose t y (nI c) a0 l0 (nI (R 0 0)) mud = some (y', en1 (ch R c g (R 0 0)), en2 (ch R c g (R 0 0))) ∧ tz y' := by
  have hn := hR.1.2.1
  have hn1 := hR.1.1
  unfold f_X3_choose
  by_cases h0 : c = 0
  · subst h0
    refine ⟨y, ?_, hy⟩
    rw [f_X3_choose_L14, if_neg (show ¬ nI (R 0 0) ≤ 0 from nI_ge (a := 0) (by omega) (by omega)), if_pos (show nI 0 ≤ 0 from by decide), ch_0]; rfl
  · refine loopK4 (A_1 := Int32) (A_2 := (Nat → Int32)) (A_3 := Int32) (A_4 := Int32) (F := fun k s_1 s_2 s_3 s_4 => f_X3_choose_L14 (fun x1 x2 x3 => some (x1, x2, x3)) t (nI c) (nI (R 0 0)) mud k s_1 s_2 s_3 s_4) (P := fun r s_1 s_2 s_3 s_4 => s_1 = nI r ∧ tz s_2 ∧ s_3 = en1 (ch R c g r) ∧ s_4 = en2 (ch R c g r)) (a := 0) (N := R 0 0) (fuel := 2000) (i_1 := 0) (i_2 := y) (i_3 := -2) (i_4 := -2) ?_ (Nat.zero_le _) ?_ (by omega) ⟨rfl, hy, rfl, rfl⟩
    · rintro m y1 y2 y3 y4 ⟨z1, z2, z3, z4⟩ e
      (try dsimp only at z1 z2 z3 z4 e)
      subst z1; subst z3; subst z4
      refine ⟨y2, ?_, z2⟩
      rw [e, f_X3_choose_L14, if_pos (nI_le (by omega) (by omega))]
    · rintro m r y1 y2 y3 y4 - hr ⟨z1, z2, z3, z4⟩
      (try dsimp only at z1 z2 z3 z4 ⊢)
      subst z1; subst z3; subst z4
      have h10 := (hR.2.1 r hr).2.2.2.2.2
      have hcp : 0 < c := by omega
      have hmx := mx1_le g r c
      rw [f_X3_choose_L14, if_neg (nI_ge (by omega) (by omega)), if_neg (show ¬ nI c ≤ 0 from nI_ge (a := 0) (by omega) (by omega)), inb_nI (show r < 6 by omega) (by decide), gd_true, nI_clamp (show r < 2 ^ 31 by omega), hm r hr, nI_1]
      by_cases hmu : R 10 r = 0
      · obtain ⟨y', ey, hy'⟩ := s_mostAlike hn hc hr hg ht z2
        rw [if_pos ((mI_n h10).mpr hmu), ey, bind_some']
        (try dsimp only)
        cases ec : ch R c g r with
        | none =>
          rw [if_pos (show en1 none = -2 from rfl)]
          refine ⟨_, _, _, _, rfl, ?_⟩
          (try dsimp only)
          rw [ch_n hmu hcp ec]
          exact ⟨rfl, hy', rfl, rfl⟩
        | some q =>
          have hq := ch_le R c g r q ec
          rw [if_neg (show ¬ en1 (some q) = -2 from nI_m2 (by omega))]
          by_cases h : mx1 g r c < q.2
          · rw [if_neg (show ¬ en2 (some q) ≤ nI (mx1 g r c) from nI_ge h (by omega))]
            refine ⟨_, _, _, _, rfl, ?_⟩
            (try dsimp only)
            rw [ch_l hmu hcp ec h]
            exact ⟨rfl, hy', rfl, rfl⟩
          · rw [if_pos (show en2 (some q) ≤ nI (mx1 g r c) from nI_le (by omega) (by omega))]
            refine ⟨_, _, _, _, rfl, ?_⟩
            (try dsimp only)
            rw [ch_g hmu hcp ec h]
            exact ⟨rfl, hy', rfl, rfl⟩
      · rw [if_neg (fun h => hmu ((mI_n h10).mp h))]
        refine ⟨_, _, _, _, rfl, ?_⟩
        (try dsimp only)
        rw [ch_o hmu]
        exact ⟨rfl, z2, rfl, rfl⟩
theorem m_toAskL {R : Nat → Nat → Nat} (hR : rvOK R) {c : Nat} (hc : c ≤ 128) {g : Nat → Nat → Nat} (hg : ∀ j r, g j r < 1000) {t mud : Nat → Int32} (ht : tbR (R 0 0) c g t) (hm : ∀ r, r < R 0 0 → mud r = mI (R 10 r)) {β : Type} {K : Int32 → Int32 → Option (Int32 × (Nat → Int32) × (Nat → Int32) × (Nat → Int32) × (Nat → Int32) × Int32 × Int32 × Int32 × Int32 × (Nat → Int32) × Int32)} :
    f_X12_toAsk_L15 K (nI (R 0 0)) mud (nI c) t 2000 (-2) 0 (-2) = K (en1 (ch R c g (R 0 0))) (en2 (ch R c g (R 0 0))) := by
  have hn := hR.1.2.1
  have hn1 := hR.1.1
  by_cases h0 : c = 0
  · subst h0
    rw [f_X12_toAsk_L15, if_neg (show ¬ nI (R 0 0) ≤ 0 from nI_ge (a := 0) (by omega) (by omega)), if_pos (show nI 0 ≤ 0 from by decide), ch_0]; rfl
  · refine loopK3 (A_1 := Int32) (A_2 := Int32) (A_3 := Int32) (F := fun k s_1 s_2 s_3 => f_X12_toAsk_L15 K (nI (R 0 0)) mud (nI c) t k s_1 s_2 s_3) (P := fun r s_1 s_2 s_3 => s_2 = nI r ∧ s_1 = en1 (ch R c g r) ∧ s_3 = en2 (ch R c g r)) (a := 0) (N := R 0 0) (fuel := 2000) (i_1 := -2) (i_2 := 0) (i_3 := -2) ?_ (Nat.zero_le _) ?_ (by omega) ⟨rfl, rfl, rfl⟩
    · rintro m y1 y2 y3 ⟨z1, z2, z3⟩ e
      (try dsimp only at z1 z2 z3 e)
      subst z1; subst z2; subst z3
      rw [e, f_X12_toAsk_L15, if_pos (nI_le (by omega) (by omega))]
    · rintro m r y1 y2 y3 - hr ⟨z1, z2, z3⟩
      (try dsimp only at z1 z2 z3 ⊢)
      subst z1; subst z2; subst z3
      have h10 := (hR.2.1 r hr).2.2.2.2.2
      have hcp : 0 < c := by omega
      have hmx := mx1_le g r c
      rw [f_X12_toAsk_L15, if_neg (nI_ge (by omega) (by omega)), if_neg (show ¬ nI c ≤ 0 from nI_ge (a := 0) (by omega) (by omega)), inb_nI (show r < 6 by omega) (by decide), gd_true, nI_clamp (show r < 2 ^ 31 by omega), hm r hr, nI_1]
      by_cases hmu : R 10 r = 0
      · rw [if_pos ((mI_n h10).mpr hmu), m_leaves hn hc hr hg ht]
        simp only [bind_some']
        cases ec : ch R c g r with
        | none =>
          rw [if_pos (show en1 none = -2 from rfl)]
          refine ⟨_, _, _, rfl, ?_⟩
          (try dsimp only)
          rw [ch_n hmu hcp ec]
          exact ⟨rfl, rfl, rfl⟩
        | some q =>
          have hq := ch_le R c g r q ec
          rw [if_neg (show ¬ en1 (some q) = -2 from nI_m2 (by omega))]
          by_cases h : mx1 g r c < q.2
          · rw [if_pos (show nI (mx1 g r c) < en2 (some q) from nI_lt h (by omega))]
            refine ⟨_, _, _, rfl, ?_⟩
            (try dsimp only)
            rw [ch_l hmu hcp ec h]
            exact ⟨rfl, rfl, rfl⟩
          · rw [if_neg (show ¬ nI (mx1 g r c) < en2 (some q) from nI_nlt (by omega) (by omega))]
            refine ⟨_, _, _, rfl, ?_⟩
            (try dsimp only)
            rw [ch_g hmu hcp ec h]
            exact ⟨rfl, rfl, rfl⟩
      · rw [if_neg (fun h => hmu ((mI_n h10).mp h))]
        refine ⟨_, _, _, rfl, ?_⟩
        (try dsimp only)
        rw [ch_o hmu]
        exact ⟨rfl, rfl, rfl⟩
theorem j_ask {R : Nat → Nat → Nat} (hR : rvOK R) {L U f sd : Nat} {V : Nat → Nat} (hL : L < 2 ^ R 0 1) (hf : f ≤ 999) {kind wide bank at_ pulls kind2 wide2 bank2 at2 pulls2 v : Nat → Int32} (T : tR R kind wide bank at_ pulls) (T2 : tR R kind2 wide2 bank2 at2 pulls2) (hv : vR (R 0 1) v L U f sd V) {mud mud2 : Nat → Int32} (hm : ∀ r, r < R 0 0 → mud r = mI (R 10 r)) (hm2 : ∀ r, r < R 0 0 → mud2 r = mI (R 10 r)) (w co de sp ha : Nat → Int32) (be al si : Int32) (t y : Nat → Int32) (hy : tz y) (c0 s0 a0 q0 l0 tr : Int32) (th tr2 wh : Int32) (wi wa de2 sp2 : Nat → Int32) (be2 c2 s2 a2 : Int32) (t2 : Nat → Int32) (l2 : Int32) :
    ∃ o o2, f_X10_ask (nI L) (nI f) w co de sp ha be al si t y c0 s0 a0 q0 l0 (nI (R 0 0)) (nI (R 0 1)) kind wide bank mud at_ pulls tr = some o ∧ f_X12_ask th tr2 wh (nI (R 0 0)) (nI (R 0 1)) kind2 wide2 bank2 mud2 at2 pulls2 v wi wa de2 sp2 be2 c2 s2 a2 t2 l2 = some o2 ∧ o2.1 = o.1 ∧ o2.2.1 = 0 ∧ o2.2.2.1 = o.2.2.2.2.2.2.2.2.2.2.2.2.2.2.2.2 ∧ o2.2.2.2.1 = -1 ∧ o.2.2.2.2.2.2.2.2.2.2.2.2.2.2.2.2 = 0 ∧ tz o.2.2.2.2.2.2.2.2.2.2.1 := by
  have hk := hR.1.2.2.1
  have h128 : 2 ^ R 0 1 ≤ 2 ^ 7 := Nat.pow_le_pow_right (by decide) hk
  obtain ⟨hl1, hl2⟩ := fs_le R L f (2 ^ R 0 1)
  have hg : ∀ j r, (fs R L f (2 ^ R 0 1)).2.2.2 j r < 1000 := fun j r => by have := hl2 j r; omega
  obtain ⟨k1, k2, k3, k4, k5, k6, k7, k8, k9, e, et⟩ := s_search3 hR hL (f := f) (by omega) T hm w co de sp ha be al si t c0 s0 a0
  obtain ⟨m1, m2, m3, m4, m5, m6, em, et2⟩ := m_letsOut hR hL (f := f) (by omega) T2 hv hm2 wi wa de2 sp2 be2 c2 s2 a2 t2
  obtain ⟨y', ey, hy'⟩ := s_choose hR (by omega) hg et hy hm q0 l0
  unfold f_X10_ask f_X12_ask f_X12_toAsk
  rw [s_noRiver hR, bind_some', if_pos rfl, e, bind_some', em, bind_some']
  (try dsimp only)
  rw [ey, bind_some', m_toAskL hR (by omega) hg et2 hm2 (β := Unit), bind_some']
  exact ⟨_, _, rfl, rfl, rfl, rfl, rfl, rfl, rfl, hy'⟩
theorem j_askLeaves {R : Nat → Nat → Nat} (hR : rvOK R) {L U f sd : Nat} {V : Nat → Nat} (hL : L < 2 ^ R 0 1) (hf : f ≤ 999) {kind wide bank at_ pulls kind2 wide2 bank2 at2 pulls2 v : Nat → Int32} (T : tR R kind wide bank at_ pulls) (T2 : tR R kind2 wide2 bank2 at2 pulls2) (hv : vR (R 0 1) v L U f sd V) {mud mud2 : Nat → Int32} (hm : ∀ r, r < R 0 0 → mud r = mI (R 10 r)) (hm2 : ∀ r, r < R 0 0 → mud2 r = mI (R 10 r)) (w co de sp ha : Nat → Int32) (be al si : Int32) (t y : Nat → Int32) (hy : tz y) (c0 s0 a0 q0 l0 tr : Int32) (th tr2 wh : Int32) (wi wa de2 sp2 : Nat → Int32) (be2 c2 s2 a2 : Int32) (t2 : Nat → Int32) (l2 : Int32) :
    ∃ o o2, f_X10_askLeaves (nI L) (nI f) w co de sp ha be al si t y c0 s0 a0 q0 l0 (nI (R 0 0)) (nI (R 0 1)) kind wide bank mud at_ pulls tr = some o ∧ f_X12_askLeaves th tr2 wh (nI (R 0 0)) (nI (R 0 1)) kind2 wide2 bank2 mud2 at2 pulls2 v wi wa de2 sp2 be2 c2 s2 a2 t2 l2 = some o2 ∧ o2.1 = o.1 ∧ o2.2.1 = 0 ∧ o2.2.2.1 = o.2.2.2.2.2.2.2.2.2.2.2.2.2.2.2.2 ∧ o2.2.2.2.1 = -1 ∧ o.2.2.2.2.2.2.2.2.2.2.2.2.2.2.2.2 = 0 ∧ tz o.2.2.2.2.2.2.2.2.2.2.1 := by
  have hk := hR.1.2.2.1
  have h128 : 2 ^ R 0 1 ≤ 2 ^ 7 := Nat.pow_le_pow_right (by decide) hk
  obtain ⟨hl1, hl2⟩ := fs_le R L f (2 ^ R 0 1)
  have hg : ∀ j r, (fs R L f (2 ^ R 0 1)).2.2.2 j r < 1000 := fun j r => by have := hl2 j r; omega
  obtain ⟨k1, k2, k3, k4, k5, k6, k7, k8, k9, e, et⟩ := s_search3 hR hL (f := f) (by omega) T hm w co de sp ha be al si t c0 s0 a0
  obtain ⟨m1, m2, m3, m4, m5, m6, em, et2⟩ := m_letsOut hR hL (f := f) (by omega) T2 hv hm2 wi wa de2 sp2 be2 c2 s2 a2 t2
  obtain ⟨y', ey, hy'⟩ := s_choose hR (by omega) hg et hy hm q0 l0
  unfold f_X10_askLeaves f_X12_askLeaves f_X12_toAsk
  rw [s_noRiver hR, bind_some', if_pos rfl, e, bind_some', em, bind_some']
  (try dsimp only)
  rw [ey, bind_some', m_toAskL hR (by omega) hg et2 hm2 (β := Unit), bind_some']
  exact ⟨_, _, rfl, rfl, rfl, rfl, rfl, rfl, rfl, hy'⟩
