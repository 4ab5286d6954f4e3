/-! river -/
theorem s_begin {R : Nat → Nat → Nat} (hk : R 0 1 ≤ 7) {l : Nat} (a1 a2 a3 a4 : Int32) (w : (Nat → Int32)) : ∃ w', f_X7_begin a1 a2 a3 a4 w (nI (R 0 4)) (nI (R 0 1)) (nI l) = some (nI (ld (2 ^ R 0 1 - 1) l), 0, nI (R 0 4), 0, w') ∧ ∀ j, j < 7 → w' j = 0 := by
  unfold f_X7_begin
  have h1 : 1 ≤ 2 ^ R 0 1 := Nat.one_le_two_pow
  rw [nm_eq, s_l' _ (by omega), show nI (2 ^ R 0 1) - 1 = nI (2 ^ R 0 1 - 1) from nI_sub h1, andn_nI]
  refine loopK2 (A_1 := Int32) (A_2 := (Nat → Int32)) (F := fun n s_1 s_2 => f_X7_begin_L39 (fun w => some (nI (ld (2 ^ R 0 1 - 1) l), 0, nI (R 0 4), 0, w)) n s_1 s_2) (P := fun i s_1 s_2 => s_1 = nI i ∧ ∀ r, r < i → s_2 r = 0) (a := 0) (N := 7) (fuel := 2000) (i_1 := 0) (i_2 := w) ?_ (Nat.zero_le _) ?_ (by omega) ⟨rfl, fun r h => absurd h (by omega)⟩
  · rintro m y1 y2 ⟨rfl, z2⟩ e
    exact ⟨y2, by rw [e, f_X7_begin_L39, if_pos (show (7 : Int32) ≤ nI 7 by decide)], z2⟩
  · rintro m i y1 y2 - hi ⟨rfl, z2⟩
    rw [f_X7_begin_L39, if_neg (show ¬ (7 : Int32) ≤ nI i from nI_ge (b := 7) (by omega) (by decide)), inb_nI (show i < 7 by omega) (by decide), gd_true, nm_eq, nI_clamp (show i < 2 ^ 31 by omega), nI_1 i]
    refine ⟨_, _, rfl, rfl, fun r hr => ?_⟩
    by_cases e : r = i
    · subst e; rw [upd_s]
    · rw [upd_n _ _ e]; exact z2 r (by omega)
theorem m_beginV {k l : Nat} (hk : k ≤ 7) (hl : l < 2 ^ k) (v : (Nat → Int32)) : ∃ v', (∀ KK : (Nat → Int32) → Option (Int32 × Int32 × Int32 × Value × Int32 × Int32 × Int32 × Int32 × Int32 × Int32 × Int32 × Int32 × Int32 × (Nat → Int32) × (Nat → Int32) × (Nat → Int32) × (Nat → Int32) × (Nat → Int32) × (Nat → Int32) × (Nat → Int32) × (Nat → Int32) × (Nat → Int32) × (Nat → Int32) × (Nat → Int64) × (Nat → Int32) × (Nat → Int32) × Int32 × Int32 × Int32 × Int32 × Int32 × Int32 × Int64 × (Nat → Int32) × Int32 × Int32), f_X12_riverR_L99 (fun t => f_X12_riverR_L120 KK (nI k) (nI l) 2000 0 t) 2000 0 v = KK v') ∧ (∀ j, j < k → v' j = nI (if l.testBit j = true then 0 else 1)) ∧ ∀ j, 7 ≤ j → j < 16 → v' j = 0 := by
  have hl31 := pow_k hk hl
  have z99 : ∀ (d i : Nat) (fuel : Nat) (x : (Nat → Int32)), i + d = 16 → d < fuel → (∀ r, r < i → x r = 0) → ∃ x', (∀ KK : (Nat → Int32) → Option (Int32 × Int32 × Int32 × Value × Int32 × Int32 × Int32 × Int32 × Int32 × Int32 × Int32 × Int32 × Int32 × (Nat → Int32) × (Nat → Int32) × (Nat → Int32) × (Nat → Int32) × (Nat → Int32) × (Nat → Int32) × (Nat → Int32) × (Nat → Int32) × (Nat → Int32) × (Nat → Int32) × (Nat → Int64) × (Nat → Int32) × (Nat → Int32) × Int32 × Int32 × Int32 × Int32 × Int32 × Int32 × Int64 × (Nat → Int32) × Int32 × Int32), f_X12_riverR_L99 KK fuel (nI i) x = KK x') ∧ ∀ r, r < 16 → x' r = 0 := by
    intro d
    induction d with
    | zero =>
      intro i fuel x hi hf hx
      obtain ⟨m, rfl⟩ := Nat.exists_eq_succ_of_ne_zero (show fuel ≠ 0 by omega)
      have e : i = 16 := by omega
      subst e
      exact ⟨x, fun KK => by rw [f_X12_riverR_L99, if_pos (show (16 : Int32) ≤ nI 16 by decide)], hx⟩
    | succ d ih =>
      intro i fuel x hi hf hx
      obtain ⟨m, rfl⟩ := Nat.exists_eq_succ_of_ne_zero (show fuel ≠ 0 by omega)
      obtain ⟨x', e', h'⟩ := ih (i + 1) m (upd x i 0) (by omega) (by omega) (fun r hr => by
        by_cases e : r = i
        · subst e; rw [upd_s]
        · rw [upd_n _ _ e]; exact hx r (by omega))
      refine ⟨x', fun KK => ?_, h'⟩
      rw [f_X12_riverR_L99, if_neg (show ¬ (16 : Int32) ≤ nI i from nI_ge (b := 16) (by omega) (by decide)), inb_nI (show i < 16 by omega) (by decide), gd_true, nm_eq, nI_clamp (show i < 2 ^ 31 by omega), nI_1 i]
      exact e' KK
  have z120 : ∀ (d i : Nat) (fuel : Nat) (x : (Nat → Int32)), i + d = k → d < fuel → (∀ r, r < i → x r = nI (if l.testBit r = true then 0 else 1)) → (∀ r, 7 ≤ r → r < 16 → x r = 0) → ∃ x', (∀ KK : (Nat → Int32) → Option (Int32 × Int32 × Int32 × Value × Int32 × Int32 × Int32 × Int32 × Int32 × Int32 × Int32 × Int32 × Int32 × (Nat → Int32) × (Nat → Int32) × (Nat → Int32) × (Nat → Int32) × (Nat → Int32) × (Nat → Int32) × (Nat → Int32) × (Nat → Int32) × (Nat → Int32) × (Nat → Int32) × (Nat → Int64) × (Nat → Int32) × (Nat → Int32) × Int32 × Int32 × Int32 × Int32 × Int32 × Int32 × Int64 × (Nat → Int32) × Int32 × Int32), f_X12_riverR_L120 KK (nI k) (nI l) fuel (nI i) x = KK x') ∧ (∀ r, r < k → x' r = nI (if l.testBit r = true then 0 else 1)) ∧ ∀ r, 7 ≤ r → r < 16 → x' r = 0 := by
    intro d
    induction d with
    | zero =>
      intro i fuel x hi hf hx hx2
      obtain ⟨m, rfl⟩ := Nat.exists_eq_succ_of_ne_zero (show fuel ≠ 0 by omega)
      have e : i = k := by omega
      subst e
      exact ⟨x, fun KK => by rw [f_X12_riverR_L120, if_pos (nI_le (by omega) (by omega))], hx, hx2⟩
    | succ d ih =>
      intro i fuel x hi hf hx hx2
      obtain ⟨m, rfl⟩ := Nat.exists_eq_succ_of_ne_zero (show fuel ≠ 0 by omega)
      obtain ⟨x', e', h', h2'⟩ := ih (i + 1) m (upd x i (nI (if l.testBit i = true then 0 else 1))) (by omega) (by omega) (fun r hr => by
        by_cases e : r = i
        · subst e; rw [upd_s]
        · rw [upd_n _ _ e]; exact hx r (by omega)) (fun r h7 hr => by rw [upd_n _ _ (by omega)]; exact hx2 r h7 hr)
      refine ⟨x', fun KK => ?_, h', h2'⟩
      rw [f_X12_riverR_L120, if_neg (nI_ge (by omega) (by omega)), bit_nI hl31 (by omega), bind_some', z_add, inb_nI (show i < 16 by omega) (by decide), gd_true, gd_true, nm_eq, nm_eq, nI_clamp (show i < 2 ^ 31 by omega), nI_1 i]
      have e2 := e' KK
      by_cases hb : l.testBit i = true
      · rw [if_pos hb] at e2
        rw [if_pos hb, if_neg one_ne]
        exact e2
      · rw [if_neg hb] at e2
        rw [if_neg hb, if_pos rfl]
        exact e2
  obtain ⟨x, ex, hx⟩ := z99 16 0 2000 v (by omega) (by omega) (fun r hr => absurd hr (by omega))
  obtain ⟨x', ex', h1, h2⟩ := z120 k 0 2000 x (by omega) (by omega) (fun r hr => absurd hr (by omega)) (fun r _ hr => hx r hr)
  exact ⟨x', fun KK => (ex _).trans (ex' KK), h1, h2⟩
/-- the state at the beginning -/
theorem now_begin {R : Nat → Nat → Nat} {l : Nat} (hD : drOK R l) {w v : (Nat → Int32)} (hw : ∀ j, j < 7 → w j = 0) (hv : ∀ j, j < R 0 1 → v j = nI (if l.testBit j = true then 0 else 1)) (hv2 : ∀ j, 7 ≤ j → j < 16 → v j = 0) : nowE R 0 (nI (ld (2 ^ R 0 1 - 1) l)) 0 (nI (R 0 4)) 0 w (upd v 14 (nI (R 0 4))) := by
  obtain ⟨a1, a2, a3, a4, a5, a6, a7, a8, a9, a10, a11, a12⟩ := hD
  have h1 : 1 ≤ 2 ^ R 0 1 := Nat.one_le_two_pow
  have hle := ld_le (2 ^ R 0 1 - 1) l
  refine ⟨(ld (2 ^ R 0 1 - 1) l, 0, R 0 4, 0, fun _ => 0), ⟨rfl, rfl, rfl, rfl, fun j hj => hw j (by omega)⟩, ⟨fun j hj => ?_, fun j hj => ?_, upd_s _ _ _, ?_⟩, ⟨⟨by omega, Nat.two_pow_pos _, fun j _ z => by simp at z, Nat.zero_le _, fun _ _ => Nat.zero_le _⟩, (show R 0 4 ≤ 999 by omega)⟩⟩
  · rw [upd_n _ _ (by omega), hv j hj]
    (try dsimp only)
    rw [ld_test, Nat.testBit_two_pow_sub_one]
    by_cases hb : l.testBit j = true
    · simp [hj, hb]
    · simp [hj, hb]
  · rw [upd_n _ _ (by omega)]; exact hv2 _ (by omega) (by omega)
  · rw [upd_n _ _ (by omega)]; exact hv2 15 (by omega) (by omega)
set_option maxHeartbeats 1000000 in
theorem j_river {t : Nat} (ht9 : t ≤ 900) {tc tm : (Nat → Int32)} (hb : ∀ i, i < t → tc i = tm i ∧ -128 ≤ (tm i).toInt ∧ (tm i).toInt < 128) (p1 : Int32) (names : Nat → Int64) (lines nums : (Nat → Int32)) (fa fp : Int32) (qd : Nat) (fl ta re ro ha bo mu lo : Int32) (ki wi ba md at_ pu be st bw bd : (Nat → Int32)) (named en at0 s0 pl0 v0 : Int32) (cd0 : Int64) (la bu fw se : Int32) (we : (Nat → Int32)) (old cnt mk : Int32) (qt : Nat) (tr : Int32) (th tr2 wh : Int32) (vr : Value) (so2 pl2 n2 wa2 : Int32) (wd2 : Int64) (v : (Nat → Int32)) (acts marks : Int32) :
    (f_X10_river p1 tc names lines nums (nI t) fa fp qd fl ta re ro ha bo mu lo ki wi ba md at_ pu be st bw bd named en at0 s0 pl0 v0 cd0 la bu fw se we old cnt mk qt tr = some (-1, names, lines, nums, nI t, fa, fp, qd, fl, ta, re, ro, ha, bo, mu, lo, ki, wi, ba, md, at_, pu, be, st, bw, bd, named, en, at0, s0, pl0, v0, cd0, la, bu, fw, se, we, old, cnt, mk, qt, 2) ∧ f_X12_riverD p1 th tr2 wh (nI t) = some (-1, 0, 2, -1)) ∨
    (¬ p1 < 0 ∧ p1 ≤ nI t ∧
      ((∃ F q o, badF F ∧ f_X10_river p1 tc names lines nums (nI t) fa fp qd fl ta re ro ha bo mu lo ki wi ba md at_ pu be st bw bd named en at0 s0 pl0 v0 cd0 la bu fw se we old cnt mk qt tr = some o ∧ o.1 = -1 ∧ o.2.2.2.2.1 = 0 ∧ o.2.2.2.2.2.1 = F ∧ o.2.2.2.2.2.2.1 = nI q ∧ o.2.2.2.2.2.2.2.1 = qd ∧ o.2.2.2.2.2.2.2.2.2.2.2.2.2.2.2.2.2.2.2.2.2.2.2.2.2.2.2.2.2.2.2.2.2.1 = la ∧ o.2.2.2.2.2.2.2.2.2.2.2.2.2.2.2.2.2.2.2.2.2.2.2.2.2.2.2.2.2.2.2.2.2.2.1 = bu ∧ o.2.2.2.2.2.2.2.2.2.2.2.2.2.2.2.2.2.2.2.2.2.2.2.2.2.2.2.2.2.2.2.2.2.2.2.1 = fw ∧ o.2.2.2.2.2.2.2.2.2.2.2.2.2.2.2.2.2.2.2.2.2.2.2.2.2.2.2.2.2.2.2.2.2.2.2.2.1 = se ∧ o.2.2.2.2.2.2.2.2.2.2.2.2.2.2.2.2.2.2.2.2.2.2.2.2.2.2.2.2.2.2.2.2.2.2.2.2.2.1 = we ∧ o.2.2.2.2.2.2.2.2.2.2.2.2.2.2.2.2.2.2.2.2.2.2.2.2.2.2.2.2.2.2.2.2.2.2.2.2.2.2.1 = old ∧ o.2.2.2.2.2.2.2.2.2.2.2.2.2.2.2.2.2.2.2.2.2.2.2.2.2.2.2.2.2.2.2.2.2.2.2.2.2.2.2.1 = cnt ∧ o.2.2.2.2.2.2.2.2.2.2.2.2.2.2.2.2.2.2.2.2.2.2.2.2.2.2.2.2.2.2.2.2.2.2.2.2.2.2.2.2.1 = mk ∧ o.2.2.2.2.2.2.2.2.2.2.2.2.2.2.2.2.2.2.2.2.2.2.2.2.2.2.2.2.2.2.2.2.2.2.2.2.2.2.2.2.2.1 = qt ∧ o.2.2.2.2.2.2.2.2.2.2.2.2.2.2.2.2.2.2.2.2.2.2.2.2.2.2.2.2.2.2.2.2.2.2.2.2.2.2.2.2.2.2 = 4 ∧ ∃ out : Nat → (Int32 × Int32 × Int32 × Value × Int32 × Int32 × Int32 × Int32 × Int32 × Int32 × Int32 × Int32 × Int32 × (Nat → Int32) × (Nat → Int32) × (Nat → Int32) × (Nat → Int32) × (Nat → Int32) × (Nat → Int32) × (Nat → Int32) × (Nat → Int32) × (Nat → Int32) × (Nat → Int32) × (Nat → Int64) × (Nat → Int32) × (Nat → Int32) × Int32 × Int32 × Int32 × Int32 × Int32 × Int32 × Int64 × (Nat → Int32) × Int32 × Int32), ∀ qr, f_X12_riverR p1 tr2 wh vr 0 0 0 0 0 0 0 0 0 (fun _ => 0) (fun _ => 0) (fun _ => 0) (fun _ => 0) (fun _ => 0) (fun _ => 0) (fun _ => 0) (fun _ => 0) (fun _ => 0) (fun _ => 0) (fun _ => 0) (fun _ => 0) (fun _ => 0) tm p1 0 so2 pl2 n2 0 wa2 wd2 v acts marks qr = some (out qr) ∧ (out qr).1 = -1 ∧ (out qr).2.1 = 4 ∧ (out qr).2.2.1 = nI q ∧ (out qr).2.2.2.1 = vr ∧ (out qr).2.2.2.2.2.2.2.2.2.2.2.2.2.2.2.2.2.2.2.2.2.2.2.2.2.2.2.2.2.2.1 = F ∧ (out qr).2.2.2.2.2.2.2.2.2.2.2.2.2.2.2.2.2.2.2.2.2.2.2.2.2.2.2.2.2.2.2.2.2.1 = v ∧ (out qr).2.2.2.2.2.2.2.2.2.2.2.2.2.2.2.2.2.2.2.2.2.2.2.2.2.2.2.2.2.2.2.2.2.2.1 = acts ∧ (out qr).2.2.2.2.2.2.2.2.2.2.2.2.2.2.2.2.2.2.2.2.2.2.2.2.2.2.2.2.2.2.2.2.2.2.2 = marks) ∨
      (∃ (R : Nat → Nat → Nat) (l : Nat) (o : (Int32 × (Nat → Int64) × (Nat → Int32) × (Nat → Int32) × Int32 × Int32 × Int32 × Nat × Int32 × Int32 × Int32 × Int32 × Int32 × Int32 × Int32 × Int32 × (Nat → Int32) × (Nat → Int32) × (Nat → Int32) × (Nat → Int32) × (Nat → Int32) × (Nat → Int32) × (Nat → Int32) × (Nat → Int32) × (Nat → Int32) × (Nat → Int32) × Int32 × Int32 × Int32 × Int32 × Int32 × Int32 × Int64 × Int32 × Int32 × Int32 × Int32 × (Nat → Int32) × Int32 × Int32 × Int32 × Nat × Int32)), rvOK R ∧ drOK R l ∧ f_X10_river p1 tc names lines nums (nI t) fa fp qd fl ta re ro ha bo mu lo ki wi ba md at_ pu be st bw bd named en at0 s0 pl0 v0 cd0 la bu fw se we old cnt mk qt tr = some o ∧ o.1 = nI (R 0 0) ∧ o.2.2.2.2.1 = 0 ∧ o.2.2.2.2.2.1 = 0 ∧ o.2.2.2.2.2.2.2.1 = qt ∧ o.2.2.2.2.2.2.2.2.2.2.2.2.2.2.2.2.2.2.2.2.2.2.2.2.2.2.2.2.2.2.2.2.2.2.2.2.2.2.2.2.2.1 = qd ∧ o.2.2.2.2.2.2.2.2.2.2.2.2.2.2.2.2.2.2.2.2.2.2.2.2.2.2.2.2.2.2.2.2.2.2.2.2.2.2.2.2.2.2 = 0 ∧ o.2.2.2.2.2.2.2.2.2.2.2.2.2.2.2.2.2.2.2.2.2.2.2.2.2.2.2.2.2.2.2.2.2.2.2.2.2.2.1 = 0 ∧ o.2.2.2.2.2.2.2.2.2.2.2.2.2.2.2.2.2.2.2.2.2.2.2.2.2.2.2.2.2.2.2.2.2.2.2.2.2.2.2.1 = 0 ∧ o.2.2.2.2.2.2.2.2.2.2.2.2.2.2.2.2.2.2.2.2.2.2.2.2.2.2.2.2.2.2.2.2.2.2.2.2.2.2.2.2.1 = 0 ∧ drF R l o.2.2.2.2.2.2.2.2.1 o.2.2.2.2.2.2.2.2.2.1 o.2.2.2.2.2.2.2.2.2.2.1 o.2.2.2.2.2.2.2.2.2.2.2.1 o.2.2.2.2.2.2.2.2.2.2.2.2.1 o.2.2.2.2.2.2.2.2.2.2.2.2.2.1 o.2.2.2.2.2.2.2.2.2.2.2.2.2.2.1 o.2.2.2.2.2.2.2.2.2.2.2.2.2.2.2.1 o.2.2.2.2.2.2.2.2.2.2.2.2.2.2.2.2.1 o.2.2.2.2.2.2.2.2.2.2.2.2.2.2.2.2.2.1 o.2.2.2.2.2.2.2.2.2.2.2.2.2.2.2.2.2.2.1 o.2.2.2.2.2.2.2.2.2.2.2.2.2.2.2.2.2.2.2.1 o.2.2.2.2.2.2.2.2.2.2.2.2.2.2.2.2.2.2.2.2.1 o.2.2.2.2.2.2.2.2.2.2.2.2.2.2.2.2.2.2.2.2.2.1 o.2.2.2.2.2.2.2.2.2.2.2.2.2.2.2.2.2.2.2.2.2.2.1 o.2.2.2.2.2.2.2.2.2.2.2.2.2.2.2.2.2.2.2.2.2.2.2.1 o.2.2.2.2.2.2.2.2.2.2.2.2.2.2.2.2.2.2.2.2.2.2.2.2.1 o.2.2.2.2.2.2.2.2.2.2.2.2.2.2.2.2.2.2.2.2.2.2.2.2.2.1 ∧ ∃ out : Nat → (Int32 × Int32 × Int32 × Value × Int32 × Int32 × Int32 × Int32 × Int32 × Int32 × Int32 × Int32 × Int32 × (Nat → Int32) × (Nat → Int32) × (Nat → Int32) × (Nat → Int32) × (Nat → Int32) × (Nat → Int32) × (Nat → Int32) × (Nat → Int32) × (Nat → Int32) × (Nat → Int32) × (Nat → Int64) × (Nat → Int32) × (Nat → Int32) × Int32 × Int32 × Int32 × Int32 × Int32 × Int32 × Int64 × (Nat → Int32) × Int32 × Int32), ∀ qr, f_X12_riverR p1 tr2 wh vr 0 0 0 0 0 0 0 0 0 (fun _ => 0) (fun _ => 0) (fun _ => 0) (fun _ => 0) (fun _ => 0) (fun _ => 0) (fun _ => 0) (fun _ => 0) (fun _ => 0) (fun _ => 0) (fun _ => 0) (fun _ => 0) (fun _ => 0) tm p1 0 so2 pl2 n2 0 wa2 wd2 v acts marks qr = some (out qr) ∧ (out qr).1 = nI (R 0 0) ∧ (out qr).2.1 = 0 ∧ (out qr).2.2.1 = -1 ∧ (out qr).2.2.2.1 = .ref qr ∧ (out qr).2.2.2.2.2.2.2.2.2.2.2.2.2.2.2.2.2.2.2.2.2.2.2.2.2.2.2.2.2.2.1 = 0 ∧ (out qr).2.2.2.2.2.2.2.2.2.2.2.2.2.2.2.2.2.2.2.2.2.2.2.2.2.2.2.2.2.2.2.2.2.2.1 = 0 ∧ (out qr).2.2.2.2.2.2.2.2.2.2.2.2.2.2.2.2.2.2.2.2.2.2.2.2.2.2.2.2.2.2.2.2.2.2.2 = 0 ∧ drF R l (out qr).2.2.2.2.1 (out qr).2.2.2.2.2.1 (out qr).2.2.2.2.2.2.1 (out qr).2.2.2.2.2.2.2.1 (out qr).2.2.2.2.2.2.2.2.1 (out qr).2.2.2.2.2.2.2.2.2.1 (out qr).2.2.2.2.2.2.2.2.2.2.1 (out qr).2.2.2.2.2.2.2.2.2.2.2.1 (out qr).2.2.2.2.2.2.2.2.2.2.2.2.2.1 (out qr).2.2.2.2.2.2.2.2.2.2.2.2.2.2.1 (out qr).2.2.2.2.2.2.2.2.2.2.2.2.2.2.2.1 (out qr).2.2.2.2.2.2.2.2.2.2.2.2.2.2.2.2.1 (out qr).2.2.2.2.2.2.2.2.2.2.2.2.2.2.2.2.2.1 (out qr).2.2.2.2.2.2.2.2.2.2.2.2.2.2.2.2.2.2.1 (out qr).2.2.2.2.2.2.2.2.2.2.2.2.2.2.2.2.2.2.2.1 (out qr).2.2.2.2.2.2.2.2.2.2.2.2.2.2.2.2.2.2.2.2.1 (out qr).2.2.2.2.2.2.2.2.2.2.2.2.2.2.2.2.2.2.2.2.2.1 (out qr).2.2.2.2.2.2.2.2.2.2.2.2.2.2.2.2.2.2.2.2.2.2.1 ∧ nowE R 0 o.2.2.2.2.2.2.2.2.2.2.2.2.2.2.2.2.2.2.2.2.2.2.2.2.2.2.2.2.2.2.2.2.2.1 o.2.2.2.2.2.2.2.2.2.2.2.2.2.2.2.2.2.2.2.2.2.2.2.2.2.2.2.2.2.2.2.2.2.2.1 o.2.2.2.2.2.2.2.2.2.2.2.2.2.2.2.2.2.2.2.2.2.2.2.2.2.2.2.2.2.2.2.2.2.2.2.1 o.2.2.2.2.2.2.2.2.2.2.2.2.2.2.2.2.2.2.2.2.2.2.2.2.2.2.2.2.2.2.2.2.2.2.2.2.1 o.2.2.2.2.2.2.2.2.2.2.2.2.2.2.2.2.2.2.2.2.2.2.2.2.2.2.2.2.2.2.2.2.2.2.2.2.2.1 (out qr).2.2.2.2.2.2.2.2.2.2.2.2.2.2.2.2.2.2.2.2.2.2.2.2.2.2.2.2.2.2.2.2.2.1))) := by
  unfold f_X10_river f_X12_riverD
  by_cases hlt : p1 < 0
  · left
    rw [if_pos hlt, if_pos hlt]
    exact ⟨rfl, rfl⟩
  · obtain ⟨n, hn, rfl⟩ := nat_of hlt
    by_cases hnt : n ≤ t
    · right
      have hle : nI n ≤ nI t := nI_le hnt (by omega)
      refine ⟨hlt, hle, ?_⟩
      obtain ⟨bt, htb⟩ := tpB_of (e := n) (tc := tc) (tm := tm) (fun i hi => hb i (by omega))
      rw [if_neg hlt, if_pos hle]
      rcases j_read (n := n) (by omega) hnt ht9 htb names lines nums fa fp fl ta re ro ha bo mu lo ki wi ba md at_ pu be st bw bd named en at0 s0 pl0 v0 cd0 pl2 n2 wa2 wd2 with ⟨R, l, names', lines', nums', fl', ta', re', ro', ha', bo', mu', lo', ki', wi', ba', md', at_', pu', be', st', bw', bd', named', c2, fl2', ta2', re2', ro2', ha2', bo2', mu2', lo2', nn2', ki2', wi2', ba2', md2', at2', pu2', be2', st2', bw2', bd2', name', sorts', nums2', m2, hD, hR1, hF, hF2, eC, eM⟩ | ⟨F, q, hBd, hq, ⟨o, eC, b1, b2, b3, b4⟩, o2, eM, b5, b6⟩
      · right
        have hrv := drOK_rv hD hR1
        obtain ⟨f1, f2', f3, f4, f5, f6, f7, f8, -⟩ := id hF
        obtain ⟨g1, g2, g3, g4, g5, g6, g7, g8, -⟩ := id hF2
        obtain ⟨w', ew, hw'⟩ := s_begin (R := R) hD.2.1 (l := l) la bu fw se we
        obtain ⟨-, a2, -, -, -, -, -, -, -, -, -, a12⟩ := id hD
        have hmv : ∃ v', (∀ KK : (Nat → Int32) → Option (Int32 × Int32 × Int32 × Value × Int32 × Int32 × Int32 × Int32 × Int32 × Int32 × Int32 × Int32 × Int32 × (Nat → Int32) × (Nat → Int32) × (Nat → Int32) × (Nat → Int32) × (Nat → Int32) × (Nat → Int32) × (Nat → Int32) × (Nat → Int32) × (Nat → Int32) × (Nat → Int32) × (Nat → Int64) × (Nat → Int32) × (Nat → Int32) × Int32 × Int32 × Int32 × Int32 × Int32 × Int32 × Int64 × (Nat → Int32) × Int32 × Int32), f_X12_riverR_L99 (fun t => f_X12_riverR_L120 KK (nI (R 0 1)) (nI l) 2000 0 t) 2000 0 v = KK v') ∧ (∀ j, j < R 0 1 → v' j = nI (if l.testBit j = true then 0 else 1)) ∧ ∀ j, 7 ≤ j → j < 16 → v' j = 0 := m_beginV a2 a12 v
        obtain ⟨v', ev, hv1, hv2⟩ := hmv
        have hq : ∀ qr, ∃ o2 : (Int32 × Int32 × Int32 × Value × Int32 × Int32 × Int32 × Int32 × Int32 × Int32 × Int32 × Int32 × Int32 × (Nat → Int32) × (Nat → Int32) × (Nat → Int32) × (Nat → Int32) × (Nat → Int32) × (Nat → Int32) × (Nat → Int32) × (Nat → Int32) × (Nat → Int32) × (Nat → Int32) × (Nat → Int64) × (Nat → Int32) × (Nat → Int32) × Int32 × Int32 × Int32 × Int32 × Int32 × Int32 × Int64 × (Nat → Int32) × Int32 × Int32), f_X12_riverR (nI n) tr2 wh vr 0 0 0 0 0 0 0 0 0 (fun _ => 0) (fun _ => 0) (fun _ => 0) (fun _ => 0) (fun _ => 0) (fun _ => 0) (fun _ => 0) (fun _ => 0) (fun _ => 0) (fun _ => 0) (fun _ => 0) (fun _ => 0) (fun _ => 0) tm (nI n) 0 so2 pl2 n2 0 wa2 wd2 v acts marks qr = some o2 ∧ o2.1 = nI (R 0 0) ∧ o2.2.1 = 0 ∧ o2.2.2.1 = -1 ∧ o2.2.2.2.1 = .ref qr ∧ o2.2.2.2.2.2.2.2.2.2.2.2.2.2.2.2.2.2.2.2.2.2.2.2.2.2.2.2.2.2.2.1 = 0 ∧ o2.2.2.2.2.2.2.2.2.2.2.2.2.2.2.2.2.2.2.2.2.2.2.2.2.2.2.2.2.2.2.2.2.2.2.1 = 0 ∧ o2.2.2.2.2.2.2.2.2.2.2.2.2.2.2.2.2.2.2.2.2.2.2.2.2.2.2.2.2.2.2.2.2.2.2.2 = 0 ∧ drF R l o2.2.2.2.2.1 o2.2.2.2.2.2.1 o2.2.2.2.2.2.2.1 o2.2.2.2.2.2.2.2.1 o2.2.2.2.2.2.2.2.2.1 o2.2.2.2.2.2.2.2.2.2.1 o2.2.2.2.2.2.2.2.2.2.2.1 o2.2.2.2.2.2.2.2.2.2.2.2.1 o2.2.2.2.2.2.2.2.2.2.2.2.2.2.1 o2.2.2.2.2.2.2.2.2.2.2.2.2.2.2.1 o2.2.2.2.2.2.2.2.2.2.2.2.2.2.2.2.1 o2.2.2.2.2.2.2.2.2.2.2.2.2.2.2.2.2.1 o2.2.2.2.2.2.2.2.2.2.2.2.2.2.2.2.2.2.1 o2.2.2.2.2.2.2.2.2.2.2.2.2.2.2.2.2.2.2.1 o2.2.2.2.2.2.2.2.2.2.2.2.2.2.2.2.2.2.2.2.1 o2.2.2.2.2.2.2.2.2.2.2.2.2.2.2.2.2.2.2.2.2.1 o2.2.2.2.2.2.2.2.2.2.2.2.2.2.2.2.2.2.2.2.2.2.1 o2.2.2.2.2.2.2.2.2.2.2.2.2.2.2.2.2.2.2.2.2.2.2.1 ∧ nowE R 0 (nI (ld (2 ^ R 0 1 - 1) l)) 0 (nI (R 0 4)) 0 w' o2.2.2.2.2.2.2.2.2.2.2.2.2.2.2.2.2.2.2.2.2.2.2.2.2.2.2.2.2.2.2.2.2.2.1 := by
          intro qr
          unfold f_X12_riverR
          rw [← Option.bind_assoc, eM, bind_some', if_pos (show (0 : Int32) ≤ 0 by decide)]
          (try dsimp only)
          rw [g4, g8, ev, show inb 14 16 = true by decide, gd_true, nm_eq]
          refine ⟨_, rfl, g3, rfl, rfl, rfl, rfl, rfl, rfl, ?_, ?_⟩
          · rw [← g4, ← g8]; exact hF2
          · rw [g1]; exact now_begin hD hw' hv1 hv2
        obtain ⟨out, hout⟩ := Classical.axiomOfChoice hq
        rw [eC, bind_some', if_neg one_ne]
        (try dsimp only)
        rw [f1, f4, f8, ew, bind_some']
        refine ⟨R, l, _, hrv, hD, rfl, f3, rfl, rfl, rfl, rfl, rfl, rfl, rfl, rfl, ?_, out, hout⟩
        rw [← f1, ← f4, ← f8]
        exact hF
      · left
        obtain ⟨kf, kf1, kf2, rfl⟩ := hBd
        have hq : ∀ qr, ∃ o2' : (Int32 × Int32 × Int32 × Value × Int32 × Int32 × Int32 × Int32 × Int32 × Int32 × Int32 × Int32 × Int32 × (Nat → Int32) × (Nat → Int32) × (Nat → Int32) × (Nat → Int32) × (Nat → Int32) × (Nat → Int32) × (Nat → Int32) × (Nat → Int32) × (Nat → Int32) × (Nat → Int32) × (Nat → Int64) × (Nat → Int32) × (Nat → Int32) × Int32 × Int32 × Int32 × Int32 × Int32 × Int32 × Int64 × (Nat → Int32) × Int32 × Int32), f_X12_riverR (nI n) tr2 wh vr 0 0 0 0 0 0 0 0 0 (fun _ => 0) (fun _ => 0) (fun _ => 0) (fun _ => 0) (fun _ => 0) (fun _ => 0) (fun _ => 0) (fun _ => 0) (fun _ => 0) (fun _ => 0) (fun _ => 0) (fun _ => 0) (fun _ => 0) tm (nI n) 0 so2 pl2 n2 0 wa2 wd2 v acts marks qr = some o2' ∧ o2'.1 = -1 ∧ o2'.2.1 = 4 ∧ o2'.2.2.1 = nI q ∧ o2'.2.2.2.1 = vr ∧ o2'.2.2.2.2.2.2.2.2.2.2.2.2.2.2.2.2.2.2.2.2.2.2.2.2.2.2.2.2.2.2.1 = nI kf ∧ o2'.2.2.2.2.2.2.2.2.2.2.2.2.2.2.2.2.2.2.2.2.2.2.2.2.2.2.2.2.2.2.2.2.2.1 = v ∧ o2'.2.2.2.2.2.2.2.2.2.2.2.2.2.2.2.2.2.2.2.2.2.2.2.2.2.2.2.2.2.2.2.2.2.2.1 = acts ∧ o2'.2.2.2.2.2.2.2.2.2.2.2.2.2.2.2.2.2.2.2.2.2.2.2.2.2.2.2.2.2.2.2.2.2.2.2 = marks := by
          intro qr
          unfold f_X12_riverR
          rw [← Option.bind_assoc, eM, bind_some', if_neg (show ¬ o2.2.2.2.2.2.2.2.2.2.2.2.2.2.2.2.2.2.2.2.2.2.2.2.2.2.2.1 ≤ 0 by rw [b5]; exact nI_nle (by omega) (by omega))]
          exact ⟨_, rfl, rfl, rfl, b6, rfl, b5, rfl, rfl, rfl⟩
        obtain ⟨out, hout⟩ := Classical.axiomOfChoice hq
        rw [eC, bind_some', if_pos b1]
        exact ⟨nI kf, q, _, ⟨kf, kf1, kf2, rfl⟩, rfl, rfl, b2, b3, b4, rfl, rfl, rfl, rfl, rfl, rfl, rfl, rfl, rfl, rfl, rfl, out, hout⟩
    · left
      have hnle : ¬ nI n ≤ nI t := nI_ge (by omega) hn
      rw [if_neg hlt, if_neg hnle, if_neg hlt, if_neg hnle]
      exact ⟨rfl, rfl⟩
