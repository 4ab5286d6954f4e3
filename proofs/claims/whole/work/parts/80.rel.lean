/-! what holds between the class's cells and the reference's, call for call -/
def rlC (ci : Nat → Int32) (cf : Nat → Nat → Int32) (mi : Nat → Int32) (mf : Nat → Nat → Int32) : Prop :=
  tpE (ci 1) (mi 3) (cf 0) (mf 0) ∧ ci 2 = mi 9 ∧ mi 1 = ci 0 ∧ mi 2 = (if ci 0 = 4 then ci 3 else -1) ∧ tz (cf 35)
/-- no river told yet -/
def rlU (ci : Nat → Int32) (cf : Nat → Nat → Int32) (mi : Nat → Int32) (mf : Nat → Nat → Int32) : Prop := rlC ci cf mi mf ∧ ci 20 = 0 ∧ ci 21 = 0 ∧ ci 23 = 0 ∧ ci 24 = 0 ∧ ci 64 = 0 ∧ ci 65 = 0 ∧ ci 66 = 0 ∧ ci 67 = 0 ∧ ci 68 = 0 ∧ ci 69 = 0 ∧ ci 70 = 0
/-- the same river told to both -/
def rlT (cap : Nat) (ci : Nat → Int32) (cf : Nat → Nat → Int32) (mi : Nat → Int32) (mf : Nat → Nat → Int32) (ri : Nat → Int32) (rf : Nat → Nat → Int32) (kl kb kf ks : Nat → Int32) (kw : Nat → Nat → Int32) (ml mb mg ms : Nat → Int32) (mu : Nat → Nat → Int32) : Prop :=
  ∃ (R : Nat → Nat → Nat) (l : Nat), rlC ci cf mi mf ∧ rvOK R ∧ drF R l (ci 64) (ci 65) (ci 66) (ci 67) (ci 68) (ci 69) (ci 70) (ci 71) (cf 49) (cf 50) (cf 51) (cf 52) (cf 53) (cf 54) (cf 55) (cf 56) (cf 57) (cf 58) ∧ drF R l (ri 0) (ri 1) (ri 2) (ri 3) (ri 4) (ri 5) (ri 6) (ri 7) (rf 0) (rf 1) (rf 2) (rf 3) (rf 4) (rf 5) (rf 6) (rf 7) (rf 8) (rf 9) ∧ nowE R cap (ci 18) (ci 19) (ci 20) (ci 21) (cf 13) (mf 1) ∧ memE R cap (ci 22) (ci 23) kl kb kf ks kw (mf 3) (mi 11) ∧ mrkE R cap (ci 24) ml mb mg ms mu (mf 4) (mi 12)
theorem wh_n {t p w : Int32} (h4 : ¬ t = 4) (hw : w = -1) : w = (if t = 4 then p else -1) := by rw [if_neg h4, hw]
theorem wh_4 {t p w : Int32} (h4 : t = 4) (hw : w = p) : w = (if t = 4 then p else -1) := by rw [if_pos h4, hw]
theorem ne4_0 : ¬ (0 : Int32) = 4 := by decide
theorem ne4_1 {t : Int32} (h : t = 1) : ¬ t = 4 := by rw [h]; decide
theorem ne4_z {t : Int32} (h : t = 0) : ¬ t = 4 := by rw [h]; decide
