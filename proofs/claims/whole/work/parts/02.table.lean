/-- the worth of edge e in the mask p, by the table a -/
def qb_W (a : Nat → Int32) (p e : Nat) : Int32 := if qb_cc p e = 0 then -(a (qb_cl p e)) else nI (qb_cc p e) + a (qb_cl p e)
/-- the greatest worth, as the loops look for it -/
def qb_gs (a : Nat → Int32) (p : Nat) : Nat → Nat → Int32 → Int32
  | 0, _, g => g
  | d + 1, j, g => qb_gs a p d (j + 1) (if p.testBit j = true then (if qb_W a p j ≤ g then g else qb_W a p j) else g)
/-- a is the table of the values, below i -/
def qb_Tab (a : Nat → Int32) (i : Nat) : Prop := a 0 = 0 ∧ ∀ p, 0 < p → p < i → a p = qb_gs a p 12 0 (-5)
theorem qb_Wc {a a' : Nat → Int32} {p e : Nat} (hp : p < 4096) (h : p.testBit e = true) (ha : a (qb_cl p e) = a' (qb_cl p e)) : qb_W a p e = qb_W a' p e := by
  unfold qb_W
  rw [ha]
theorem qb_gsc {a a' : Nat → Int32} {p : Nat} (ha : ∀ e, p.testBit e = true → a (qb_cl p e) = a' (qb_cl p e)) (hp : p < 4096) : ∀ d j g, qb_gs a p d j g = qb_gs a' p d j g := by
  intro d
  induction d with
  | zero => intro j g; rfl
  | succ d ih =>
    intro j g
    show qb_gs a p d (j + 1) _ = qb_gs a' p d (j + 1) _
    by_cases h : p.testBit j = true
    · rw [if_pos h, if_pos h, qb_Wc hp h (ha j h)]
      exact ih _ _
    · rw [if_neg h, if_neg h]
      exact ih _ _
theorem qb_gsp (a : Nat → Int32) (p : Nat) : ∀ d j g, g.toInt ≤ (qb_gs a p d j g).toInt ∧ (∀ e, j ≤ e → e < j + d → p.testBit e = true → (qb_W a p e).toInt ≤ (qb_gs a p d j g).toInt) ∧ (qb_gs a p d j g = g ∨ ∃ e, e < j + d ∧ p.testBit e = true ∧ qb_W a p e = qb_gs a p d j g) := by
  intro d
  induction d with
  | zero => intro j g; exact ⟨Int.le_refl _, fun e h1 h2 => absurd h2 (by omega), Or.inl rfl⟩
  | succ d ih =>
    intro j g
    have key : ∀ g', g' = (if p.testBit j = true then (if qb_W a p j ≤ g then g else qb_W a p j) else g) → g.toInt ≤ g'.toInt ∧ (p.testBit j = true → (qb_W a p j).toInt ≤ g'.toInt) ∧ (g' = g ∨ (p.testBit j = true ∧ qb_W a p j = g')) := by
      intro g' hg
      by_cases h : p.testBit j = true
      · rw [if_pos h] at hg
        by_cases h2 : qb_W a p j ≤ g
        · rw [if_pos h2] at hg
          subst hg
          exact ⟨Int.le_refl _, fun _ => Int32.le_iff_toInt_le.mp h2, Or.inl rfl⟩
        · rw [if_neg h2] at hg
          subst hg
          rw [Int32.le_iff_toInt_le] at h2
          exact ⟨by omega, fun _ => Int.le_refl _, Or.inr ⟨h, rfl⟩⟩
      · rw [if_neg h] at hg
        subst hg
        exact ⟨Int.le_refl _, fun z => absurd z h, Or.inl rfl⟩
    show g.toInt ≤ (qb_gs a p d (j + 1) _).toInt ∧ (∀ e, j ≤ e → e < j + (d + 1) → p.testBit e = true → (qb_W a p e).toInt ≤ (qb_gs a p d (j + 1) _).toInt) ∧ (qb_gs a p d (j + 1) _ = g ∨ ∃ e, e < j + (d + 1) ∧ p.testBit e = true ∧ qb_W a p e = qb_gs a p d (j + 1) _)
    generalize hg : (if p.testBit j = true then (if qb_W a p j ≤ g then g else qb_W a p j) else g) = g'
    obtain ⟨k1, k2, k3⟩ := key g' hg.symm
    obtain ⟨i1, i2, i3⟩ := ih (j + 1) g'
    refine ⟨by omega, fun e h1 h2 h3 => ?_, ?_⟩
    · by_cases z : e = j
      · subst z
        have := k2 h3
        omega
      · exact i2 e (by omega) (by omega) h3
    · rcases i3 with i3 | ⟨e, h1, h2, h3⟩
      · rw [i3]
        rcases k3 with k3 | ⟨k3, k4⟩
        · exact Or.inl k3
        · exact Or.inr ⟨j, by omega, k3, k4⟩
      · exact Or.inr ⟨e, by omega, h2, h3⟩
theorem qb_neg {x : Int32} {n : Int} (h1 : -n ≤ x.toInt) (h2 : x.toInt ≤ n) (hn : n ≤ 4) : (-x).toInt = -x.toInt := by
  rw [Int32.toInt_neg]
  exact Int.bmod_eq_of_le (by omega) (by omega)
theorem qb_addI {x : Int32} {c : Nat} (hc : c ≤ 4) (h1 : -4 ≤ x.toInt) (h2 : x.toInt ≤ 4) : (nI c + x).toInt = c + x.toInt := by
  rw [Int32.toInt_add, nI_toInt (by omega)]
  exact Int.bmod_eq_of_le (by omega) (by omega)
theorem qb_Wb {a : Nat → Int32} {p e : Nat} (hp : p < 4096) (h1 : -(qb_r (qb_cl p e) : Int) ≤ (a (qb_cl p e)).toInt) (h2 : (a (qb_cl p e)).toInt ≤ qb_r (qb_cl p e)) : -(qb_r p : Int) ≤ (qb_W a p e).toInt ∧ (qb_W a p e).toInt ≤ qb_r p := by
  have hr := qb_rc e hp
  have h4 := qb_r4 p
  have hc := qb_cc4 p e
  unfold qb_W
  by_cases z : qb_cc p e = 0
  · rw [if_pos z, qb_neg h1 h2 (by omega)]
    omega
  · rw [if_neg z, qb_addI hc (by omega) (by omega)]
    omega
theorem qb_m5 : (-5 : Int32).toInt = -5 := by decide
theorem qb_m100 : (-100 : Int32).toInt = -100 := by decide
/-- the values are small -/
theorem qb_Tb {a : Nat → Int32} {i : Nat} (hi : i ≤ 4096) (T : qb_Tab a i) : ∀ p, p < i → -(qb_r p : Int) ≤ (a p).toInt ∧ (a p).toInt ≤ qb_r p := by
  intro p
  induction p using Nat.strongRecOn with
  | ind p ih =>
    intro hpi
    by_cases z : p = 0
    · subst z
      rw [T.1, show (0 : Int32).toInt = 0 from by decide]
      omega
    · have hp : p < 4096 := by omega
      have hW : ∀ e, p.testBit e = true → -(qb_r p : Int) ≤ (qb_W a p e).toInt ∧ (qb_W a p e).toInt ≤ qb_r p := by
        intro e he
        have hl := qb_cl_lt hp he
        have := ih _ hl (by omega)
        exact qb_Wb hp this.1 this.2
      obtain ⟨e, he, hb⟩ := qb_ex hp z
      obtain ⟨g1, g2, g3⟩ := qb_gsp a p 12 0 (-5)
      have g4 := g2 e (by omega) (by omega) hb
      have h4 := qb_r4 p
      have h5 := hW e hb
      rw [T.2 p (by omega) hpi]
      rcases g3 with g3 | ⟨e2, _, hb2, h6⟩
      · rw [g3, qb_m5] at g4
        omega
      · rw [← h6]
        exact hW e2 hb2
theorem qb_TW {a : Nat → Int32} {i : Nat} (hi : i ≤ 4096) (T : qb_Tab a i) {p e : Nat} (hp : p ≤ i) (hp2 : p < 4096) (hb : p.testBit e = true) : -4 ≤ (qb_W a p e).toInt ∧ (qb_W a p e).toInt ≤ 4 := by
  have hl := qb_cl_lt hp2 hb
  have h := qb_Tb hi T (qb_cl p e) (by omega)
  have h2 := qb_Wb hp2 h.1 h.2
  have h4 := qb_r4 p
  omega
/-- where the search starts doesn't matter -/
theorem qb_st {a : Nat → Int32} (T : qb_Tab a 4096) {p : Nat} (h0 : p ≠ 0) (hp : p < 4096) : qb_gs a p 12 0 (-100) = a p := by
  rw [T.2 p (by omega) hp]
  obtain ⟨e, he, hb⟩ := qb_ex hp h0
  have hw := qb_TW (Nat.le_refl _) T (by omega) hp hb
  obtain ⟨g1, g2, g3⟩ := qb_gsp a p 12 0 (-5)
  obtain ⟨k1, k2, k3⟩ := qb_gsp a p 12 0 (-100)
  have g4 := g2 e (by omega) (by omega) hb
  have k4 := k2 e (by omega) (by omega) hb
  apply Int32.toInt_inj.mp
  rcases g3 with g3 | ⟨e1, l1, hb1, h1⟩
  · rw [g3, qb_m5] at g4; omega
  · rcases k3 with k3 | ⟨e2, l2, hb2, h2⟩
    · rw [k3, qb_m100] at k4; omega
    · have g5 := g2 e2 (by omega) (by omega) hb2
      have k5 := k2 e1 (by omega) (by omega) hb1
      rw [h2] at g5
      rw [h1] at k5
      omega
/-- e is free and its worth is the value -/
def qb_b (a : Nat → Int32) (p e : Nat) : Bool := p.testBit e && decide (qb_W a p e = a p)
theorem qb_bE {a : Nat → Int32} (T : qb_Tab a 4096) {p : Nat} (h0 : p ≠ 0) (hp : p < 4096) : ∃ e, e < 12 ∧ qb_b a p e = true := by
  obtain ⟨e, he, hb⟩ := qb_ex hp h0
  have hw := qb_TW (Nat.le_refl _) T (by omega) hp hb
  obtain ⟨g1, g2, g3⟩ := qb_gsp a p 12 0 (-5)
  have g4 := g2 e (by omega) (by omega) hb
  rcases g3 with g3 | ⟨e1, l1, hb1, h1⟩
  · rw [g3, qb_m5] at g4; omega
  · refine ⟨e1, by omega, ?_⟩
    unfold qb_b
    rw [hb1, T.2 p (by omega) hp, h1]
    simp
def qb_lb (a : Nat → Int32) (p : Nat) : Nat → Nat → Int32
  | 0, _ => -1
  | d + 1, j => if qb_b a p j = true then nI j else qb_lb a p d (j + 1)
theorem qb_lbE {a : Nat → Int32} {p : Nat} : ∀ d j, (∃ e, j ≤ e ∧ e < j + d ∧ qb_b a p e = true) → ∃ e, e < j + d ∧ p.testBit e = true ∧ qb_lb a p d j = nI e := by
  intro d
  induction d with
  | zero => intro j h; obtain ⟨e, h1, h2, _⟩ := h; omega
  | succ d ih =>
    intro j h
    obtain ⟨e, h1, h2, h3⟩ := h
    by_cases z : qb_b a p j = true
    · refine ⟨j, by omega, ?_, ?_⟩
      · unfold qb_b at z
        rw [Bool.and_eq_true] at z
        exact z.1
      · exact if_pos z
    · obtain ⟨e2, l2, b2, q2⟩ := ih (j + 1) ⟨e, by
        rcases Nat.lt_or_ge j e with h | h
        · omega
        · have : e = j := by omega
          subst this
          exact absurd h3 z, by omega, h3⟩
      refine ⟨e2, by omega, b2, ?_⟩
      show (if qb_b a p j = true then nI j else qb_lb a p d (j + 1)) = _
      rw [if_neg z]
      exact q2
/-- the least best edge of a mask that isn't empty -/
theorem qb_lbT {a : Nat → Int32} (T : qb_Tab a 4096) {p : Nat} (h0 : p ≠ 0) (hp : p < 4096) : ∃ e, e < 12 ∧ p.testBit e = true ∧ qb_lb a p 12 0 = nI e := by
  obtain ⟨e, he, hb⟩ := qb_bE T h0 hp
  obtain ⟨e2, h1, h2, h3⟩ := qb_lbE (a := a) (p := p) 12 0 ⟨e, by omega, by omega, hb⟩
  exact ⟨e2, by omega, h2, h3⟩
/-- the best edges as bits -/
def qb_bs (a : Nat → Int32) (p : Nat) : Nat → Nat → Nat → Nat
  | 0, _, x => x
  | d + 1, j, x => qb_bs a p d (j + 1) (if qb_b a p j = true then x ||| 2 ^ j else x)
theorem qb_bsT (a : Nat → Int32) (p : Nat) : ∀ d j x i, (qb_bs a p d j x).testBit i = (x.testBit i || (decide (j ≤ i ∧ i < j + d) && qb_b a p i)) := by
  intro d
  induction d with
  | zero =>
    intro j x i
    have h : ¬ (j ≤ i ∧ i < j + 0) := by omega
    show x.testBit i = _
    rw [decide_eq_false h, Bool.false_and, Bool.or_false]
  | succ d ih =>
    intro j x i
    show (qb_bs a p d (j + 1) _).testBit i = _
    rw [ih]
    by_cases z : i = j
    · subst z
      have h1 : ¬ (i + 1 ≤ i ∧ i < i + 1 + d) := by omega
      have h2 : i ≤ i ∧ i < i + (d + 1) := by omega
      rw [decide_eq_false h1, decide_eq_true h2]
      cases hb : qb_b a p i
      · simp
      · simp [Nat.testBit_or, Nat.testBit_two_pow]
    · have h1 : (j + 1 ≤ i ∧ i < j + 1 + d) ↔ (j ≤ i ∧ i < j + (d + 1)) := by omega
      rw [decide_eq_decide.mpr h1]
      congr 1
      split
      · rw [Nat.testBit_or, Nat.testBit_two_pow]
        have : ¬ j = i := by omega
        simp [this]
      · rfl
theorem qb_bsL (a : Nat → Int32) (p : Nat) : ∀ d j x, j + d ≤ 12 → x < 4096 → qb_bs a p d j x < 4096 := by
  intro d
  induction d with
  | zero => intro j x _ h; exact h
  | succ d ih =>
    intro j x h hx
    show qb_bs a p d (j + 1) _ < 4096
    apply ih _ _ (by omega)
    split
    · exact Nat.or_lt_two_pow (n := 12) hx (qb_p2 j (by omega))
    · exact hx
