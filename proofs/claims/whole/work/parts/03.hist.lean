/-- the free mask, the next player, the owners after j draws of the history ed -/
def qb_F (ed : Nat → Nat) : Nat → Nat
  | 0 => 4095
  | j + 1 => qb_cl (qb_F ed j) (ed j)
def qb_N (ed : Nat → Nat) : Nat → Int32
  | 0 => 0
  | j + 1 => if qb_cc (qb_F ed j) (ed j) = 0 then 1 - qb_N ed j else qb_N ed j
def qb_O (ed : Nat → Nat) : Nat → Nat → Int32
  | 0, _ => -1
  | j + 1, b => if qb_l b (ed j) (qb_F ed j) = true then qb_N ed j else qb_O ed j b
/-- every draw was of a free edge -/
def qb_H (ed : Nat → Nat) (m : Nat) : Prop := ∀ i, i < m → ed i < 12 ∧ (qb_F ed i).testBit (ed i) = true
theorem qb_Fl (ed : Nat → Nat) : ∀ j, qb_F ed j < 4096
  | 0 => (by decide : 4095 < 4096)
  | j + 1 => Nat.lt_of_le_of_lt (qb_cl_le _ _) (qb_Fl ed j)
theorem qb_Fp (ed : Nat → Nat) : ∀ m, qb_H ed m → qb_pc (qb_F ed m) + m = 12 := by
  intro m
  induction m with
  | zero => intro _; rw [qb_F, qb_pcF]
  | succ m ih =>
    intro h
    have h1 := ih fun i hi => h i (by omega)
    have h2 := h m (by omega)
    have h3 := qb_pc1 (qb_Fl ed m) (ed m) h2.1 h2.2
    show qb_pc (qb_cl (qb_F ed m) (ed m)) + (m + 1) = 12
    omega
theorem qb_Hm {ed : Nat → Nat} {m : Nat} (h : qb_H ed m) : m ≤ 12 := by
  have := qb_Fp ed m h
  omega
theorem qb_F0 {ed : Nat → Nat} {m : Nat} (h : qb_H ed m) : qb_F ed m = 0 ↔ m = 12 := by
  have h1 := qb_Fp ed m h
  constructor
  · intro z
    rw [z, qb_pcZ] at h1
    omega
  · intro z
    exact qb_pc0 (qb_Fl ed m) (by omega)
theorem qb_N01 (ed : Nat → Nat) : ∀ j, qb_N ed j = 0 ∨ qb_N ed j = 1
  | 0 => Or.inl rfl
  | j + 1 => by
    show (if qb_cc (qb_F ed j) (ed j) = 0 then 1 - qb_N ed j else qb_N ed j) = 0 ∨ (if qb_cc (qb_F ed j) (ed j) = 0 then 1 - qb_N ed j else qb_N ed j) = 1
    rcases qb_N01 ed j with h | h
    · rw [h]
      split
      · exact Or.inr (by decide)
      · exact Or.inl rfl
    · rw [h]
      split
      · exact Or.inl (by decide)
      · exact Or.inr rfl
/-- a box that isn't complete has no owner -/
theorem qb_Om (ed : Nat → Nat) (b : Nat) : ∀ j, qb_F ed j &&& qb_mk b ≠ 0 → qb_O ed j b = -1 := by
  intro j
  induction j with
  | zero => intro _; rfl
  | succ j ih =>
    intro h
    show (if qb_l b (ed j) (qb_F ed j) = true then qb_N ed j else qb_O ed j b) = -1
    have h0 : ¬ qb_F ed j &&& qb_mk b = 0 := fun z => h (qb_box2 (qb_Fl ed j) z)
    by_cases z : qb_l b (ed j) (qb_F ed j) = true
    · exact absurd (qb_box1 (qb_Fl ed j) (of_decide_eq_true z)) h
    · rw [if_neg z]
      exact ih h0
theorem qb_Ol {ed : Nat → Nat} {b e j : Nat} (h : qb_l b e (qb_F ed j) = true) : qb_O ed j b = -1 := by
  apply qb_Om
  rw [of_decide_eq_true h]
  exact Nat.ne_of_gt (Nat.two_pow_pos e)
theorem qb_Fc {ed ed' : Nat → Nat} : ∀ j, (∀ i, i < j → ed i = ed' i) → qb_F ed j = qb_F ed' j
  | 0, _ => rfl
  | j + 1, h => by
    show qb_cl (qb_F ed j) (ed j) = qb_cl (qb_F ed' j) (ed' j)
    rw [qb_Fc j fun i hi => h i (by omega), h j (by omega)]
theorem qb_Nc {ed ed' : Nat → Nat} : ∀ j, (∀ i, i < j → ed i = ed' i) → qb_N ed j = qb_N ed' j
  | 0, _ => rfl
  | j + 1, h => by
    show (if qb_cc (qb_F ed j) (ed j) = 0 then 1 - qb_N ed j else qb_N ed j) = (if qb_cc (qb_F ed' j) (ed' j) = 0 then 1 - qb_N ed' j else qb_N ed' j)
    rw [qb_Fc j fun i hi => h i (by omega), h j (by omega), qb_Nc j fun i hi => h i (by omega)]
theorem qb_Oc {ed ed' : Nat → Nat} (b : Nat) : ∀ j, (∀ i, i < j → ed i = ed' i) → qb_O ed j b = qb_O ed' j b
  | 0, _ => rfl
  | j + 1, h => by
    show (if qb_l b (ed j) (qb_F ed j) = true then qb_N ed j else qb_O ed j b) = (if qb_l b (ed' j) (qb_F ed' j) = true then qb_N ed' j else qb_O ed' j b)
    rw [qb_Fc j fun i hi => h i (by omega), h j (by omega), qb_Nc j fun i hi => h i (by omega), qb_Oc b j fun i hi => h i (by omega)]
/-- the history with one draw more -/
def qb_up (ed : Nat → Nat) (m e : Nat) : Nat → Nat := fun i => if i = m then e else ed i
theorem qb_upn {ed : Nat → Nat} {m e i : Nat} (h : i < m) : qb_up ed m e i = ed i := if_neg (by omega)
theorem qb_ups {ed : Nat → Nat} {m e : Nat} : qb_up ed m e m = e := if_pos rfl
theorem qb_upF {ed : Nat → Nat} {m e j : Nat} (h : j ≤ m) : qb_F (qb_up ed m e) j = qb_F ed j := qb_Fc j fun i hi => qb_upn (by omega)
theorem qb_upN {ed : Nat → Nat} {m e j : Nat} (h : j ≤ m) : qb_N (qb_up ed m e) j = qb_N ed j := qb_Nc j fun i hi => qb_upn (by omega)
theorem qb_upO {ed : Nat → Nat} {m e j b : Nat} (h : j ≤ m) : qb_O (qb_up ed m e) j b = qb_O ed j b := qb_Oc b j fun i hi => qb_upn (by omega)
theorem qb_upF1 {ed : Nat → Nat} {m e : Nat} : qb_F (qb_up ed m e) (m + 1) = qb_cl (qb_F ed m) e := by
  show qb_cl (qb_F (qb_up ed m e) m) (qb_up ed m e m) = _
  rw [qb_upF (Nat.le_refl m), qb_ups]
theorem qb_upN1 {ed : Nat → Nat} {m e : Nat} : qb_N (qb_up ed m e) (m + 1) = if qb_cc (qb_F ed m) e = 0 then 1 - qb_N ed m else qb_N ed m := by
  show (if qb_cc (qb_F (qb_up ed m e) m) (qb_up ed m e m) = 0 then 1 - qb_N (qb_up ed m e) m else qb_N (qb_up ed m e) m) = _
  rw [qb_upF (Nat.le_refl m), qb_ups, qb_upN (Nat.le_refl m)]
theorem qb_upO1 {ed : Nat → Nat} {m e b : Nat} : qb_O (qb_up ed m e) (m + 1) b = if qb_l b e (qb_F ed m) = true then qb_N ed m else qb_O ed m b := by
  show (if qb_l b (qb_up ed m e m) (qb_F (qb_up ed m e) m) = true then qb_N (qb_up ed m e) m else qb_O (qb_up ed m e) m b) = _
  rw [qb_upF (Nat.le_refl m), qb_ups, qb_upN (Nat.le_refl m), qb_upO (Nat.le_refl m)]
theorem qb_upH {ed : Nat → Nat} {m e : Nat} (H : qb_H ed m) (he : e < 12) (hb : (qb_F ed m).testBit e = true) : qb_H (qb_up ed m e) (m + 1) := by
  intro i hi
  rw [qb_upF (by omega)]
  by_cases z : i = m
  · subst z; rw [qb_ups]; exact ⟨he, hb⟩
  · rw [qb_upn (by omega)]; exact H i (by omega)
/-- the boxes of a player, as the loops count them -/
def qb_cts (o : Nat → Int32) (pl : Int32) : Nat → Nat → Nat → Nat
  | 0, _, c => c
  | d + 1, j, c => qb_cts o pl d (j + 1) (if o j = pl then c + 1 else c)
def qb_ct (o : Nat → Int32) (pl : Int32) : Nat := qb_cts o pl 4 0 0
def qb_q (x pl : Int32) : Nat := if x = pl then 1 else 0
theorem qb_ct_s (o : Nat → Int32) (pl : Int32) : qb_ct o pl = qb_q (o 0) pl + qb_q (o 1) pl + qb_q (o 2) pl + qb_q (o 3) pl := by
  unfold qb_ct
  simp only [qb_cts, qb_q]
  by_cases h0 : o 0 = pl <;> by_cases h1 : o 1 = pl <;> by_cases h2 : o 2 = pl <;> by_cases h3 : o 3 = pl <;> simp [h0, h1, h2, h3]
theorem qb_ctc {o o' : Nat → Int32} (pl : Int32) (h : ∀ b, b < 4 → o b = o' b) : qb_ct o pl = qb_ct o' pl := by
  rw [qb_ct_s, qb_ct_s, h 0 (by omega), h 1 (by omega), h 2 (by omega), h 3 (by omega)]
theorem qb_ct4 (o : Nat → Int32) (pl : Int32) : qb_ct o pl ≤ 4 := by
  rw [qb_ct_s]
  have h : ∀ x, qb_q x pl ≤ 1 := by intro x; unfold qb_q; split <;> omega
  have h0 := h (o 0)
  have h1 := h (o 1)
  have h2 := h (o 2)
  have h3 := h (o 3)
  omega
theorem qb_q1 {ed : Nat → Nat} {m e b : Nat} {pl : Int32} (hp : pl = 0 ∨ pl = 1) : qb_q (qb_O (qb_up ed m e) (m + 1) b) pl = qb_q (qb_O ed m b) pl + (if qb_N ed m = pl then qb_t (qb_l b e (qb_F ed m)) else 0) := by
  rw [qb_upO1]
  by_cases z : qb_l b e (qb_F ed m) = true
  · have hm : ¬ (-1 : Int32) = pl := by rcases hp with h | h <;> rw [h] <;> decide
    rw [if_pos z, qb_Ol z, z]
    unfold qb_q qb_t
    rw [if_neg hm]
    simp
  · rw [if_neg z]
    have z2 : qb_l b e (qb_F ed m) = false := by cases h : qb_l b e (qb_F ed m); rfl; exact absurd h z
    rw [z2]
    simp [qb_t]
/-- a draw's boxes go to the drawer -/
theorem qb_ct1 {ed : Nat → Nat} {m e : Nat} {pl : Int32} (hp : pl = 0 ∨ pl = 1) : qb_ct (qb_O (qb_up ed m e) (m + 1)) pl = qb_ct (qb_O ed m) pl + (if qb_N ed m = pl then qb_cc (qb_F ed m) e else 0) := by
  rw [qb_ct_s, qb_ct_s, qb_q1 hp, qb_q1 hp, qb_q1 hp, qb_q1 hp, qb_cc_s]
  split <;> omega
