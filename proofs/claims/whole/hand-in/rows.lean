section
theorem pk_us {f : Nat → Int32} {k : Nat} {x : Int32} : upd f k x k = x := if_pos rfl
theorem pk_un {f : Nat → Int32} {k j : Nat} {x : Int32} (h : j ≠ k) : upd f k x j = f j := if_neg h
theorem pk_sub {a b : Nat} (h : b ≤ a) : nI a - nI b = nI (a - b) := by
  obtain ⟨c, rfl⟩ : ∃ c, a = c + b := ⟨a - b, by omega⟩
  rw [← nI_add, Int32.add_sub_cancel, Nat.add_sub_cancel]
theorem pk_ix (x : Int32) {n : Nat} (hn : n < 2 ^ 31) : x < 0 ∨ nI n ≤ x ∨ ∃ j : Nat, j < n ∧ x = nI j := by
  by_cases h : x < 0
  · exact Or.inl h
  · obtain ⟨j, hj, rfl⟩ := nI_of h
    by_cases h2 : j < n
    · exact Or.inr (Or.inr ⟨j, h2, rfl⟩)
    · exact Or.inr (Or.inl (nI_le (by omega) hj))
theorem pk_le {x y : Int32} {A B : Prop} (a b : Nat) (f : a ≤ b → A) (g : b < a → B) (hx : x = nI a := by rfl) (hy : y = nI b := by rfl) (ha : a < 2 ^ 31 := by omega) (hb : b < 2 ^ 31 := by omega) : (x ≤ y → A) ∧ (¬ x ≤ y → B) := by
  subst hx hy
  rw [nI_leI ha hb]
  exact ⟨f, fun z => g (by omega)⟩
theorem pk_lt {x y : Int32} {A B : Prop} (a b : Nat) (f : a < b → A) (g : b ≤ a → B) (hx : x = nI a := by rfl) (hy : y = nI b := by rfl) (ha : a < 2 ^ 31 := by omega) (hb : b < 2 ^ 31 := by omega) : (x < y → A) ∧ (¬ x < y → B) := by
  subst hx hy
  rw [nI_ltI ha hb]
  exact ⟨f, fun z => g (by omega)⟩
theorem pk_eq {x y : Int32} {A B : Prop} (a b : Nat) (f : a = b → A) (g : a ≠ b → B) (hx : x = nI a := by rfl) (hy : y = nI b := by rfl) (ha : a < 2 ^ 31 := by omega) (hb : b < 2 ^ 31 := by omega) : (x = y → A) ∧ (¬ x = y → B) := by
  subst hx hy
  rw [nI_eq ha hb]
  exact ⟨f, g⟩
theorem pk_in {x : Int32} (n N : Nat) (h : n < N) (hx : x = nI n := by rfl) (hN : N < 2 ^ 31 := by omega) : vp_in x N := by
  subst hx
  exact vp_in_nI h hN
theorem pk_cl {x : Int32} (n : Nat) (hx : x = nI n := by rfl) (h : n < 2 ^ 31 := by omega) : x.toNatClampNeg = n := by
  subst hx
  exact nI_clamp h
theorem pk_tn {n : Nat} (h : n < 2 ^ 32) : (nI n).toBitVec.toNat = n := Nat.mod_eq_of_lt h
theorem pk_and (x : Int32) {m : Int32} (k : Nat) (hm : m.toBitVec.toNat = 2 ^ k - 1) : x &&& m = nI (x.toBitVec.toNat % 2 ^ k) := by
  apply Int32.toBitVec_inj.mp
  apply BitVec.eq_of_toNat_eq
  rw [Int32.toBitVec_and, BitVec.toNat_and, hm, Nat.and_two_pow_sub_one_eq_mod]
  show _ = (BitVec.ofNat 32 _).toNat
  rw [BitVec.toNat_ofNat]
  exact (Nat.mod_eq_of_lt (Nat.lt_of_le_of_lt (Nat.mod_le _ _) x.toBitVec.isLt)).symm
theorem pk_andN {n : Nat} (h : n < 2 ^ 32) {m : Int32} (k : Nat) (hm : m.toBitVec.toNat = 2 ^ k - 1) : nI n &&& m = nI (n % 2 ^ k) := by
  rw [pk_and _ k hm, pk_tn h]
theorem pk_shr (a s : Int32) (k : Nat) (hs : (s.toBitVec.smod 32).toNat = k) : (a >>> s).toInt = a.toInt >>> k := by
  show (a.toBitVec.sshiftRight (s.toBitVec.smod 32).toNat).toInt = _
  rw [hs, BitVec.toInt_sshiftRight]
  rfl
theorem pk_shrN {n : Nat} (h : n < 2 ^ 31) (s : Int32) (k : Nat) (hs : (s.toBitVec.smod 32).toNat = k) : nI n >>> s = nI (n / 2 ^ k) := by
  apply Int32.toInt_inj.mp
  have h2 : n / 2 ^ k ≤ n := Nat.div_le_self _ _
  rw [pk_shr _ _ k hs, nI_toInt h, nI_toInt (by omega), Int.shiftRight_eq_div_pow]
  rfl
theorem nx_and (a b : Nat) : nI a &&& nI b = nI (a &&& b) := by
  apply Int32.toBitVec_inj.1
  show BitVec.ofNat 32 a &&& BitVec.ofNat 32 b = BitVec.ofNat 32 (a &&& b)
  apply BitVec.eq_of_getLsbD_eq
  intro i hi
  simp [hi]
theorem nx_xor (a b : Nat) : nI a ^^^ nI b = nI (a ^^^ b) := by
  apply Int32.toBitVec_inj.1
  show BitVec.ofNat 32 a ^^^ BitVec.ofNat 32 b = BitVec.ofNat 32 (a ^^^ b)
  apply BitVec.eq_of_getLsbD_eq
  intro i hi
  simp [hi]
/-- the edges of box b, as a mask -/
def qb_mk (b : Nat) : Nat := if b = 0 then 197 else if b = 1 then 394 else if b = 2 then 1556 else 3112
/-- e is the last free edge of box b in the mask p -/
def qb_l (b e p : Nat) : Bool := decide (p &&& qb_mk b = 2 ^ e)
/-- the mask without e -/
def qb_cl (p e : Nat) : Nat := p &&& (4095 ^^^ 2 ^ e)
theorem qb_tbH {p i : Nat} (hp : p < 4096) (hi : 12 ≤ i) : p.testBit i = false :=
  Nat.testBit_lt_two_pow (Nat.lt_of_lt_of_le hp (Nat.pow_le_pow_right (n := 2) (by decide) hi))
theorem qb_tb95 (i : Nat) : (4095 : Nat).testBit i = decide (i < 12) := Nat.testBit_two_pow_sub_one 12 i
theorem qb_tbm1 (i : Nat) : (4294967295 : Nat).testBit i = decide (i < 32) := Nat.testBit_two_pow_sub_one 32 i
theorem qb_tcl {p : Nat} (hp : p < 4096) (e i : Nat) : (qb_cl p e).testBit i = (p.testBit i && !decide (e = i)) := by
  unfold qb_cl
  rw [Nat.testBit_and, Nat.testBit_xor, Nat.testBit_two_pow, qb_tb95]
  by_cases h : i < 12
  · simp [h]
  · rw [qb_tbH hp (by omega)]; simp
theorem qb_cl_le (p e : Nat) : qb_cl p e ≤ p := Nat.and_le_left
theorem qb_cl_lt {p e : Nat} (hp : p < 4096) (h : p.testBit e = true) : qb_cl p e < p := by
  refine Nat.lt_of_le_of_ne (qb_cl_le p e) fun z => ?_
  have h2 := qb_tcl hp e e
  rw [z, h] at h2
  simp at h2
theorem qb_sh : ∀ e, e < 12 → (1 : Int32) <<< (nI e &&& 31) = nI (2 ^ e) := by decide +kernel
theorem qb_p2 : ∀ e, e < 12 → 2 ^ e < 4096 := by decide
theorem qb_nm1 : (-1 : Int32) = nI 4294967295 := by decide
/-- the walks' way to take a bit away -/
theorem qb_clI {p e : Nat} (hp : p < 4096) (he : e < 12) : nI p &&& (((1 : Int32) <<< (nI e &&& 31)) ^^^ (-1)) = nI (qb_cl p e) := by
  rw [qb_sh e he, qb_nm1, nx_xor, nx_and]
  congr 1
  apply Nat.eq_of_testBit_eq
  intro i
  rw [qb_tcl hp, Nat.testBit_and, Nat.testBit_xor, Nat.testBit_two_pow, qb_tbm1]
  by_cases h : i < 12
  · have h2 : i < 32 := by omega
    simp [h2]
  · rw [qb_tbH hp (by omega)]; simp
/-- the walks' two ways to ask for a bit -/
theorem qb_bitX {p e : Nat} (hp : p < 4096) (he : e < 12) : (nI p &&& ((1 : Int32) <<< (nI e &&& 31))) = 0 ↔ p.testBit e = false := by
  have h2 := qb_p2 e he
  have h3 : p &&& 2 ^ e ≤ p := Nat.and_le_left
  rw [qb_sh e he, nx_and, ← nI_0, nI_eq (by omega) (by decide)]
  constructor
  · intro h
    have h4 := congrArg (fun z => Nat.testBit z e) h
    simp only [Nat.testBit_and, Nat.testBit_two_pow, Nat.zero_testBit] at h4
    simpa using h4
  · intro h
    apply Nat.eq_of_testBit_eq
    intro i
    rw [Nat.testBit_and, Nat.testBit_two_pow, Nat.zero_testBit]
    by_cases z : e = i
    · subst z; rw [h]; rfl
    · simp [z]
theorem qb_sm : ∀ e, e < 12 → ((nI e &&& 31).toBitVec.smod 32).toNat = e := by decide +kernel
theorem qb_bitY {p e : Nat} (hp : p < 4096) (he : e < 12) : ((nI p >>> (nI e &&& 31)) &&& 1) = nI (p.testBit e).toNat := by
  have h2 : p / 2 ^ e ≤ p := Nat.div_le_self _ _
  rw [pk_shrN (by omega) _ e (qb_sm e he), pk_andN (by omega) 1 (by decide), Nat.toNat_testBit, Nat.pow_one]
theorem qb_bitY0 {p e : Nat} (hp : p < 4096) (he : e < 12) : ((nI p >>> (nI e &&& 31)) &&& 1) = 0 ↔ p.testBit e = false := by
  rw [qb_bitY hp he]
  cases p.testBit e
  · exact ⟨fun _ => rfl, fun _ => rfl⟩
  · exact ⟨fun h => absurd h (by decide), fun h => nomatch h⟩
theorem qb_bitY1 {p e : Nat} (hp : p < 4096) (he : e < 12) : ((nI p >>> (nI e &&& 31)) &&& 1) = 1 ↔ p.testBit e = true := by
  rw [qb_bitY hp he]
  cases p.testBit e
  · exact ⟨fun h => absurd h (by decide), fun h => nomatch h⟩
  · exact ⟨fun _ => rfl, fun _ => rfl⟩
/-- a box's edges once e is gone -/
theorem qb_box1 {p e m : Nat} (hp : p < 4096) (h : p &&& m = 2 ^ e) : qb_cl p e &&& m = 0 := by
  apply Nat.eq_of_testBit_eq
  intro i
  have h4 := congrArg (fun z => Nat.testBit z i) h
  simp only [Nat.testBit_and, Nat.testBit_two_pow] at h4
  rw [Nat.testBit_and, qb_tcl hp, Nat.zero_testBit]
  cases h5 : p.testBit i <;> cases h6 : m.testBit i <;> simp_all
theorem qb_box2 {p e m : Nat} (hp : p < 4096) (h : p &&& m = 0) : qb_cl p e &&& m = 0 := by
  apply Nat.eq_of_testBit_eq
  intro i
  have h4 := congrArg (fun z => Nat.testBit z i) h
  simp only [Nat.testBit_and, Nat.zero_testBit] at h4
  rw [Nat.testBit_and, qb_tcl hp, Nat.zero_testBit]
  cases h5 : p.testBit i <;> cases h6 : m.testBit i <;> simp_all
/-- how many boxes e completes, as the loops count them -/
def qb_cs (p e : Nat) : Nat → Nat → Nat → Nat
  | 0, _, c => c
  | d + 1, j, c => qb_cs p e d (j + 1) (if qb_l j e p = true then c + 1 else c)
def qb_cc (p e : Nat) : Nat := qb_cs p e 4 0 0
def qb_t (b : Bool) : Nat := if b = true then 1 else 0
theorem qb_cc_s (p e : Nat) : qb_cc p e = qb_t (qb_l 0 e p) + qb_t (qb_l 1 e p) + qb_t (qb_l 2 e p) + qb_t (qb_l 3 e p) := by
  unfold qb_cc
  simp only [qb_cs, qb_t]
  generalize qb_l 0 e p = x0
  generalize qb_l (0 + 1) e p = x1
  generalize qb_l (0 + 1 + 1) e p = x2
  generalize qb_l (0 + 1 + 1 + 1) e p = x3
  cases x0 <;> cases x1 <;> cases x2 <;> cases x3 <;> rfl
theorem qb_cc4 (p e : Nat) : qb_cc p e ≤ 4 := by
  rw [qb_cc_s]
  have h : ∀ b, qb_t b ≤ 1 := by intro b; cases b <;> decide
  have h0 := h (qb_l 0 e p)
  have h1 := h (qb_l 1 e p)
  have h2 := h (qb_l 2 e p)
  have h3 := h (qb_l 3 e p)
  omega
/-- how many boxes are not complete -/
def qb_o (p m : Nat) : Nat := if p &&& m = 0 then 0 else 1
def qb_r (p : Nat) : Nat := qb_o p (qb_mk 0) + qb_o p (qb_mk 1) + qb_o p (qb_mk 2) + qb_o p (qb_mk 3)
theorem qb_o1 {p e : Nat} (b : Nat) (hp : p < 4096) : qb_t (qb_l b e p) + qb_o (qb_cl p e) (qb_mk b) ≤ qb_o p (qb_mk b) := by
  unfold qb_t qb_l qb_o
  have h2 : 0 < 2 ^ e := Nat.two_pow_pos e
  by_cases h : p &&& qb_mk b = 2 ^ e
  · have h3 : ¬ p &&& qb_mk b = 0 := by omega
    simp [qb_box1 hp h, h3]
    split <;> omega
  · by_cases h3 : p &&& qb_mk b = 0
    · simp [qb_box2 hp h3, h3]
      omega
    · simp [h, h3]
      split <;> omega
theorem qb_rc {p : Nat} (e : Nat) (hp : p < 4096) : qb_cc p e + qb_r (qb_cl p e) ≤ qb_r p := by
  rw [qb_cc_s]
  unfold qb_r
  have h0 := qb_o1 (e := e) 0 hp
  have h1 := qb_o1 (e := e) 1 hp
  have h2 := qb_o1 (e := e) 2 hp
  have h3 := qb_o1 (e := e) 3 hp
  omega
theorem qb_r4 (p : Nat) : qb_r p ≤ 4 := by
  have h : ∀ m, qb_o p m ≤ 1 := by intro m; unfold qb_o; split <;> omega
  unfold qb_r
  have h0 := h (qb_mk 0)
  have h1 := h (qb_mk 1)
  have h2 := h (qb_mk 2)
  have h3 := h (qb_mk 3)
  omega
/-- how many edges are free -/
def qb_pc (p : Nat) : Nat := qb_t (p.testBit 0) + qb_t (p.testBit 1) + qb_t (p.testBit 2) + qb_t (p.testBit 3) + qb_t (p.testBit 4) + qb_t (p.testBit 5) + qb_t (p.testBit 6) + qb_t (p.testBit 7) + qb_t (p.testBit 8) + qb_t (p.testBit 9) + qb_t (p.testBit 10) + qb_t (p.testBit 11)
theorem qb_12 {P : Nat → Prop} (h0 : P 0) (h1 : P 1) (h2 : P 2) (h3 : P 3) (h4 : P 4) (h5 : P 5) (h6 : P 6) (h7 : P 7) (h8 : P 8) (h9 : P 9) (h10 : P 10) (h11 : P 11) : ∀ e, e < 12 → P e
  | 0, _ => h0 | 1, _ => h1 | 2, _ => h2 | 3, _ => h3 | 4, _ => h4 | 5, _ => h5 | 6, _ => h6 | 7, _ => h7 | 8, _ => h8 | 9, _ => h9 | 10, _ => h10 | 11, _ => h11
  | n + 12, h => absurd h (by omega)
theorem qb_pc1 {p : Nat} (hp : p < 4096) : ∀ e, e < 12 → p.testBit e = true → qb_pc (qb_cl p e) + 1 = qb_pc p := by
  apply qb_12 <;> (intro h; unfold qb_pc; simp only [qb_tcl hp, h]; simp [qb_t]; try omega)
theorem qb_pc0 {p : Nat} (hp : p < 4096) (h : qb_pc p = 0) : p = 0 := by
  have ht : ∀ b, qb_t b = 0 → b = false := by intro b; cases b <;> decide
  unfold qb_pc at h
  apply Nat.eq_of_testBit_eq
  intro i
  rw [Nat.zero_testBit]
  by_cases hi : i < 12
  · revert i
    intro i hi
    exact qb_12 (P := fun i => p.testBit i = false) (ht _ (by omega)) (ht _ (by omega)) (ht _ (by omega)) (ht _ (by omega)) (ht _ (by omega)) (ht _ (by omega)) (ht _ (by omega)) (ht _ (by omega)) (ht _ (by omega)) (ht _ (by omega)) (ht _ (by omega)) (ht _ (by omega)) i hi
  · exact qb_tbH hp (by omega)
theorem qb_pcF : qb_pc 4095 = 12 := by decide
theorem qb_pcZ : qb_pc 0 = 0 := by decide
theorem qb_ex {p : Nat} (hp : p < 4096) (h : p ≠ 0) : ∃ e, e < 12 ∧ p.testBit e = true := by
  apply Classical.byContradiction
  intro hn
  apply h
  apply Nat.eq_of_testBit_eq
  intro i
  rw [Nat.zero_testBit]
  by_cases hi : i < 12
  · cases hb : p.testBit i
    · rfl
    · exact absurd ⟨i, hi, hb⟩ hn
  · exact qb_tbH hp (by omega)
/-- putting the bit back -/
theorem qb_back {p e : Nat} (hp : p < 4096) (he : e < 12) (h : p.testBit e = true) : nI (qb_cl p e) ||| ((1 : Int32) <<< (nI e &&& 31)) = nI p := by
  have ho : ∀ a b : Nat, nI a ||| nI b = nI (a ||| b) := by
    intro a b
    apply Int32.toBitVec_inj.1
    show BitVec.ofNat 32 a ||| BitVec.ofNat 32 b = BitVec.ofNat 32 (a ||| b)
    apply BitVec.eq_of_getLsbD_eq
    intro i hi
    simp [hi]
  rw [qb_sh e he, ho]
  congr 1
  apply Nat.eq_of_testBit_eq
  intro i
  rw [Nat.testBit_or, qb_tcl hp, Nat.testBit_two_pow]
  by_cases z : e = i
  · subst z; simp [h]
  · simp [z]
end
section
/-- the worth of edge e in the mask p, by the table a -/
def qb_W (a : Nat → Int32) (p e : Nat) : Int32 := if qb_cc p e = 0 then -(a (qb_cl p e)) else nI (qb_cc p e) + a (qb_cl p e)
/-- the greatest worth, as the loops look for it -/
def qb_gs (a : Nat → Int32) (p : Nat) : Nat → Nat → Int32 → Int32
  | 0, _, g => g
  | d + 1, j, g => qb_gs a p d (j + 1) (if p.testBit j = true then (if qb_W a p j ≤ g then g else qb_W a p j) else g)
/-- a is the table of the values, below i -/
def qb_Tab (a : Nat → Int32) (i : Nat) : Prop := a 0 = 0 ∧ ∀ p, 0 < p → p < i → a p = qb_gs a p 12 0 (-5)
theorem qb_Wc {a a' : Nat → Int32} {p e : Nat} (hp : p < 4096) (h : p.testBit e = true) (ha : a (qb_cl p e) = a' (qb_cl p e)) : qb_W a p e = qb_W a' p e := by
  unfold qb_W
  rw [ha]
theorem qb_gsc {a a' : Nat → Int32} {p : Nat} (ha : ∀ e, p.testBit e = true → a (qb_cl p e) = a' (qb_cl p e)) (hp : p < 4096) : ∀ d j g, qb_gs a p d j g = qb_gs a' p d j g := by
  intro d
  induction d with
  | zero => intro j g; rfl
  | succ d ih =>
    intro j g
    show qb_gs a p d (j + 1) _ = qb_gs a' p d (j + 1) _
    by_cases h : p.testBit j = true
    · rw [if_pos h, if_pos h, qb_Wc hp h (ha j h)]
      exact ih _ _
    · rw [if_neg h, if_neg h]
      exact ih _ _
theorem qb_gsp (a : Nat → Int32) (p : Nat) : ∀ d j g, g.toInt ≤ (qb_gs a p d j g).toInt ∧ (∀ e, j ≤ e → e < j + d → p.testBit e = true → (qb_W a p e).toInt ≤ (qb_gs a p d j g).toInt) ∧ (qb_gs a p d j g = g ∨ ∃ e, e < j + d ∧ p.testBit e = true ∧ qb_W a p e = qb_gs a p d j g) := by
  intro d
  induction d with
  | zero => intro j g; exact ⟨Int.le_refl _, fun e h1 h2 => absurd h2 (by omega), Or.inl rfl⟩
  | succ d ih =>
    intro j g
    have key : ∀ g', g' = (if p.testBit j = true then (if qb_W a p j ≤ g then g else qb_W a p j) else g) → g.toInt ≤ g'.toInt ∧ (p.testBit j = true → (qb_W a p j).toInt ≤ g'.toInt) ∧ (g' = g ∨ (p.testBit j = true ∧ qb_W a p j = g')) := by
      intro g' hg
      by_cases h : p.testBit j = true
      · rw [if_pos h] at hg
        by_cases h2 : qb_W a p j ≤ g
        · rw [if_pos h2] at hg
          subst hg
          exact ⟨Int.le_refl _, fun _ => Int32.le_iff_toInt_le.mp h2, Or.inl rfl⟩
        · rw [if_neg h2] at hg
          subst hg
          rw [Int32.le_iff_toInt_le] at h2
          exact ⟨by omega, fun _ => Int.le_refl _, Or.inr ⟨h, rfl⟩⟩
      · rw [if_neg h] at hg
        subst hg
        exact ⟨Int.le_refl _, fun z => absurd z h, Or.inl rfl⟩
    show g.toInt ≤ (qb_gs a p d (j + 1) _).toInt ∧ (∀ e, j ≤ e → e < j + (d + 1) → p.testBit e = true → (qb_W a p e).toInt ≤ (qb_gs a p d (j + 1) _).toInt) ∧ (qb_gs a p d (j + 1) _ = g ∨ ∃ e, e < j + (d + 1) ∧ p.testBit e = true ∧ qb_W a p e = qb_gs a p d (j + 1) _)
    generalize hg : (if p.testBit j = true then (if qb_W a p j ≤ g then g else qb_W a p j) else g) = g'
    obtain ⟨k1, k2, k3⟩ := key g' hg.symm
    obtain ⟨i1, i2, i3⟩ := ih (j + 1) g'
    refine ⟨by omega, fun e h1 h2 h3 => ?_, ?_⟩
    · by_cases z : e = j
      · subst z
        have := k2 h3
        omega
      · exact i2 e (by omega) (by omega) h3
    · rcases i3 with i3 | ⟨e, h1, h2, h3⟩
      · rw [i3]
        rcases k3 with k3 | ⟨k3, k4⟩
        · exact Or.inl k3
        · exact Or.inr ⟨j, by omega, k3, k4⟩
      · exact Or.inr ⟨e, by omega, h2, h3⟩
theorem qb_neg {x : Int32} {n : Int} (h1 : -n ≤ x.toInt) (h2 : x.toInt ≤ n) (hn : n ≤ 4) : (-x).toInt = -x.toInt := by
  rw [Int32.toInt_neg]
  exact Int.bmod_eq_of_le (by omega) (by omega)
theorem qb_addI {x : Int32} {c : Nat} (hc : c ≤ 4) (h1 : -4 ≤ x.toInt) (h2 : x.toInt ≤ 4) : (nI c + x).toInt = c + x.toInt := by
  rw [Int32.toInt_add, nI_toInt (by omega)]
  exact Int.bmod_eq_of_le (by omega) (by omega)
theorem qb_Wb {a : Nat → Int32} {p e : Nat} (hp : p < 4096) (h1 : -(qb_r (qb_cl p e) : Int) ≤ (a (qb_cl p e)).toInt) (h2 : (a (qb_cl p e)).toInt ≤ qb_r (qb_cl p e)) : -(qb_r p : Int) ≤ (qb_W a p e).toInt ∧ (qb_W a p e).toInt ≤ qb_r p := by
  have hr := qb_rc e hp
  have h4 := qb_r4 p
  have hc := qb_cc4 p e
  unfold qb_W
  by_cases z : qb_cc p e = 0
  · rw [if_pos z, qb_neg h1 h2 (by omega)]
    omega
  · rw [if_neg z, qb_addI hc (by omega) (by omega)]
    omega
theorem qb_m5 : (-5 : Int32).toInt = -5 := by decide
theorem qb_m100 : (-100 : Int32).toInt = -100 := by decide
/-- the values are small -/
theorem qb_Tb {a : Nat → Int32} {i : Nat} (hi : i ≤ 4096) (T : qb_Tab a i) : ∀ p, p < i → -(qb_r p : Int) ≤ (a p).toInt ∧ (a p).toInt ≤ qb_r p := by
  intro p
  induction p using Nat.strongRecOn with
  | ind p ih =>
    intro hpi
    by_cases z : p = 0
    · subst z
      rw [T.1, show (0 : Int32).toInt = 0 from by decide]
      omega
    · have hp : p < 4096 := by omega
      have hW : ∀ e, p.testBit e = true → -(qb_r p : Int) ≤ (qb_W a p e).toInt ∧ (qb_W a p e).toInt ≤ qb_r p := by
        intro e he
        have hl := qb_cl_lt hp he
        have := ih _ hl (by omega)
        exact qb_Wb hp this.1 this.2
      obtain ⟨e, he, hb⟩ := qb_ex hp z
      obtain ⟨g1, g2, g3⟩ := qb_gsp a p 12 0 (-5)
      have g4 := g2 e (by omega) (by omega) hb
      have h4 := qb_r4 p
      have h5 := hW e hb
      rw [T.2 p (by omega) hpi]
      rcases g3 with g3 | ⟨e2, _, hb2, h6⟩
      · rw [g3, qb_m5] at g4
        omega
      · rw [← h6]
        exact hW e2 hb2
theorem qb_TW {a : Nat → Int32} {i : Nat} (hi : i ≤ 4096) (T : qb_Tab a i) {p e : Nat} (hp : p ≤ i) (hp2 : p < 4096) (hb : p.testBit e = true) : -4 ≤ (qb_W a p e).toInt ∧ (qb_W a p e).toInt ≤ 4 := by
  have hl := qb_cl_lt hp2 hb
  have h := qb_Tb hi T (qb_cl p e) (by omega)
  have h2 := qb_Wb hp2 h.1 h.2
  have h4 := qb_r4 p
  omega
/-- where the search starts doesn't matter -/
theorem qb_st {a : Nat → Int32} (T : qb_Tab a 4096) {p : Nat} (h0 : p ≠ 0) (hp : p < 4096) : qb_gs a p 12 0 (-100) = a p := by
  rw [T.2 p (by omega) hp]
  obtain ⟨e, he, hb⟩ := qb_ex hp h0
  have hw := qb_TW (Nat.le_refl _) T (by omega) hp hb
  obtain ⟨g1, g2, g3⟩ := qb_gsp a p 12 0 (-5)
  obtain ⟨k1, k2, k3⟩ := qb_gsp a p 12 0 (-100)
  have g4 := g2 e (by omega) (by omega) hb
  have k4 := k2 e (by omega) (by omega) hb
  apply Int32.toInt_inj.mp
  rcases g3 with g3 | ⟨e1, l1, hb1, h1⟩
  · rw [g3, qb_m5] at g4; omega
  · rcases k3 with k3 | ⟨e2, l2, hb2, h2⟩
    · rw [k3, qb_m100] at k4; omega
    · have g5 := g2 e2 (by omega) (by omega) hb2
      have k5 := k2 e1 (by omega) (by omega) hb1
      rw [h2] at g5
      rw [h1] at k5
      omega
/-- e is free and its worth is the value -/
def qb_b (a : Nat → Int32) (p e : Nat) : Bool := p.testBit e && decide (qb_W a p e = a p)
theorem qb_bE {a : Nat → Int32} (T : qb_Tab a 4096) {p : Nat} (h0 : p ≠ 0) (hp : p < 4096) : ∃ e, e < 12 ∧ qb_b a p e = true := by
  obtain ⟨e, he, hb⟩ := qb_ex hp h0
  have hw := qb_TW (Nat.le_refl _) T (by omega) hp hb
  obtain ⟨g1, g2, g3⟩ := qb_gsp a p 12 0 (-5)
  have g4 := g2 e (by omega) (by omega) hb
  rcases g3 with g3 | ⟨e1, l1, hb1, h1⟩
  · rw [g3, qb_m5] at g4; omega
  · refine ⟨e1, by omega, ?_⟩
    unfold qb_b
    rw [hb1, T.2 p (by omega) hp, h1]
    simp
def qb_lb (a : Nat → Int32) (p : Nat) : Nat → Nat → Int32
  | 0, _ => -1
  | d + 1, j => if qb_b a p j = true then nI j else qb_lb a p d (j + 1)
theorem qb_lbE {a : Nat → Int32} {p : Nat} : ∀ d j, (∃ e, j ≤ e ∧ e < j + d ∧ qb_b a p e = true) → ∃ e, e < j + d ∧ p.testBit e = true ∧ qb_lb a p d j = nI e := by
  intro d
  induction d with
  | zero => intro j h; obtain ⟨e, h1, h2, _⟩ := h; omega
  | succ d ih =>
    intro j h
    obtain ⟨e, h1, h2, h3⟩ := h
    by_cases z : qb_b a p j = true
    · refine ⟨j, by omega, ?_, ?_⟩
      · unfold qb_b at z
        rw [Bool.and_eq_true] at z
        exact z.1
      · exact if_pos z
    · obtain ⟨e2, l2, b2, q2⟩ := ih (j + 1) ⟨e, by
        rcases Nat.lt_or_ge j e with h | h
        · omega
        · have : e = j := by omega
          subst this
          exact absurd h3 z, by omega, h3⟩
      refine ⟨e2, by omega, b2, ?_⟩
      show (if qb_b a p j = true then nI j else qb_lb a p d (j + 1)) = _
      rw [if_neg z]
      exact q2
/-- the least best edge of a mask that isn't empty -/
theorem qb_lbT {a : Nat → Int32} (T : qb_Tab a 4096) {p : Nat} (h0 : p ≠ 0) (hp : p < 4096) : ∃ e, e < 12 ∧ p.testBit e = true ∧ qb_lb a p 12 0 = nI e := by
  obtain ⟨e, he, hb⟩ := qb_bE T h0 hp
  obtain ⟨e2, h1, h2, h3⟩ := qb_lbE (a := a) (p := p) 12 0 ⟨e, by omega, by omega, hb⟩
  exact ⟨e2, by omega, h2, h3⟩
/-- the best edges as bits -/
def qb_bs (a : Nat → Int32) (p : Nat) : Nat → Nat → Nat → Nat
  | 0, _, x => x
  | d + 1, j, x => qb_bs a p d (j + 1) (if qb_b a p j = true then x ||| 2 ^ j else x)
theorem qb_bsT (a : Nat → Int32) (p : Nat) : ∀ d j x i, (qb_bs a p d j x).testBit i = (x.testBit i || (decide (j ≤ i ∧ i < j + d) && qb_b a p i)) := by
  intro d
  induction d with
  | zero =>
    intro j x i
    have h : ¬ (j ≤ i ∧ i < j + 0) := by omega
    show x.testBit i = _
    rw [decide_eq_false h, Bool.false_and, Bool.or_false]
  | succ d ih =>
    intro j x i
    show (qb_bs a p d (j + 1) _).testBit i = _
    rw [ih]
    by_cases z : i = j
    · subst z
      have h1 : ¬ (i + 1 ≤ i ∧ i < i + 1 + d) := by omega
      have h2 : i ≤ i ∧ i < i + (d + 1) := by omega
      rw [decide_eq_false h1, decide_eq_true h2]
      cases hb : qb_b a p i
      · simp
      · simp [Nat.testBit_or, Nat.testBit_two_pow]
    · have h1 : (j + 1 ≤ i ∧ i < j + 1 + d) ↔ (j ≤ i ∧ i < j + (d + 1)) := by omega
      rw [decide_eq_decide.mpr h1]
      congr 1
      split
      · rw [Nat.testBit_or, Nat.testBit_two_pow]
        have : ¬ j = i := by omega
        simp [this]
      · rfl
theorem qb_bsL (a : Nat → Int32) (p : Nat) : ∀ d j x, j + d ≤ 12 → x < 4096 → qb_bs a p d j x < 4096 := by
  intro d
  induction d with
  | zero => intro j x _ h; exact h
  | succ d ih =>
    intro j x h hx
    show qb_bs a p d (j + 1) _ < 4096
    apply ih _ _ (by omega)
    split
    · exact Nat.or_lt_two_pow (n := 12) hx (qb_p2 j (by omega))
    · exact hx
end
section
/-- the free mask, the next player, the owners after j draws of the history ed -/
def qb_F (ed : Nat → Nat) : Nat → Nat
  | 0 => 4095
  | j + 1 => qb_cl (qb_F ed j) (ed j)
def qb_N (ed : Nat → Nat) : Nat → Int32
  | 0 => 0
  | j + 1 => if qb_cc (qb_F ed j) (ed j) = 0 then 1 - qb_N ed j else qb_N ed j
def qb_O (ed : Nat → Nat) : Nat → Nat → Int32
  | 0, _ => -1
  | j + 1, b => if qb_l b (ed j) (qb_F ed j) = true then qb_N ed j else qb_O ed j b
/-- every draw was of a free edge -/
def qb_H (ed : Nat → Nat) (m : Nat) : Prop := ∀ i, i < m → ed i < 12 ∧ (qb_F ed i).testBit (ed i) = true
theorem qb_Fl (ed : Nat → Nat) : ∀ j, qb_F ed j < 4096
  | 0 => (by decide : 4095 < 4096)
  | j + 1 => Nat.lt_of_le_of_lt (qb_cl_le _ _) (qb_Fl ed j)
theorem qb_Fp (ed : Nat → Nat) : ∀ m, qb_H ed m → qb_pc (qb_F ed m) + m = 12 := by
  intro m
  induction m with
  | zero => intro _; rw [qb_F, qb_pcF]
  | succ m ih =>
    intro h
    have h1 := ih fun i hi => h i (by omega)
    have h2 := h m (by omega)
    have h3 := qb_pc1 (qb_Fl ed m) (ed m) h2.1 h2.2
    show qb_pc (qb_cl (qb_F ed m) (ed m)) + (m + 1) = 12
    omega
theorem qb_Hm {ed : Nat → Nat} {m : Nat} (h : qb_H ed m) : m ≤ 12 := by
  have := qb_Fp ed m h
  omega
theorem qb_F0 {ed : Nat → Nat} {m : Nat} (h : qb_H ed m) : qb_F ed m = 0 ↔ m = 12 := by
  have h1 := qb_Fp ed m h
  constructor
  · intro z
    rw [z, qb_pcZ] at h1
    omega
  · intro z
    exact qb_pc0 (qb_Fl ed m) (by omega)
theorem qb_N01 (ed : Nat → Nat) : ∀ j, qb_N ed j = 0 ∨ qb_N ed j = 1
  | 0 => Or.inl rfl
  | j + 1 => by
    show (if qb_cc (qb_F ed j) (ed j) = 0 then 1 - qb_N ed j else qb_N ed j) = 0 ∨ (if qb_cc (qb_F ed j) (ed j) = 0 then 1 - qb_N ed j else qb_N ed j) = 1
    rcases qb_N01 ed j with h | h
    · rw [h]
      split
      · exact Or.inr (by decide)
      · exact Or.inl rfl
    · rw [h]
      split
      · exact Or.inl (by decide)
      · exact Or.inr rfl
/-- a box that isn't complete has no owner -/
theorem qb_Om (ed : Nat → Nat) (b : Nat) : ∀ j, qb_F ed j &&& qb_mk b ≠ 0 → qb_O ed j b = -1 := by
  intro j
  induction j with
  | zero => intro _; rfl
  | succ j ih =>
    intro h
    show (if qb_l b (ed j) (qb_F ed j) = true then qb_N ed j else qb_O ed j b) = -1
    have h0 : ¬ qb_F ed j &&& qb_mk b = 0 := fun z => h (qb_box2 (qb_Fl ed j) z)
    by_cases z : qb_l b (ed j) (qb_F ed j) = true
    · exact absurd (qb_box1 (qb_Fl ed j) (of_decide_eq_true z)) h
    · rw [if_neg z]
      exact ih h0
theorem qb_Ol {ed : Nat → Nat} {b e j : Nat} (h : qb_l b e (qb_F ed j) = true) : qb_O ed j b = -1 := by
  apply qb_Om
  rw [of_decide_eq_true h]
  exact Nat.ne_of_gt (Nat.two_pow_pos e)
theorem qb_Fc {ed ed' : Nat → Nat} : ∀ j, (∀ i, i < j → ed i = ed' i) → qb_F ed j = qb_F ed' j
  | 0, _ => rfl
  | j + 1, h => by
    show qb_cl (qb_F ed j) (ed j) = qb_cl (qb_F ed' j) (ed' j)
    rw [qb_Fc j fun i hi => h i (by omega), h j (by omega)]
theorem qb_Nc {ed ed' : Nat → Nat} : ∀ j, (∀ i, i < j → ed i = ed' i) → qb_N ed j = qb_N ed' j
  | 0, _ => rfl
  | j + 1, h => by
    show (if qb_cc (qb_F ed j) (ed j) = 0 then 1 - qb_N ed j else qb_N ed j) = (if qb_cc (qb_F ed' j) (ed' j) = 0 then 1 - qb_N ed' j else qb_N ed' j)
    rw [qb_Fc j fun i hi => h i (by omega), h j (by omega), qb_Nc j fun i hi => h i (by omega)]
theorem qb_Oc {ed ed' : Nat → Nat} (b : Nat) : ∀ j, (∀ i, i < j → ed i = ed' i) → qb_O ed j b = qb_O ed' j b
  | 0, _ => rfl
  | j + 1, h => by
    show (if qb_l b (ed j) (qb_F ed j) = true then qb_N ed j else qb_O ed j b) = (if qb_l b (ed' j) (qb_F ed' j) = true then qb_N ed' j else qb_O ed' j b)
    rw [qb_Fc j fun i hi => h i (by omega), h j (by omega), qb_Nc j fun i hi => h i (by omega), qb_Oc b j fun i hi => h i (by omega)]
/-- the history with one draw more -/
def qb_up (ed : Nat → Nat) (m e : Nat) : Nat → Nat := fun i => if i = m then e else ed i
theorem qb_upn {ed : Nat → Nat} {m e i : Nat} (h : i < m) : qb_up ed m e i = ed i := if_neg (by omega)
theorem qb_ups {ed : Nat → Nat} {m e : Nat} : qb_up ed m e m = e := if_pos rfl
theorem qb_upF {ed : Nat → Nat} {m e j : Nat} (h : j ≤ m) : qb_F (qb_up ed m e) j = qb_F ed j := qb_Fc j fun i hi => qb_upn (by omega)
theorem qb_upN {ed : Nat → Nat} {m e j : Nat} (h : j ≤ m) : qb_N (qb_up ed m e) j = qb_N ed j := qb_Nc j fun i hi => qb_upn (by omega)
theorem qb_upO {ed : Nat → Nat} {m e j b : Nat} (h : j ≤ m) : qb_O (qb_up ed m e) j b = qb_O ed j b := qb_Oc b j fun i hi => qb_upn (by omega)
theorem qb_upF1 {ed : Nat → Nat} {m e : Nat} : qb_F (qb_up ed m e) (m + 1) = qb_cl (qb_F ed m) e := by
  show qb_cl (qb_F (qb_up ed m e) m) (qb_up ed m e m) = _
  rw [qb_upF (Nat.le_refl m), qb_ups]
theorem qb_upN1 {ed : Nat → Nat} {m e : Nat} : qb_N (qb_up ed m e) (m + 1) = if qb_cc (qb_F ed m) e = 0 then 1 - qb_N ed m else qb_N ed m := by
  show (if qb_cc (qb_F (qb_up ed m e) m) (qb_up ed m e m) = 0 then 1 - qb_N (qb_up ed m e) m else qb_N (qb_up ed m e) m) = _
  rw [qb_upF (Nat.le_refl m), qb_ups, qb_upN (Nat.le_refl m)]
theorem qb_upO1 {ed : Nat → Nat} {m e b : Nat} : qb_O (qb_up ed m e) (m + 1) b = if qb_l b e (qb_F ed m) = true then qb_N ed m else qb_O ed m b := by
  show (if qb_l b (qb_up ed m e m) (qb_F (qb_up ed m e) m) = true then qb_N (qb_up ed m e) m else qb_O (qb_up ed m e) m b) = _
  rw [qb_upF (Nat.le_refl m), qb_ups, qb_upN (Nat.le_refl m), qb_upO (Nat.le_refl m)]
theorem qb_upH {ed : Nat → Nat} {m e : Nat} (H : qb_H ed m) (he : e < 12) (hb : (qb_F ed m).testBit e = true) : qb_H (qb_up ed m e) (m + 1) := by
  intro i hi
  rw [qb_upF (by omega)]
  by_cases z : i = m
  · subst z; rw [qb_ups]; exact ⟨he, hb⟩
  · rw [qb_upn (by omega)]; exact H i (by omega)
/-- the boxes of a player, as the loops count them -/
def qb_cts (o : Nat → Int32) (pl : Int32) : Nat → Nat → Nat → Nat
  | 0, _, c => c
  | d + 1, j, c => qb_cts o pl d (j + 1) (if o j = pl then c + 1 else c)
def qb_ct (o : Nat → Int32) (pl : Int32) : Nat := qb_cts o pl 4 0 0
def qb_q (x pl : Int32) : Nat := if x = pl then 1 else 0
theorem qb_ct_s (o : Nat → Int32) (pl : Int32) : qb_ct o pl = qb_q (o 0) pl + qb_q (o 1) pl + qb_q (o 2) pl + qb_q (o 3) pl := by
  unfold qb_ct
  simp only [qb_cts, qb_q]
  by_cases h0 : o 0 = pl <;> by_cases h1 : o 1 = pl <;> by_cases h2 : o 2 = pl <;> by_cases h3 : o 3 = pl <;> simp [h0, h1, h2, h3]
theorem qb_ctc {o o' : Nat → Int32} (pl : Int32) (h : ∀ b, b < 4 → o b = o' b) : qb_ct o pl = qb_ct o' pl := by
  rw [qb_ct_s, qb_ct_s, h 0 (by omega), h 1 (by omega), h 2 (by omega), h 3 (by omega)]
theorem qb_ct4 (o : Nat → Int32) (pl : Int32) : qb_ct o pl ≤ 4 := by
  rw [qb_ct_s]
  have h : ∀ x, qb_q x pl ≤ 1 := by intro x; unfold qb_q; split <;> omega
  have h0 := h (o 0)
  have h1 := h (o 1)
  have h2 := h (o 2)
  have h3 := h (o 3)
  omega
theorem qb_q1 {ed : Nat → Nat} {m e b : Nat} {pl : Int32} (hp : pl = 0 ∨ pl = 1) : qb_q (qb_O (qb_up ed m e) (m + 1) b) pl = qb_q (qb_O ed m b) pl + (if qb_N ed m = pl then qb_t (qb_l b e (qb_F ed m)) else 0) := by
  rw [qb_upO1]
  by_cases z : qb_l b e (qb_F ed m) = true
  · have hm : ¬ (-1 : Int32) = pl := by rcases hp with h | h <;> rw [h] <;> decide
    rw [if_pos z, qb_Ol z, z]
    unfold qb_q qb_t
    rw [if_neg hm]
    simp
  · rw [if_neg z]
    have z2 : qb_l b e (qb_F ed m) = false := by cases h : qb_l b e (qb_F ed m); rfl; exact absurd h z
    rw [z2]
    simp [qb_t]
/-- a draw's boxes go to the drawer -/
theorem qb_ct1 {ed : Nat → Nat} {m e : Nat} {pl : Int32} (hp : pl = 0 ∨ pl = 1) : qb_ct (qb_O (qb_up ed m e) (m + 1)) pl = qb_ct (qb_O ed m) pl + (if qb_N ed m = pl then qb_cc (qb_F ed m) e else 0) := by
  rw [qb_ct_s, qb_ct_s, qb_q1 hp, qb_q1 hp, qb_q1 hp, qb_q1 hp, qb_cc_s]
  split <;> omega
end
section
theorem qb_or (a b : Nat) : nI a ||| nI b = nI (a ||| b) := by
  apply Int32.toBitVec_inj.1
  show BitVec.ofNat 32 a ||| BitVec.ofNat 32 b = BitVec.ofNat 32 (a ||| b)
  apply BitVec.eq_of_getLsbD_eq
  intro i hi
  simp [hi]
theorem qb_mkX : ∀ b, b < 4 → ((((1 : Int32) <<< (((2 * (nI b / 2)) + (nI b - nI b / 2 * 2)) &&& 31)) ||| ((1 : Int32) <<< (((2 * ((nI b / 2) + 1)) + (nI b - nI b / 2 * 2)) &&& 31))) ||| ((1 : Int32) <<< (((6 + (3 * (nI b / 2))) + (nI b - nI b / 2 * 2)) &&& 31))) ||| ((1 : Int32) <<< ((((6 + (3 * (nI b / 2))) + (nI b - nI b / 2 * 2)) + 1) &&& 31)) = nI (qb_mk b) := by decide +kernel
theorem qb_lI {b e p : Nat} (he : e < 12) (hp : p < 4096) : (nI p &&& nI (qb_mk b)) = ((1 : Int32) <<< (nI e &&& 31)) ↔ qb_l b e p = true := by
  have h1 : p &&& qb_mk b ≤ p := Nat.and_le_left
  have h2 := qb_p2 e he
  rw [qb_sh e he, nx_and, nI_eq (by omega) (by omega)]
  unfold qb_l
  exact decide_eq_true_iff.symm
theorem qb_cs1 {p e d j c : Nat} (h : qb_l j e p = true) : qb_cs p e (d + 1) j c = qb_cs p e d (j + 1) (c + 1) := by rw [qb_cs, if_pos h]
theorem qb_cs0 {p e d j c : Nat} (h : ¬ qb_l j e p = true) : qb_cs p e (d + 1) j c = qb_cs p e d (j + 1) c := by rw [qb_cs, if_neg h]
/-- one step of a loop that stores x for every box that l names -/
theorem qb_stp1 {x : Int32} (l : Nat → Bool) {ow ow' : Nat → Int32} {j : Nat} (hl : l j = true) (h : ∀ b, b < 4 → ow' b = if j + 1 ≤ b ∧ l b = true then x else upd ow j x b) : ∀ b, b < 4 → ow' b = if j ≤ b ∧ l b = true then x else ow b := by
  intro b hb
  rw [h b hb]
  by_cases z : b = j
  · subst z
    rw [if_neg (by omega), pk_us, if_pos ⟨Nat.le_refl _, hl⟩]
  · rw [pk_un z]
    have : (j + 1 ≤ b ∧ l b = true) ↔ (j ≤ b ∧ l b = true) := by
      constructor
      · exact fun w => ⟨by omega, w.2⟩
      · exact fun w => ⟨by omega, w.2⟩
    simp only [this]
theorem qb_stp0 {x : Int32} (l : Nat → Bool) {ow ow' : Nat → Int32} {j : Nat} (hl : ¬ l j = true) (h : ∀ b, b < 4 → ow' b = if j + 1 ≤ b ∧ l b = true then x else ow b) : ∀ b, b < 4 → ow' b = if j ≤ b ∧ l b = true then x else ow b := by
  intro b hb
  rw [h b hb]
  by_cases z : b = j
  · subst z
    rw [if_neg (by omega), if_neg fun w => hl w.2]
  · have : (j + 1 ≤ b ∧ l b = true) ↔ (j ≤ b ∧ l b = true) := by
      constructor
      · exact fun w => ⟨by omega, w.2⟩
      · exact fun w => ⟨by omega, w.2⟩
    simp only [this]
theorem qb_updS (f : Nat → Int32) (k : Nat) : upd f k (f k) = f := by
  funext i
  by_cases z : i = k
  · subst z; rw [pk_us]
  · rw [pk_un z]
theorem qb_nf {x : Bool} (h : x = false) : ¬ x = true := by rw [h]; decide
theorem qb_nt {x : Bool} (h : ¬ x = false) : x = true := by cases x; exact absurd rfl h; rfl
section
variable {post : Int32 → Prop} {dc fe np : Int32} {a ow de dr : Nat → Int32} {p e : Nat}
theorem qx_last {b : Nat} (hb : b < 4) (he : e < 12) (hp : p < 4096) (h1 : qb_l b e p = true → post 1) (h0 : ¬ qb_l b e p = true → post 0) : wpX_isLastOf post (nI b) (nI e) (nI p) := by
  unfold wpX_isLastOf
  refine ⟨by decide, nm_e ⟨by decide, nm_e (nm_e (nm_e (nm_e (nm_e ?_))))⟩⟩
  rw [qb_mkX b hb, qb_lI he hp]
  exact ⟨h1, h0⟩
theorem qx_comp4 (hp : p < 4096) (he : e < 12) : ∀ d j c, j + d = 4 → post (nI (qb_cs p e d j c)) → wX_completedIn_4 post (nI p) (nI e) (d + 1) (nI c) (nI j) := by
  intro d
  induction d with
  | zero => intro j c hj h; exact pk_le 4 j (fun _ => h) (fun z => absurd z (by omega))
  | succ d ih =>
    intro j c hj h
    refine pk_le 4 j (fun z => absurd z (by omega)) (fun _ => qx_last (by omega) he hp (fun z => ?_) (fun z => ?_))
    · exact br_f (by decide) (nm_r (nI_1 c) (nm_r (nI_1 j) (ih (j + 1) (c + 1) (by omega) (by rw [qb_cs1 z] at h; exact h))))
    · exact br_t rfl (nm_r (nI_1 j) (ih (j + 1) c (by omega) (by rw [qb_cs0 z] at h; exact h)))
theorem qx_comp (hp : p < 4096) (he : e < 12) (h : post (nI (qb_cc p e))) : wpX_completedIn post (nI p) (nI e) :=
  Exists.intro 5 (qx_comp4 hp he 4 0 0 rfl h)
theorem qx_worth (hp : p < 4096) (he : e < 12) (h : post (qb_W a p e)) : wpX_worthIn post (dc, fe, np, a, ow, de, dr) (nI p) (nI e) := by
  unfold wpX_worthIn
  dsimp only
  refine qx_comp hp he ?_
  have hl : qb_cl p e ≤ p := qb_cl_le p e
  have hc := qb_cc4 p e
  rw [qb_clI hp he, nI_clamp (by omega)]
  refine ⟨vp_in_nI (by omega) (by decide), nm_e ?_⟩
  unfold qb_W at h
  exact pk_le (qb_cc p e) 0 (fun z => by rw [if_pos (by omega)] at h; exact h) (fun z => by rw [if_neg (by omega)] at h; exact h)
theorem qx_freeIn (hp : p < 4096) (he : e < 12) (h1 : p.testBit e = true → post 1) (h0 : ¬ p.testBit e = true → post 0) : wpX_isFreeIn post (nI p) (nI e) := by
  unfold wpX_isFreeIn
  rw [qb_bitX hp he]
  exact br_f (nI_pos (by omega)) (br_f (nI_ge (b := 12) he (by decide)) ⟨fun z => h0 (qb_nf z), fun z => h1 (qb_nt z)⟩)
theorem qx_freeInN {x v1 : Int32} (h : v1 < 0 ∨ nI 12 ≤ v1) (h0 : post 0) : wpX_isFreeIn post x v1 := by
  unfold wpX_isFreeIn
  by_cases z : v1 < 0
  · exact br_t z h0
  · exact br_f z (br_t (h.resolve_left z) h0)
theorem qx_isFree (hp : p < 4096) (he : e < 12) (h1 : p.testBit e = true → post 1) (h0 : ¬ p.testBit e = true → post 0) : wpX_isFree post (dc, nI p, np, a, ow, de, dr) (nI e) := by
  unfold wpX_isFree
  dsimp only
  exact qx_freeIn hp he (fun z => ⟨rfl, h1 z⟩) (fun z => ⟨rfl, h0 z⟩)
theorem qx_isFreeN {v1 : Int32} (h : v1 < 0 ∨ nI 12 ≤ v1) (h0 : post 0) : wpX_isFree post (dc, fe, np, a, ow, de, dr) v1 := by
  unfold wpX_isFree
  dsimp only
  exact qx_freeInN h ⟨rfl, h0⟩
theorem qx_gr (hp : p < 4096) : ∀ d j g, j + d = 12 → post (qb_gs a p d j g) → wX_greatestWorthIn_5 post (nI p) dc fe np a ow de dr (d + 1) g (nI j) := by
  intro d
  induction d with
  | zero => intro j g hj h; exact pk_le 12 j (fun _ => h) (fun z => absurd z (by omega))
  | succ d ih =>
    intro j g hj h
    rw [qb_gs] at h
    refine pk_le 12 j (fun z => absurd z (by omega)) (fun _ => qx_freeIn hp (by omega) (fun z => ?_) (fun z => ?_))
    · refine br_f (by decide) (qx_worth hp (by omega) ?_)
      rw [if_pos z] at h
      exact br_c (fun w => nm_r (nI_1 j) (ih (j + 1) g (by omega) (by rw [if_pos w] at h; exact h))) (fun w => nm_r (nI_1 j) (ih (j + 1) _ (by omega) (by rw [if_neg w] at h; exact h)))
    · exact br_t rfl (nm_r (nI_1 j) (ih (j + 1) g (by omega) (by rw [if_neg z] at h; exact h)))
theorem qx_great (hp : p < 4096) (h : post (qb_gs a p 12 0 (-5))) : wpX_greatestWorthIn post (dc, fe, np, a, ow, de, dr) (nI p) := by
  unfold wpX_greatestWorthIn
  dsimp only
  exact Exists.intro 13 (qx_gr hp 12 0 (-5) rfl h)
theorem qx_best (hp : p < 4096) (he : e < 12) (h1 : qb_b a p e = true → post 1) (h0 : ¬ qb_b a p e = true → post 0) : wpX_isBestIn post (dc, fe, np, a, ow, de, dr) (nI p) (nI e) := by
  unfold wpX_isBestIn
  dsimp only
  refine qx_freeIn hp he (fun z => br_f (by decide) (qx_worth hp he ⟨vp_in_nI (by omega) (by decide), ?_⟩)) (fun z => br_t rfl (h0 fun w => ?_))
  · rw [nI_clamp (by omega)]
    refine br_c (fun w => h1 ?_) (fun w => h0 fun w2 => w ?_)
    · unfold qb_b; rw [z, w]; simp
    · unfold qb_b at w2
      rw [Bool.and_eq_true] at w2
      exact of_decide_eq_true w2.2
  · unfold qb_b at w
    rw [Bool.and_eq_true] at w
    exact z w.1
theorem qx_lb (hp : p < 4096) : ∀ d j, j + d = 12 → post (qb_lb a p d j) → wX_leastBestIn_2 post (nI p) dc fe np a ow de dr (d + 1) (nI j) := by
  intro d
  induction d with
  | zero => intro j hj h; exact pk_le 12 j (fun _ => h) (fun z => absurd z (by omega))
  | succ d ih =>
    intro j hj h
    rw [qb_lb] at h
    refine pk_le 12 j (fun z => absurd z (by omega)) (fun _ => qx_best hp (by omega) (fun z => ?_) (fun z => ?_))
    · exact br_f (by decide) (by rw [if_pos z] at h; exact h)
    · exact br_t rfl (nm_r (nI_1 j) (ih (j + 1) (by omega) (by rw [if_neg z] at h; exact h)))
theorem qx_least (hp : p < 4096) (h : post (qb_lb a p 12 0)) : wpX_leastBestIn post (dc, fe, np, a, ow, de, dr) (nI p) := by
  unfold wpX_leastBestIn
  dsimp only
  exact Exists.intro 13 (qx_lb hp 12 0 rfl h)
theorem qx_bs (hp : p < 4096) : ∀ d j x, j + d = 12 → post (nI (qb_bs a p d j x)) → wX_bestEdges_14 post dc (nI p) np a ow de dr (d + 1) (nI x) (nI j) := by
  intro d
  induction d with
  | zero => intro j x hj h; exact pk_le 12 j (fun _ => h) (fun z => absurd z (by omega))
  | succ d ih =>
    intro j x hj h
    rw [qb_bs] at h
    refine pk_le 12 j (fun z => absurd z (by omega)) (fun _ => qx_best hp (by omega) (fun z => ?_) (fun z => ?_))
    · exact br_f (by decide) (nm_r (by rw [qb_sh j (by omega), qb_or]) (nm_r (nI_1 j) (ih (j + 1) _ (by omega) (by rw [if_pos z] at h; exact h))))
    · exact br_t rfl (nm_r (nI_1 j) (ih (j + 1) x (by omega) (by rw [if_neg z] at h; exact h)))
theorem qx_ct {pl : Int32} : ∀ d j c, j + d = 4 → post (nI (qb_cts ow pl d j c)) → wX_boxesOf_4 post pl dc fe np a ow de dr (d + 1) (nI c) (nI j) := by
  intro d
  induction d with
  | zero => intro j c hj h; exact pk_le 4 j (fun _ => h) (fun z => absurd z (by omega))
  | succ d ih =>
    intro j c hj h
    rw [qb_cts] at h
    refine pk_le 4 j (fun z => absurd z (by omega)) (fun _ => ⟨vp_in_nI (by omega) (by decide), ?_⟩)
    rw [nI_clamp (by omega)]
    exact br_c (fun z => nm_r (nI_1 c) (nm_r (nI_1 j) (ih (j + 1) (c + 1) (by omega) (by rw [if_pos z] at h; exact h)))) (fun z => nm_r (nI_1 j) (ih (j + 1) c (by omega) (by rw [if_neg z] at h; exact h)))
theorem qx_boxesOf {pl : Int32} (h : post (nI (qb_ct ow pl))) : wpX_boxesOf post (dc, fe, np, a, ow, de, dr) pl := by
  unfold wpX_boxesOf
  dsimp only
  exact Exists.intro 5 (qx_ct 4 0 0 rfl h)
theorem qx_many {m : Nat} (hm : m ≤ 12) (h0 : 4 ≤ m → post 0) (h1 : m < 4 → post 1) : wpX_tooManyFree post (nI m, fe, np, a, ow, de, dr) := by
  unfold wpX_tooManyFree
  dsimp only
  exact pk_le (12 - m) 8 (fun z => h0 (by omega)) (fun z => h1 (by omega)) (pk_sub (a := 12) hm)
theorem qx_player {v1 : Int32} (h1 : v1 = 0 ∨ v1 = 1 → post 1) (h0 : ¬ (v1 = 0 ∨ v1 = 1) → post 0) : wpX_isPlayer post v1 := by
  unfold wpX_isPlayer
  exact br_c (fun z => h1 (Or.inl z)) (fun z => br_c (fun w => h1 (Or.inr w)) (fun w => h0 fun q => q.elim z w))
end
end
section
section
variable {dc fe np : Int32} {a ow de dr : Nat → Int32} {p e : Nat}
/-- one entry more of the table -/
theorem qb_Tup {a : Nat → Int32} {i : Nat} (h0 : 0 < i) (hi : i < 4096) (T : qb_Tab a i) : qb_Tab (upd a i (qb_gs a i 12 0 (-5))) (i + 1) := by
  have key : ∀ q, q ≤ i → qb_gs a q 12 0 (-5) = qb_gs (upd a i (qb_gs a i 12 0 (-5))) q 12 0 (-5) := by
    intro q hq
    apply qb_gsc _ (by omega)
    intro e he
    have := qb_cl_lt (by omega) he
    rw [pk_un (by omega)]
  constructor
  · rw [pk_un (by omega)]; exact T.1
  · intro q h1 h2
    rw [← key q (by omega)]
    by_cases z : q = i
    · subst z; rw [pk_us]
    · rw [pk_un z]; exact T.2 q h1 (by omega)
theorem qx_fl {post : SX → Prop} : ∀ d i a, i + d = 4096 → 0 < i → qb_Tab a i → (∀ a', qb_Tab a' 4096 → post (dc, fe, np, a', ow, de, dr)) → wX_fillValues_9 post dc fe np (d + 1) (nI i) a ow de dr := by
  intro d
  induction d with
  | zero =>
    intro i a hi h0 T h
    exact pk_le 4096 i (fun _ => h a (by rw [← hi]; exact T)) (fun z => absurd z (by omega))
  | succ d ih =>
    intro i a hi h0 T h
    refine pk_le 4096 i (fun z => absurd z (by omega)) (fun _ => qx_great (by omega) ⟨vp_in_nI (by omega) (by decide), ?_⟩)
    rw [nI_clamp (by omega)]
    exact nm_e (nm_r (nI_1 i) (ih (i + 1) _ (by omega) (by omega) (qb_Tup h0 (by omega) T) h))
theorem qx_fill {post : SX → Prop} (h : ∀ a', qb_Tab a' 4096 → post (dc, fe, np, a', ow, de, dr)) : wpX_fillValues post (dc, fe, np, a, ow, de, dr) := by
  unfold wpX_fillValues
  dsimp only
  refine nm_e (Exists.intro (4095 + 1) (qx_fl 4095 1 _ rfl (by decide) ⟨pk_us, fun q h1 h2 => absurd h2 (by omega)⟩ h))
theorem qx_bg {post : SX → Prop} : ∀ d j ow, j + d = 4 → (∀ b, b < j → ow b = -1) → (∀ ow', (∀ b, b < 4 → ow' b = -1) → post (dc, fe, np, a, ow', de, dr)) → wX_beginGame_19 post dc fe np (d + 1) (nI j) a ow de dr := by
  intro d
  induction d with
  | zero =>
    intro j ow hj ho h
    exact pk_le 4 j (fun _ => h ow (by rw [← hj]; exact ho)) (fun z => absurd z (by omega))
  | succ d ih =>
    intro j ow hj ho h
    refine pk_le 4 j (fun z => absurd z (by omega)) (fun _ => ⟨vp_in_nI (by omega) (by decide), ?_⟩)
    rw [nI_clamp (by omega)]
    refine nm_e (nm_r (nI_1 j) (ih (j + 1) _ (by omega) (fun b hb => ?_) h))
    by_cases z : b = j
    · subst z; exact pk_us
    · rw [pk_un z]; exact ho b (by omega)
theorem qx_begin {post : SX → Prop} (h : ∀ ow', (∀ b, b < 4 → ow' b = -1) → post (0, 4095, 0, a, ow', de, dr)) : wpX_beginGame post (dc, fe, np, a, ow, de, dr) := by
  unfold wpX_beginGame
  dsimp only
  exact Exists.intro 5 (qx_bg 4 0 ow rfl (fun b hb => absurd hb (by omega)) h)
theorem qx_df {post : Int32 → SX → Prop} {m C : Nat} (hm : m < 12) (hp : p < 4096) (he : e < 12) : ∀ d j c ow, j + d = 4 → c ≤ j → qb_cs p e d j c = C → (∀ ow', (∀ b, b < 4 → ow' b = if j ≤ b ∧ qb_l b e p = true then np else ow b) → post (nI C) (nI (m + 1), nI (qb_cl p e), if C = 0 then 1 - np else np, a, ow', upd de m (nI e), upd dr m np)) → wX_drawFree_4 post (nI e) (nI m) (nI p) np (d + 1) (nI c) (nI j) a ow de dr := by
  intro d
  induction d with
  | zero =>
    intro j c ow hj hc hC h
    have hC : c = C := hC
    subst hC
    have h2 := h ow (fun b hb => (if_neg (by omega)).symm)
    refine pk_le 4 j (fun _ => ⟨vp_in_nI (by omega) (by decide), ?_⟩) (fun z => absurd z (by omega))
    rw [nI_clamp (by omega)]
    refine nm_e ⟨vp_in_nI (by omega) (by decide), nm_e (nm_r (nI_1 m) (nm_r (qb_clI hp he) (pk_eq c 0 (fun z => nm_e ?_) (fun z => ?_))))⟩
    · rw [if_pos z] at h2; exact h2
    · rw [if_neg z] at h2; exact h2
  | succ d ih =>
    intro j c ow hj hc hC h
    refine pk_le 4 j (fun z => absurd z (by omega)) (fun _ => qx_last (by omega) he hp (fun z => ?_) (fun z => ?_))
    · refine br_f (by decide) ⟨vp_in_nI (by omega) (by decide), ?_⟩
      rw [nI_clamp (by omega)]
      refine nm_e (nm_r (nI_1 c) (nm_r (nI_1 j) (ih (j + 1) (c + 1) _ (by omega) (by omega) (by rw [← hC, qb_cs1 z]) (fun ow' h' => h ow' ?_))))
      exact qb_stp1 (fun b => qb_l b e p) z h'
    · refine br_t rfl (nm_r (nI_1 j) (ih (j + 1) c ow (by omega) (by omega) (by rw [← hC, qb_cs0 z]) (fun ow' h' => h ow' ?_)))
      exact qb_stp0 (fun b => qb_l b e p) z h'
theorem qx_drawFree {post : Int32 → SX → Prop} {m : Nat} (hm : m < 12) (hp : p < 4096) (he : e < 12) (h : ∀ ow', (∀ b, b < 4 → ow' b = if qb_l b e p = true then np else ow b) → post (nI (qb_cc p e)) (nI (m + 1), nI (qb_cl p e), if qb_cc p e = 0 then 1 - np else np, a, ow', upd de m (nI e), upd dr m np)) : wpX_drawFree post (nI m, nI p, np, a, ow, de, dr) (nI e) := by
  unfold wpX_drawFree
  dsimp only
  refine Exists.intro 5 (qx_df (C := qb_cc p e) hm hp he 4 0 0 ow rfl (by omega) rfl (fun ow' h' => h ow' fun b hb => ?_))
  rw [h' b hb]
  simp only [Nat.zero_le, true_and]
theorem qx_bk {post : Int32 → SX → Prop} (hp : p < 4096) (he : e < 12) : ∀ d j ow, j + d = 4 → (∀ ow', (∀ b, b < 4 → ow' b = if j ≤ b ∧ qb_l b e p = true then -1 else ow b) → post (nI e) (dc, nI p, np, a, ow', de, dr)) → wX_back_56 post (nI e) dc (nI p) np (d + 1) (nI j) a ow de dr := by
  intro d
  induction d with
  | zero =>
    intro j ow hj h
    exact pk_le 4 j (fun _ => h ow (fun b hb => (if_neg (by omega)).symm)) (fun z => absurd z (by omega))
  | succ d ih =>
    intro j ow hj h
    refine pk_le 4 j (fun z => absurd z (by omega)) (fun _ => qx_last (by omega) he hp (fun z => ?_) (fun z => ?_))
    · refine br_f (by decide) ⟨vp_in_nI (by omega) (by decide), ?_⟩
      rw [nI_clamp (by omega)]
      refine nm_e (nm_r (nI_1 j) (ih (j + 1) _ (by omega) (fun ow' h' => h ow' ?_)))
      exact qb_stp1 (fun b => qb_l b e p) z h'
    · refine br_t rfl (nm_r (nI_1 j) (ih (j + 1) ow (by omega) (fun ow' h' => h ow' ?_)))
      exact qb_stp0 (fun b => qb_l b e p) z h'
theorem qx_back {post : Int32 → SX → Prop} (hp : p < 4096) (he : e < 12) (h : ∀ ow', (∀ b, b < 4 → ow' b = if qb_l b e p = true then -1 else ow b) → post (nI e) (dc, nI p, np, a, ow', de, dr)) : ∃ n56 : Nat, wX_back_56 post (nI e) dc (nI p) np n56 0 a ow de dr := by
  refine Exists.intro 5 (qx_bk hp he 4 0 ow rfl (fun ow' h' => h ow' fun b hb => ?_))
  rw [h' b hb]
  simp only [Nat.zero_le, true_and]
end
end
section
theorem qb_mkY : ∀ b, b < 4 → (((((1 : Int32) <<< (((2 * (nI b / 2)) + (nI b - nI b / 2 * 2)) &&& 31)) ||| ((1 : Int32) <<< ((((2 * (nI b / 2)) + 2) + (nI b - nI b / 2 * 2)) &&& 31))) ||| ((1 : Int32) <<< (((6 + (3 * (nI b / 2))) + (nI b - nI b / 2 * 2)) &&& 31))) ||| ((1 : Int32) <<< (((7 + (3 * (nI b / 2))) + (nI b - nI b / 2 * 2)) &&& 31))) = nI (qb_mk b) := by decide +kernel
theorem qb_lJ {b e p : Nat} (he : e < 12) (hp : p < 4096) : (nI (qb_mk b) &&& nI p) = ((1 : Int32) <<< (nI e &&& 31)) ↔ qb_l b e p = true := by
  rw [← qb_lI he hp, nx_and, nx_and, Nat.and_comm]
/-- q is a part of f -/
def qb_sub (q f : Nat) : Prop := q &&& f = q
theorem qb_sub_le {q f : Nat} (h : qb_sub q f) : q ≤ f := by
  have : q &&& f ≤ f := Nat.and_le_right
  rw [h] at this
  exact this
theorem qb_sub_r (f : Nat) : qb_sub f f := Nat.and_self f
theorem qb_sub_cl {q f e : Nat} (h : qb_sub q f) : qb_sub (qb_cl q e) f := by
  unfold qb_sub qb_cl at *
  rw [Nat.and_assoc, Nat.and_comm (4095 ^^^ 2 ^ e) f, ← Nat.and_assoc, h]
theorem qb_subI {q f : Nat} (hq : q < 4096) (hf : f < 4096) : (nI q &&& (nI f ^^^ (-1))) = 0 ↔ qb_sub q f := by
  have h3 : q &&& (f ^^^ 4294967295) ≤ q := Nat.and_le_left
  rw [qb_nm1, nx_xor, nx_and, ← nI_0, nI_eq (by omega) (by decide)]
  unfold qb_sub
  constructor
  · intro h
    apply Nat.eq_of_testBit_eq
    intro i
    have h4 := congrArg (fun z => Nat.testBit z i) h
    simp only [Nat.testBit_and, Nat.testBit_xor, Nat.zero_testBit, qb_tbm1] at h4
    rw [Nat.testBit_and]
    by_cases hi : i < 12
    · have h5 : i < 32 := by omega
      rw [decide_eq_true h5] at h4
      cases hx : q.testBit i <;> cases hy : f.testBit i <;> simp_all
    · rw [qb_tbH hq (by omega)]; simp
  · intro h
    apply Nat.eq_of_testBit_eq
    intro i
    have h4 := congrArg (fun z => Nat.testBit z i) h
    simp only [Nat.testBit_and] at h4
    rw [Nat.testBit_and, Nat.testBit_xor, Nat.zero_testBit, qb_tbm1]
    by_cases hi : i < 12
    · have h5 : i < 32 := by omega
      rw [decide_eq_true h5]
      cases hx : q.testBit i <;> cases hy : f.testBit i <;> simp_all
    · rw [qb_tbH hq (by omega)]; simp
section
variable {post : Int32 → Prop} {dn nx : Int32} {eg hs vl : Nat → Int32} {p e : Nat}
theorem qy_box {b : Nat} (hb : b < 4) (h : post (nI (qb_mk b))) : wpY_box post (dn, nx, eg, hs, vl) (nI b) := by
  unfold wpY_box
  dsimp only
  refine ⟨by decide, nm_e ⟨by decide, nm_e ?_⟩⟩
  rw [qb_mkY b hb]
  exact h
theorem qy_comp5 (hp : p < 4096) (he : e < 12) : ∀ d j c, j + d = 4 → post (nI (qb_cs p e d j c)) → wY_completes_5 post (nI p) (nI e) dn nx eg hs vl (d + 1) (nI c) (nI j) := by
  intro d
  induction d with
  | zero => intro j c hj h; exact pk_le 4 j (fun _ => h) (fun z => absurd z (by omega))
  | succ d ih =>
    intro j c hj h
    refine pk_le 4 j (fun z => absurd z (by omega)) (fun _ => qy_box (by omega) ?_)
    rw [qb_lJ he hp]
    refine br_c (fun z => ?_) (fun z => ?_)
    · exact nm_r (nI_1 c) (nm_r (nI_1 j) (ih (j + 1) (c + 1) (by omega) (by rw [qb_cs1 z] at h; exact h)))
    · exact nm_r (Int32.add_zero _) (nm_r (nI_1 j) (ih (j + 1) c (by omega) (by rw [qb_cs0 z] at h; exact h)))
theorem qy_comp (hp : p < 4096) (he : e < 12) (h : post (nI (qb_cc p e))) : wpY_completes post (dn, nx, eg, hs, vl) (nI p) (nI e) := by
  unfold wpY_completes
  dsimp only
  exact Exists.intro 5 (qy_comp5 hp he 4 0 0 rfl h)
theorem qy_worth (hp : p < 4096) (he : e < 12) (h : post (qb_W vl p e)) : wpY_worthIn post (dn, nx, eg, hs, vl) (nI p) (nI e) := by
  unfold wpY_worthIn
  dsimp only
  refine qy_comp hp he ?_
  have hl : qb_cl p e ≤ p := qb_cl_le p e
  have hc := qb_cc4 p e
  rw [qb_clI hp he, nI_clamp (by omega)]
  refine ⟨vp_in_nI (by omega) (by decide), nm_e ?_⟩
  unfold qb_W at h
  exact pk_le (qb_cc p e) 0 (fun z => by rw [if_pos (by omega)] at h; exact h) (fun z => by rw [if_neg (by omega)] at h; exact h)
theorem qy_gr (hp : p < 4096) : ∀ d j g, j + d = 12 → post (qb_gs vl p d j g) → wY_greatest_5 post (nI p) dn nx eg hs vl (d + 1) g (nI j) := by
  intro d
  induction d with
  | zero => intro j g hj h; exact pk_le 12 j (fun _ => h) (fun z => absurd z (by omega))
  | succ d ih =>
    intro j g hj h
    rw [qb_gs] at h
    refine pk_le 12 j (fun z => absurd z (by omega)) (fun _ => ?_)
    rw [qb_bitY1 hp (by omega)]
    refine br_c (fun z => qy_worth hp (by omega) ?_) (fun z => ?_)
    · rw [if_pos z] at h
      exact br_c (fun w => nm_r (nI_1 j) (ih (j + 1) g (by omega) (by rw [if_pos w] at h; exact h))) (fun w => nm_r (nI_1 j) (ih (j + 1) _ (by omega) (by rw [if_neg w] at h; exact h)))
    · exact nm_r (nI_1 j) (ih (j + 1) g (by omega) (by rw [if_neg z] at h; exact h))
theorem qy_great (hp : p < 4096) (h : post (qb_gs vl p 12 0 (-100))) : wpY_greatest post (dn, nx, eg, hs, vl) (nI p) := by
  unfold wpY_greatest
  dsimp only
  exact Exists.intro 13 (qy_gr hp 12 0 (-100) rfl h)
theorem qy_fr {ed : Nat → Nat} {m : Nat} (H : qb_H ed m) (hE : ∀ i, i < m → eg i = nI (ed i)) (h : post (nI (qb_F ed m))) : ∀ d j, j + d = m → wY_free_6 post (nI m) nx eg hs vl (d + 1) (nI (qb_F ed j)) (nI j) := by
  have hm := qb_Hm H
  intro d
  induction d with
  | zero =>
    intro j hj
    have hj : j = m := hj
    subst hj
    exact pk_le j j (fun _ => h) (fun z => absurd z (by omega))
  | succ d ih =>
    intro j hj
    refine pk_le m j (fun z => absurd z (by omega)) (fun _ => ⟨vp_in_nI (by omega) (by decide), ?_⟩)
    rw [nI_clamp (by omega), hE j (by omega)]
    exact nm_r (qb_clI (qb_Fl ed j) (H j (by omega)).1) (nm_r (nI_1 j) (ih (j + 1) (by omega)))
theorem qy_free {ed : Nat → Nat} {m : Nat} (H : qb_H ed m) (hE : ∀ i, i < m → eg i = nI (ed i)) (h : post (nI (qb_F ed m))) : wpY_free post (nI m, nx, eg, hs, vl) := by
  unfold wpY_free
  dsimp only
  exact Exists.intro (m + 1) (qy_fr H hE h m 0 (by omega))
theorem qy_many {m : Nat} (hm : m ≤ 12) (h0 : 4 ≤ m → post 0) (h1 : m < 4 → post 1) : wpY_many post (nI m, nx, eg, hs, vl) := by
  unfold wpY_many
  dsimp only
  exact pk_le 4 m h0 h1
end
end
section
section
variable {dn nx : Int32} {eg hs vl a : Nat → Int32} {p e : Nat}
theorem qy_wk {post : SY → Prop} {f : Nat} (hf : f < 4096) (T : qb_Tab a 4096) : ∀ d i vl, i + d = f + 1 → 0 < i → (∀ q, q < i → qb_sub q f → vl q = a q) → (∀ vl', (∀ q, qb_sub q f → vl' q = a q) → post (dn, nx, eg, hs, vl')) → wY_work_14 post (nI f) dn nx (d + 1) (nI i) eg hs vl := by
  intro d
  induction d with
  | zero =>
    intro i vl hi h0 hv h
    refine pk_lt f i (fun _ => h vl fun q hq => hv q ?_ hq) (fun z => absurd z (by omega))
    have := qb_sub_le hq
    omega
  | succ d ih =>
    intro i vl hi h0 hv h
    refine pk_lt f i (fun z => absurd z (by omega)) (fun _ => pk_le 4096 i (fun z => absurd z (by omega)) (fun _ => ?_))
    rw [qb_subI (by omega) hf]
    refine br_c (fun z => qy_great (by omega) ⟨vp_in_nI (by omega) (by decide), ?_⟩) (fun z => nm_r (nI_1 i) (ih (i + 1) vl (by omega) (by omega) (fun q h1 h2 => ?_) h))
    · have hg : qb_gs vl i 12 0 (-100) = a i := by
        rw [← qb_st T (by omega) (by omega)]
        apply qb_gsc _ (by omega)
        intro e he
        exact hv _ (qb_cl_lt (by omega) he) (qb_sub_cl z)
      rw [nI_clamp (by omega), hg]
      refine nm_e (nm_r (nI_1 i) (ih (i + 1) _ (by omega) (by omega) (fun q h1 h2 => ?_) h))
      by_cases w : q = i
      · subst w; exact pk_us
      · rw [pk_un w]; exact hv q (by omega) h2
    · refine hv q ?_ h2
      have : q ≠ i := fun w => z (by rw [← w]; exact h2)
      omega
/-- Y's table agrees with X's on the parts of the free mask -/
theorem qy_work {post : SY → Prop} {ed : Nat → Nat} {m : Nat} (H : qb_H ed m) (hE : ∀ i, i < m → eg i = nI (ed i)) (T : qb_Tab a 4096) (h : ∀ vl', (∀ q, qb_sub q (qb_F ed m) → vl' q = a q) → post (nI m, nx, eg, hs, vl')) : wpY_work post (nI m, nx, eg, hs, vl) := by
  unfold wpY_work
  dsimp only
  refine qy_free H hE (nm_e (Exists.intro (qb_F ed m + 1) (qy_wk (qb_Fl ed m) T (qb_F ed m) 1 _ (by omega) (by decide) (fun q h1 h2 => ?_) h)))
  have : q = 0 := by omega
  subst this
  rw [pk_us, T.1]
theorem qy_bs {post : Int32 → SY → Prop} (hp : p < 4096) (hv : ∀ q, qb_sub q p → vl q = a q) : ∀ d j x, j + d = 12 → post (nI (qb_bs a p d j x)) (dn, nx, eg, hs, vl) → wY_bestEdges_23 post (nI p) dn nx eg hs vl (d + 1) (nI x) (nI j) := by
  intro d
  induction d with
  | zero => intro j x hj h; exact pk_le 12 j (fun _ => h) (fun z => absurd z (by omega))
  | succ d ih =>
    intro j x hj h
    rw [qb_bs] at h
    refine pk_le 12 j (fun z => absurd z (by omega)) (fun _ => ?_)
    rw [qb_bitY1 hp (by omega)]
    refine br_c (fun z => qy_worth hp (by omega) ⟨vp_in_nI (by omega) (by decide), ?_⟩) (fun z => ?_)
    · rw [nI_clamp (by omega), hv p (qb_sub_r p), qb_Wc hp z (hv _ (qb_sub_cl (qb_sub_r p)))]
      refine br_c (fun w => ?_) (fun w => ?_)
      · have hb : qb_b a p j = true := by unfold qb_b; rw [z, w]; simp
        rw [if_pos hb] at h
        exact nm_r (by rw [qb_sh j (by omega), qb_or]) (nm_r (nI_1 j) (ih (j + 1) _ (by omega) h))
      · have hb : ¬ qb_b a p j = true := fun w2 => by
          unfold qb_b at w2
          rw [Bool.and_eq_true] at w2
          exact w (of_decide_eq_true w2.2)
        rw [if_neg hb] at h
        exact nm_r (nI_1 j) (ih (j + 1) _ (by omega) h)
    · have hb : ¬ qb_b a p j = true := fun w2 => by
        unfold qb_b at w2
        rw [Bool.and_eq_true] at w2
        exact z w2.1
      rw [if_neg hb] at h
      exact nm_r (nI_1 j) (ih (j + 1) _ (by omega) h)
theorem qy_bestEdges {post : Int32 → SY → Prop} {ed : Nat → Nat} {m : Nat} (H : qb_H ed m) (h4 : 4 ≤ m) (hE : ∀ i, i < m → eg i = nI (ed i)) (T : qb_Tab a 4096) (h : ∀ vl', post (nI (qb_bs a (qb_F ed m) 12 0 0)) (nI m, nx, eg, hs, vl')) : wpY_bestEdges post (nI m, nx, eg, hs, vl) := by
  unfold wpY_bestEdges
  dsimp only
  refine qy_many (qb_Hm H) (fun _ => br_t rfl (qy_work H hE T fun vl' hv => ?_)) (fun z => absurd z (by omega))
  exact qy_free H hE (Exists.intro 13 (qy_bs (qb_Fl ed m) hv 12 0 0 rfl (h vl')))
theorem qy_lb {post : Int32 → SY → Prop} {B : Nat} (hB : B < 4096) (hb : ∀ i, i < 12 → B.testBit i = qb_b a p i) : ∀ d j, j + d = 12 → post (qb_lb a p d j) (dn, nx, eg, hs, vl) → wY_best_17 post (nI B) dn nx eg hs vl (d + 1) (nI j) := by
  intro d
  induction d with
  | zero => intro j hj h; exact pk_le 12 j (fun _ => h) (fun z => absurd z (by omega))
  | succ d ih =>
    intro j hj h
    rw [qb_lb] at h
    refine pk_le 12 j (fun z => absurd z (by omega)) (fun _ => ?_)
    rw [qb_bitY1 hB (by omega), hb j (by omega)]
    refine br_c (fun z => ?_) (fun z => ?_)
    · rw [if_pos z] at h; exact h
    · exact nm_r (nI_1 j) (ih (j + 1) (by omega) (by rw [if_neg z] at h; exact h))
theorem qy_best {post : Int32 → SY → Prop} {ed : Nat → Nat} {m : Nat} (H : qb_H ed m) (h4 : 4 ≤ m) (hE : ∀ i, i < m → eg i = nI (ed i)) (T : qb_Tab a 4096) (h : ∀ vl', post (qb_lb a (qb_F ed m) 12 0) (nI m, nx, eg, hs, vl')) : wpY_best post (nI m, nx, eg, hs, vl) := by
  unfold wpY_best
  dsimp only
  refine qy_many (qb_Hm H) (fun _ => br_t rfl (qy_bestEdges H h4 hE T fun vl' => ?_)) (fun z => absurd z (by omega))
  refine Exists.intro 13 (qy_lb (a := a) (p := qb_F ed m) (qb_bsL a _ 12 0 0 (by omega) (by omega)) (fun i hi => ?_) 12 0 rfl (h vl'))
  have hd : 0 ≤ i ∧ i < 0 + 12 := by omega
  rw [qb_bsT, Nat.zero_testBit, decide_eq_true hd]
  simp
theorem qy_draw {post : Int32 → SY → Prop} {ed : Nat → Nat} {m : Nat} (H : qb_H ed m) (hE : ∀ i, i < m → eg i = nI (ed i)) (he : e < 12) (hb : (qb_F ed m).testBit e = true) (h : post (nI (qb_cc (qb_F ed m) e)) (nI (m + 1), nx, upd eg m (nI e), hs, vl)) : wpY_draw post (nI m, nx, eg, hs, vl) (nI e) := by
  have hm : m < 12 := by
    have h1 := qb_Hm H
    have h2 : m ≠ 12 := fun z => by
      rw [(qb_F0 H).mpr z, Nat.zero_testBit] at hb
      exact nomatch hb
    omega
  unfold wpY_draw
  dsimp only
  refine qy_free H hE (br_f (nI_pos (by omega)) (br_f (nI_nlt (a := 11) (b := e) (by omega) (by decide)) ?_))
  rw [qb_bitY0 (qb_Fl ed m) he, hb]
  refine br_f (by decide) (br_t (nI_lt (b := 12) hm (by decide)) ⟨vp_in_nI hm (by decide), ?_⟩)
  rw [nI_clamp (by omega)]
  exact nm_e (nm_r (nI_1 m) (qy_comp (qb_Fl ed m) he h))
/-- one draw that is refused -/
theorem qy_drawN {post : Int32 → SY → Prop} {ed : Nat → Nat} {m : Nat} {v1 : Int32} (H : qb_H ed m) (hE : ∀ i, i < m → eg i = nI (ed i)) (hv : v1 < 0 ∨ nI 12 ≤ v1 ∨ ∃ e, e < 12 ∧ v1 = nI e ∧ ¬ (qb_F ed m).testBit e = true) (h : post (-1) (nI m, nx, eg, hs, vl)) : wpY_draw post (nI m, nx, eg, hs, vl) v1 := by
  unfold wpY_draw
  dsimp only
  refine qy_free H hE ?_
  by_cases z : v1 < 0
  · exact br_t z h
  · refine br_f z ?_
    by_cases z2 : 11 < v1
    · exact br_t z2 h
    · refine br_f z2 ?_
      rcases hv with hv | hv | ⟨e, he, rfl, hb⟩
      · exact absurd hv z
      · exact absurd (Int32.lt_of_lt_of_le (by decide) hv) z2
      · rw [qb_bitY0 (qb_Fl ed m) he]
        exact br_t (by cases hh : (qb_F ed m).testBit e; rfl; exact absurd hh hb) h
theorem qy_r11 {post : SY → Prop} {x1 : Int32} : ∀ d j hs, j + d = 4 → (∀ b, b < j → hs b = -1) → (∀ hs', (∀ b, b < 4 → hs' b = -1) → ∃ n31 : Nat, wY_replay_31 post dn n31 x1 0 nx eg hs' vl) → wY_replay_11 post x1 dn nx (d + 1) (nI j) eg hs vl := by
  intro d
  induction d with
  | zero =>
    intro j hs hj ho h
    exact pk_le 4 j (fun _ => h hs (by rw [← hj]; exact ho)) (fun z => absurd z (by omega))
  | succ d ih =>
    intro j hs hj ho h
    refine pk_le 4 j (fun z => absurd z (by omega)) (fun _ => ⟨vp_in_nI (by omega) (by decide), ?_⟩)
    rw [nI_clamp (by omega)]
    refine nm_e (nm_r (nI_1 j) (ih (j + 1) _ (by omega) (fun b hb => ?_) h))
    by_cases z : b = j
    · subst z; exact pk_us
    · rw [pk_un z]; exact ho b (by omega)
theorem qy_r41 {post : SY → Prop} {J : Int32 → Int32 → Int32 → (Nat → Int32) → (Nat → Int32) → (Nat → Int32) → Prop} {k : Nat} (hk : k < 12) (hp : p < 4096) (he : e < 12) (hE : eg k = nI e) : ∀ d j hs, j + d = 4 → (∀ hs', (∀ b, b < 4 → hs' b = if j ≤ b ∧ qb_l b e p = true then nx else hs b) → J (nI (qb_cl p e)) (nI (k + 1)) (if qb_cc p e = 0 then 1 - nx else nx) eg hs' vl) → wY_replay_41 post J (nI p) (nI k) dn nx (d + 1) (nI j) eg hs vl := by
  intro d
  induction d with
  | zero =>
    intro j hs hj h
    have h2 := h hs (fun b hb => (if_neg (by omega)).symm)
    have hc := qb_cc4 p e
    refine pk_le 4 j (fun _ => ⟨vp_in_nI (by omega) (by decide), ?_⟩) (fun z => absurd z (by omega))
    rw [nI_clamp (by omega), hE]
    refine qy_comp hp he (pk_le (qb_cc p e) 0 (fun z => ?_) (fun z => ?_))
    · unfold wY_replay_117
      rw [nI_clamp (by omega), hE]
      rw [if_pos (by omega)] at h2
      exact ⟨vp_in_nI (by omega) (by decide), nm_r (qb_clI hp he) (nm_r (nI_1 k) h2)⟩
    · unfold wY_replay_117
      rw [nI_clamp (by omega), hE]
      rw [if_neg (by omega)] at h2
      exact ⟨vp_in_nI (by omega) (by decide), nm_r (qb_clI hp he) (nm_r (nI_1 k) h2)⟩
  | succ d ih =>
    intro j hs hj h
    refine pk_le 4 j (fun z => absurd z (by omega)) (fun _ => qy_box (by omega) ⟨vp_in_nI (by omega) (by decide), ?_⟩)
    rw [nI_clamp (n := k) (by omega), hE, qb_lJ he hp, nI_clamp (n := j) (by omega)]
    refine br_c (fun z => ⟨vp_in_nI (by omega) (by decide), nm_e (nm_r (nI_1 j) (ih (j + 1) _ (by omega) (fun hs' h' => h hs' ?_)))⟩) (fun z => ⟨vp_in_nI (by omega) (by decide), vp_in_nI (by omega) (by decide), nm_r (qb_updS hs j) (nm_r (nI_1 j) (ih (j + 1) hs (by omega) (fun hs' h' => h hs' ?_)))⟩)
    · exact qb_stp1 (fun b => qb_l b e p) z h'
    · exact qb_stp0 (fun b => qb_l b e p) z h'
theorem qy_r31 {post : SY → Prop} {ed : Nat → Nat} {m : Nat} (H : qb_H ed m) (hE : ∀ i, i < m → eg i = nI (ed i)) (h : ∀ hs', (∀ b, b < 4 → hs' b = qb_O ed m b) → post (nI m, qb_N ed m, eg, hs', vl)) : ∀ d j hs, j + d = m → (∀ b, b < 4 → hs b = qb_O ed j b) → wY_replay_31 post (nI m) (d + 1) (nI (qb_F ed j)) (nI j) (qb_N ed j) eg hs vl := by
  have hm := qb_Hm H
  intro d
  induction d with
  | zero =>
    intro j hs hj hO
    have hj : j = m := hj
    subst hj
    exact pk_le j j (fun _ => h hs hO) (fun z => absurd z (by omega))
  | succ d ih =>
    intro j hs hj hO
    refine pk_le m j (fun z => absurd z (by omega)) (fun _ => Exists.intro 5 (qy_r41 (by omega) (qb_Fl ed j) (H j (by omega)).1 (hE j (by omega)) 4 0 hs rfl (fun hs' h' => ih (j + 1) hs' (by omega) (fun b hb => ?_))))
    rw [h' b hb, hO b hb]
    simp only [Nat.zero_le, true_and]
    rfl
theorem qy_replay {post : SY → Prop} {ed : Nat → Nat} {m : Nat} (H : qb_H ed m) (hE : ∀ i, i < m → eg i = nI (ed i)) (h : ∀ hs', (∀ b, b < 4 → hs' b = qb_O ed m b) → post (nI m, qb_N ed m, eg, hs', vl)) : wpY_replay post (nI m, nx, eg, hs, vl) := by
  unfold wpY_replay
  dsimp only
  exact Exists.intro 5 (qy_r11 4 0 hs rfl (fun b hb => absurd hb (by omega)) (fun hs' h' => Exists.intro (m + 1) (qy_r31 H hE h m 0 hs' (by omega) h')))
theorem qy_ct {post : Int32 → SY → Prop} {pl : Int32} : ∀ d j c, j + d = 4 → post (nI (qb_cts hs pl d j c)) (dn, nx, eg, hs, vl) → wY_boxes_19 post pl dn nx eg hs vl (d + 1) (nI c) (nI j) := by
  intro d
  induction d with
  | zero => intro j c hj h; exact pk_le 4 j (fun _ => h) (fun z => absurd z (by omega))
  | succ d ih =>
    intro j c hj h
    rw [qb_cts] at h
    refine pk_le 4 j (fun z => absurd z (by omega)) (fun _ => ⟨vp_in_nI (by omega) (by decide), ?_⟩)
    rw [nI_clamp (by omega)]
    exact br_c (fun z => nm_r (nI_1 c) (nm_r (nI_1 j) (ih (j + 1) (c + 1) (by omega) (by rw [if_pos z] at h; exact h)))) (fun z => nm_r (Int32.add_zero _) (nm_r (nI_1 j) (ih (j + 1) c (by omega) (by rw [if_neg z] at h; exact h))))
theorem qy_boxes {post : Int32 → SY → Prop} {ed : Nat → Nat} {m : Nat} {pl : Int32} (H : qb_H ed m) (hE : ∀ i, i < m → eg i = nI (ed i)) (hp : pl = 0 ∨ pl = 1) (h : ∀ hs', post (nI (qb_ct (qb_O ed m) pl)) (nI m, qb_N ed m, eg, hs', vl)) : wpY_boxes post (nI m, nx, eg, hs, vl) pl := by
  have key : wY_boxes_11 post pl (nI m) nx eg hs vl := by
    unfold wY_boxes_11
    refine qy_replay H hE (fun hs' h' => Exists.intro 5 (qy_ct 4 0 0 rfl ?_))
    have h2 := h hs'
    rw [← qb_ctc pl h'] at h2
    exact h2
  unfold wpY_boxes
  dsimp only
  exact br_c (fun _ => key) (fun z => br_t (hp.resolve_left z) key)
end
end
section
/-- X's state after m draws of the history ed; Y's -/
def qb_XA (ed : Nat → Nat) (m : Nat) (ow de dr : Nat → Int32) : Prop := (∀ b, b < 4 → ow b = qb_O ed m b) ∧ (∀ i, i < m → de i = nI (ed i)) ∧ (∀ i, i < m → dr i = qb_N ed i)
def qb_X (a : Nat → Int32) (ed : Nat → Nat) (m : Nat) (u : SX) : Prop := ∃ ow de dr : Nat → Int32, u = (nI m, nI (qb_F ed m), qb_N ed m, a, ow, de, dr) ∧ qb_XA ed m ow de dr
def qb_Y (ed : Nat → Nat) (m : Nat) (v : SY) : Prop := ∃ (nx : Int32) (eg hs vl : Nat → Int32), v = (nI m, nx, eg, hs, vl) ∧ ∀ i, i < m → eg i = nI (ed i)
theorem qb_m12 {ed : Nat → Nat} {m e : Nat} (H : qb_H ed m) (hb : (qb_F ed m).testBit e = true) : m < 12 := by
  have h1 := qb_Hm H
  have h2 : m ≠ 12 := fun z => by
    rw [(qb_F0 H).mpr z, Nat.zero_testBit] at hb
    exact nomatch hb
  omega
theorem qb_YU {ed : Nat → Nat} {m e : Nat} {eg : Nat → Int32} (hE : ∀ i, i < m → eg i = nI (ed i)) : ∀ i, i < m + 1 → upd eg m (nI e) i = nI (qb_up ed m e i) := by
  intro i hi
  by_cases z : i = m
  · subst z; rw [pk_us, qb_ups]
  · rw [pk_un z, qb_upn (by omega)]; exact hE i (by omega)
theorem qx_draw1 {post : Int32 → SX → Prop} {a ow de dr : Nat → Int32} {ed : Nat → Nat} {m e : Nat} (H : qb_H ed m) (A : qb_XA ed m ow de dr) (he : e < 12) (hb : (qb_F ed m).testBit e = true) (h : ∀ ow' de' dr', qb_XA (qb_up ed m e) (m + 1) ow' de' dr' → post (nI (qb_cc (qb_F ed m) e)) (nI (m + 1), nI (qb_F (qb_up ed m e) (m + 1)), qb_N (qb_up ed m e) (m + 1), a, ow', de', dr')) : wpX_drawFree post (nI m, nI (qb_F ed m), qb_N ed m, a, ow, de, dr) (nI e) := by
  refine qx_drawFree (qb_m12 H hb) (qb_Fl ed m) he (fun ow' h' => ?_)
  have h2 := h ow' (upd de m (nI e)) (upd dr m (qb_N ed m)) ⟨fun b hb4 => ?_, qb_YU A.2.1, fun i hi => ?_⟩
  · rw [qb_upF1, qb_upN1] at h2
    exact h2
  · rw [h' b hb4, qb_upO1, A.1 b hb4]
  · rw [qb_upN (by omega)]
    by_cases z : i = m
    · subst z; rw [pk_us]
    · rw [pk_un z]; exact A.2.2 i (by omega)
theorem qx_f90 {post : Int32 → Prop} {J : Int32 → Int32 → Int32 → Int32 → Prop} {x1 x2 x3 dc fe np : Int32} {a ow de dr : Nat → Int32} {p e k : Nat} (hp : p < 4096) (he : e < 12) (h : J x2 x3 (nI (qb_cl p e)) (nI (k + 1))) : wX_forecast_90 post J x1 x2 x3 (nI p) (nI k) (nI e) dc fe np a ow de dr :=
  nm_r (qb_clI hp he) (nm_r (nI_1 k) h)
/-- the draws that best names, up to n of them: both sides end in the same history; forecast's walk ends with its count -/
theorem qb_play {a : Nat → Int32} (T : qb_Tab a 4096) (n : Int32) : ∀ d k m ed, k + d = 12 → qb_H ed m → 4 ≤ m → ∃ t ed', qb_H ed' (m + t) ∧ (∀ i, i < m → ed' i = ed i) ∧
    (∀ (post : Int32 → SX → Prop) (ow de dr : Nat → Int32), qb_XA ed m ow de dr → (∀ u', qb_X a ed' (m + t) u' → post (nI (k + t)) u') → wX_playOut_12 post n (d + 1) (nI k) (nI m) (nI (qb_F ed m)) (qb_N ed m) a ow de dr) ∧
    (∀ (post : Int32 → SY → Prop) (nx : Int32) (eg hs vl : Nat → Int32), (∀ i, i < m → eg i = nI (ed i)) → (∀ v', qb_Y ed' (m + t) v' → post (nI (k + t)) v') → wY_playOut_14 post n (d + 1) (nI k) (nI k) (nI m) nx eg hs vl) ∧
    (n = 12 → ∀ (post : Int32 → Prop) (pl dc fe np : Int32) (ow de dr : Nat → Int32), pl = 0 ∨ pl = 1 → post (nI (qb_ct (qb_O ed' (m + t)) pl)) → wX_forecast_39 post pl dc fe np a ow de dr (d + 1) (nI (qb_ct (qb_O ed m) pl)) (qb_N ed m) (nI (qb_F ed m)) (nI k)) := by
  intro d
  induction d with
  | zero =>
    intro k m ed hk H h4
    refine ⟨0, ed, H, fun _ _ => rfl, fun post ow de dr A h => ?_, fun post nx eg hs vl hE h => ?_, fun hn post pl dc fe np ow de dr hp h => ?_⟩
    · have h2 := h _ ⟨ow, de, dr, rfl, A⟩
      exact br_c (fun _ => h2) (fun _ => pk_le 12 k (fun _ => h2) (fun z => absurd z (by omega)))
    · have h2 := h _ ⟨nx, eg, hs, vl, rfl, hE⟩
      exact br_c (fun _ => h2) (fun _ => pk_le 12 k (fun _ => h2) (fun z => absurd z (by omega)))
    · exact pk_le 12 k (fun _ => h) (fun z => absurd z (by omega))
  | succ d ih =>
    intro k m ed hk H h4
    have hm := qb_Hm H
    have hF := qb_F0 H
    have hFl := qb_Fl ed m
    by_cases hend : n ≤ nI k ∨ m = 12
    · refine ⟨0, ed, H, fun _ _ => rfl, fun post ow de dr A h => ?_, fun post nx eg hs vl hE h => ?_, fun hn post pl dc fe np ow de dr hp h => ?_⟩
      · have h2 := h _ ⟨ow, de, dr, rfl, A⟩
        exact br_c (fun _ => h2) (fun w => pk_le 12 k (fun _ => h2) (fun _ => pk_eq (qb_F ed m) 0 (fun _ => h2) (fun z => absurd (hF.mpr (hend.resolve_left w)) z)))
      · have h2 := h _ ⟨nx, eg, hs, vl, rfl, hE⟩
        exact br_c (fun _ => h2) (fun w => pk_le 12 k (fun _ => h2) (fun _ => pk_le 12 m (fun _ => h2) (fun z => absurd (hend.resolve_left w) (by omega))))
      · subst hn
        exact br_c (fun _ => h) (fun w => pk_eq (qb_F ed m) 0 (fun _ => h) (fun z => absurd (hF.mpr (hend.resolve_left w)) z))
    · have hn1 : ¬ n ≤ nI k := fun z => hend (Or.inl z)
      have hm1 : m < 12 := by
        have : m ≠ 12 := fun z => hend (Or.inr z)
        omega
      have hF1 : qb_F ed m ≠ 0 := fun z => by
        have := hF.mp z
        omega
      obtain ⟨e, he, hb, hlb⟩ := qb_lbT T hF1 hFl
      obtain ⟨t, ed', H', hed, iX, iY, iF⟩ := ih (k + 1) (m + 1) (qb_up ed m e) (by omega) (qb_upH H he hb) (by omega)
      rw [show m + 1 + t = m + (t + 1) from by omega] at H' iX iY iF
      rw [show k + 1 + t = k + (t + 1) from by omega] at iX iY
      refine ⟨t + 1, ed', H', fun i hi => by rw [hed i (by omega), qb_upn hi], fun post ow de dr A h => ?_, fun post nx eg hs vl hE h => ?_, fun hn post pl dc fe np ow de dr hp h => ?_⟩
      · refine br_f hn1 (pk_le 12 k (fun z => absurd z (by omega)) (fun _ => pk_eq (qb_F ed m) 0 (fun z => absurd z hF1) (fun _ => qx_least hFl ?_)))
        rw [hlb]
        exact qx_draw1 H A he hb (fun ow' de' dr' A' => nm_r (nI_1 k) (iX post ow' de' dr' A' h))
      · refine br_f hn1 (pk_le 12 k (fun z => absurd z (by omega)) (fun _ => pk_le 12 m (fun z => absurd z (by omega)) (fun _ => qy_best H h4 hE T (fun vl' => ?_))))
        dsimp only
        rw [hlb]
        exact qy_draw H hE he hb (nm_r (nI_1 k) (nm_r (nI_1 k) (iY post nx _ hs vl' (qb_YU hE) h)))
      · refine pk_le 12 k (fun z => absurd z (by omega)) (fun _ => pk_eq (qb_F ed m) 0 (fun z => absurd z hF1) (fun _ => qx_least hFl ?_))
        rw [hlb]
        have hc := qb_cc4 (qb_F ed m) e
        have h2 := iF hn post pl dc fe np ow de dr hp h
        rw [qb_ct1 hp, qb_upN1, qb_upF1] at h2
        refine qx_comp hFl he (pk_eq (qb_cc (qb_F ed m) e) 0 (fun z => nm_e (qx_f90 hFl he ?_)) (fun z => br_c (fun w => nm_r (nI_add _ _) (qx_f90 hFl he ?_)) (fun w => qx_f90 hFl he ?_)))
        · rw [if_pos z, z] at h2
          rw [show (if qb_N ed m = pl then 0 else 0) = 0 from by split <;> rfl] at h2
          exact h2
        · rw [if_neg z, if_pos w] at h2
          exact h2
        · rw [if_neg z, if_neg w] at h2
          exact h2
end
section
/-- one history stands behind both states: X holds what it makes, Y holds its edges -/
def i_Rel (_ : Nat) (u : SX) (v : SY) : Prop := ∃ (a : Nat → Int32) (ed : Nat → Nat) (m : Nat), qb_Tab a 4096 ∧ qb_H ed m ∧ qb_X a ed m u ∧ qb_Y ed m v
theorem i_up {k : Nat} {u : SX} {v : SY} (h : i_Rel k u v) : i_Rel (k + 3) u v := h
theorem i_vc0 : wpX_init (fun u => wpY_init (fun v => i_Rel 0 u v)) := by
  unfold wpX_init
  refine qx_fill (fun a T => ?_)
  refine qx_begin (fun ow ho => ?_)
  exact ⟨a, fun _ => 0, 0, T, fun i hi => absurd hi (by omega), ⟨ow, _, _, rfl, ho, fun i hi => absurd hi (by omega), fun i hi => absurd hi (by omega)⟩, ⟨_, _, _, _, rfl, fun i hi => absurd hi (by omega)⟩⟩
theorem i_vc_draw {k : Nat} {u : SX} {v : SY} (I : i_Rel k u v) (hk : k + 3 ≤ 1536) (v1 : Int32) : wpX_draw (fun r u' => wpY_draw (fun r' v' => r' = r ∧ i_Rel (k + 3) u' v') v v1) u v1 := by
  obtain ⟨a, ed, m, T, H, ⟨ow, de, dr, rfl, A⟩, ⟨nx, eg, hs, vl, rfl, hE⟩⟩ := I
  have R : i_Rel (k + 3) (nI m, nI (qb_F ed m), qb_N ed m, a, ow, de, dr) (nI m, nx, eg, hs, vl) := ⟨a, ed, m, T, H, ⟨ow, de, dr, rfl, A⟩, ⟨nx, eg, hs, vl, rfl, hE⟩⟩
  unfold wpX_draw
  dsimp only
  rcases pk_ix v1 (n := 12) (by decide) with hv | hv | ⟨e, he, rfl⟩
  · exact qx_isFreeN (Or.inl hv) (br_t rfl (qy_drawN H hE (Or.inl hv) ⟨rfl, R⟩))
  · exact qx_isFreeN (Or.inr hv) (br_t rfl (qy_drawN H hE (Or.inr (Or.inl hv)) ⟨rfl, R⟩))
  · refine qx_isFree (qb_Fl ed m) he (fun hb => br_f (by decide) ?_) (fun hb => br_t rfl (qy_drawN H hE (Or.inr (Or.inr ⟨e, he, rfl, hb⟩)) ⟨rfl, R⟩))
    refine qx_draw1 H A he hb (fun ow' de' dr' A' => ?_)
    exact qy_draw H hE he hb ⟨rfl, a, qb_up ed m e, m + 1, T, qb_upH H he hb, ⟨ow', de', dr', rfl, A'⟩, ⟨nx, _, hs, vl, rfl, qb_YU hE⟩⟩
theorem i_vc_back {k : Nat} {u : SX} {v : SY} (I : i_Rel k u v) (hk : k + 3 ≤ 1536) : wpX_back (fun r u' => wpY_back (fun r' v' => r' = r ∧ i_Rel (k + 3) u' v') v) u := by
  obtain ⟨a, ed, m, T, H, ⟨ow, de, dr, rfl, A⟩, ⟨nx, eg, hs, vl, rfl, hE⟩⟩ := I
  have hm := qb_Hm H
  unfold wpX_back wpY_back
  dsimp only
  cases m with
  | zero => exact br_t rfl (br_t rfl ⟨rfl, a, ed, 0, T, H, ⟨ow, de, dr, rfl, A⟩, ⟨nx, eg, hs, vl, rfl, hE⟩⟩)
  | succ m =>
    have hH : qb_H ed m := fun i hi => H i (by omega)
    have h1 := H m (by omega)
    have hz : ¬ nI (m + 1) = 0 := nI_ne0 (by omega) (by omega)
    refine br_f hz (nm_r (nI_pred m) ⟨vp_in_nI (by omega) (by decide), ?_⟩)
    rw [nI_clamp (by omega), A.2.1 m (by omega), A.2.2 m (by omega)]
    refine nm_e (nm_r (qb_back (qb_Fl ed m) h1.1 h1.2) ⟨vp_in_nI (by omega) (by decide), nm_e (qx_back (qb_Fl ed m) h1.1 (fun ow' h' => ?_))⟩)
    refine br_f hz (nm_r (nI_pred m) ⟨vp_in_nI (by omega) (by decide), ?_⟩)
    rw [nI_clamp (by omega), hE m (by omega)]
    refine ⟨rfl, a, ed, m, T, hH, ⟨ow', de, dr, rfl, fun b hb => ?_, fun i hi => A.2.1 i (by omega), fun i hi => A.2.2 i (by omega)⟩, ⟨nx, eg, hs, vl, rfl, fun i hi => hE i (by omega)⟩⟩
    rw [h' b hb, A.1 b hb]
    by_cases z : qb_l b (ed m) (qb_F ed m) = true
    · rw [if_pos z, qb_Ol z]
    · rw [if_neg z]
      exact if_neg z
theorem i_vc_restart {k : Nat} {u : SX} {v : SY} (I : i_Rel k u v) (hk : k + 3 ≤ 1536) : wpX_restart (fun u' => wpY_restart (fun v' => i_Rel (k + 3) u' v') v) u := by
  obtain ⟨a, ed, m, T, H, ⟨ow, de, dr, rfl, A⟩, ⟨nx, eg, hs, vl, rfl, hE⟩⟩ := I
  unfold wpX_restart wpY_restart
  dsimp only
  refine qx_begin (fun ow' ho => ?_)
  exact ⟨a, ed, 0, T, fun i hi => absurd hi (by omega), ⟨ow', de, dr, rfl, ho, fun i hi => absurd hi (by omega), fun i hi => absurd hi (by omega)⟩, ⟨nx, eg, hs, vl, rfl, fun i hi => absurd hi (by omega)⟩⟩
theorem i_vc_turn {k : Nat} {u : SX} {v : SY} (I : i_Rel k u v) (hk : k + 3 ≤ 1536) : wpX_turn (fun r => wpY_turn (fun r' v' => r' = r ∧ i_Rel (k + 3) u v') v) u := by
  obtain ⟨a, ed, m, T, H, ⟨ow, de, dr, rfl, A⟩, ⟨nx, eg, hs, vl, rfl, hE⟩⟩ := I
  have hm := qb_Hm H
  have hFl := qb_Fl ed m
  have R : ∀ hs', i_Rel (k + 3) (nI m, nI (qb_F ed m), qb_N ed m, a, ow, de, dr) (nI m, qb_N ed m, eg, hs', vl) := fun hs' => ⟨a, ed, m, T, H, ⟨ow, de, dr, rfl, A⟩, ⟨_, eg, hs', vl, rfl, hE⟩⟩
  unfold wpX_turn wpY_turn
  dsimp only
  refine pk_eq (qb_F ed m) 0 (fun z => qy_replay H hE (fun hs' _ => pk_eq m 12 (fun _ => ⟨rfl, R hs'⟩) (fun w => absurd ((qb_F0 H).mp z) w))) (fun z => qy_replay H hE (fun hs' _ => pk_eq m 12 (fun w => absurd ((qb_F0 H).mpr w) z) (fun w => ⟨rfl, R hs'⟩)))
theorem i_vc_free {k : Nat} {u : SX} {v : SY} (I : i_Rel k u v) (hk : k + 3 ≤ 1536) : wpX_free (fun r => wpY_free (fun r' => r' = r ∧ i_Rel (k + 3) u v) v) u := by
  obtain ⟨a, ed, m, T, H, ⟨ow, de, dr, rfl, A⟩, ⟨nx, eg, hs, vl, rfl, hE⟩⟩ := I
  unfold wpX_free
  dsimp only
  exact qy_free H hE ⟨rfl, a, ed, m, T, H, ⟨ow, de, dr, rfl, A⟩, ⟨nx, eg, hs, vl, rfl, hE⟩⟩
theorem i_vc_boxes {k : Nat} {u : SX} {v : SY} (I : i_Rel k u v) (hk : k + 3 ≤ 1536) (v1 : Int32) : wpX_boxes (fun r => wpY_boxes (fun r' v' => r' = r ∧ i_Rel (k + 3) u v') v v1) u v1 := by
  obtain ⟨a, ed, m, T, H, ⟨ow, de, dr, rfl, A⟩, ⟨nx, eg, hs, vl, rfl, hE⟩⟩ := I
  unfold wpX_boxes
  dsimp only
  refine qx_player (fun hp => br_f (by decide) (qx_boxesOf (qy_boxes H hE hp (fun hs' => ⟨?_, a, ed, m, T, H, ⟨ow, de, dr, rfl, A⟩, ⟨_, eg, hs', vl, rfl, hE⟩⟩)))) (fun hp => br_t rfl ?_)
  · rw [qb_ctc v1 A.1]
  · unfold wpY_boxes
    dsimp only
    exact br_f (fun z => hp (Or.inl z)) (br_f (fun z => hp (Or.inr z)) ⟨rfl, a, ed, m, T, H, ⟨ow, de, dr, rfl, A⟩, ⟨nx, eg, hs, vl, rfl, hE⟩⟩)
theorem qy_own {post : Int32 → SY → Prop} {dn nx : Int32} {eg hs vl : Nat → Int32} {r c : Nat} (hr : r < 2) (hc : c < 2) (h : post (hs (2 * r + c)) (dn, nx, eg, hs, vl)) : wY_owner_13 post (nI r) (nI c) dn nx eg hs vl := by
  have e1 : (2 * nI r) + nI c = nI (2 * r + c) := by
    have : r = 0 ∨ r = 1 := by omega
    have : c = 0 ∨ c = 1 := by omega
    rcases ‹r = 0 ∨ r = 1› with rfl | rfl <;> rcases ‹c = 0 ∨ c = 1› with rfl | rfl <;> decide
  have key : wY_owner_22 post (nI r) (nI c) dn nx eg hs vl := by
    unfold wY_owner_22
    rw [e1, nI_clamp (by omega)]
    exact ⟨vp_in_nI (by omega) (by decide), h⟩
  unfold wY_owner_13
  exact pk_eq c 0 (fun _ => key) (fun z => pk_eq c 1 (fun _ => key) (fun w => absurd hc (by omega)))
theorem i_vc_owner {k : Nat} {u : SX} {v : SY} (I : i_Rel k u v) (hk : k + 3 ≤ 1536) (v1 : Int32) (v2 : Int32) : wpX_owner (fun r => wpY_owner (fun r' v' => r' = r ∧ i_Rel (k + 3) u v') v v1 v2) u v1 v2 := by
  obtain ⟨a, ed, m, T, H, ⟨ow, de, dr, rfl, A⟩, ⟨nx, eg, hs, vl, rfl, hE⟩⟩ := I
  have R : ∀ hs', i_Rel (k + 3) (nI m, nI (qb_F ed m), qb_N ed m, a, ow, de, dr) (nI m, qb_N ed m, eg, hs', vl) := fun hs' => ⟨a, ed, m, T, H, ⟨ow, de, dr, rfl, A⟩, ⟨_, eg, hs', vl, rfl, hE⟩⟩
  have hN : ∀ {x : Int32}, ¬ (x = 0 ∨ x = 1) → x < 0 ∨ 1 < x := by
    intro x hx
    by_cases z : x < 0
    · exact Or.inl z
    · obtain ⟨j, hj, rfl⟩ := nI_of z
      have h0 : j ≠ 0 := fun w => hx (Or.inl (by rw [w]; rfl))
      have h1 : j ≠ 1 := fun w => hx (Or.inr (by rw [w]; rfl))
      exact Or.inr (nI_lt (a := 1) (by omega) hj)
  unfold wpX_owner wpY_owner
  dsimp only
  by_cases h1 : v1 = 0 ∨ v1 = 1
  · by_cases h2 : v2 = 0 ∨ v2 = 1
    · obtain ⟨r, hr, rfl⟩ : ∃ r, r < 2 ∧ v1 = nI r := h1.elim (fun z => ⟨0, by omega, z⟩) (fun z => ⟨1, by omega, z⟩)
      obtain ⟨c, hc, rfl⟩ : ∃ r, r < 2 ∧ v2 = nI r := h2.elim (fun z => ⟨0, by omega, z⟩) (fun z => ⟨1, by omega, z⟩)
      have e1 : (2 * nI r) + nI c = nI (2 * r + c) := by
        have : r = 0 ∨ r = 1 := by omega
        have : c = 0 ∨ c = 1 := by omega
        rcases ‹r = 0 ∨ r = 1› with rfl | rfl <;> rcases ‹c = 0 ∨ c = 1› with rfl | rfl <;> decide
      refine br_f (nI_pos (by omega)) (br_f (nI_nlt (a := 1) (b := r) (by omega) (by decide)) (br_f (nI_pos (by omega)) (br_t (nI_le (b := 1) (by omega) (by decide)) ?_)))
      rw [e1, nI_clamp (by omega)]
      refine ⟨vp_in_nI (by omega) (by decide), qy_replay H hE (fun hs' h' => ?_)⟩
      have hh : hs' (2 * r + c) = ow (2 * r + c) := by rw [h' _ (by omega), A.1 _ (by omega)]
      exact pk_eq r 0 (fun _ => qy_own hr hc ⟨hh, R hs'⟩) (fun z => pk_eq r 1 (fun _ => qy_own hr hc ⟨hh, R hs'⟩) (fun w => absurd hr (by omega)))
    · have hy : wpY_replay (fun u => match u with | (f_drawn_2, f_next_3, a_edges_4, a_has_5, a_val_6) => (v1 = 0 → wY_owner_13 (fun r' v' => r' = -1 ∧ i_Rel (k + 3) (nI m, nI (qb_F ed m), qb_N ed m, a, ow, de, dr) v') v1 v2 f_drawn_2 f_next_3 a_edges_4 a_has_5 a_val_6) ∧ (¬ v1 = 0 → ((v1 = 1 → wY_owner_13 (fun r' v' => r' = -1 ∧ i_Rel (k + 3) (nI m, nI (qb_F ed m), qb_N ed m, a, ow, de, dr) v') v1 v2 f_drawn_2 f_next_3 a_edges_4 a_has_5 a_val_6) ∧ (¬ v1 = 1 → (-1 : Int32) = -1 ∧ i_Rel (k + 3) (nI m, nI (qb_F ed m), qb_N ed m, a, ow, de, dr) (f_drawn_2, f_next_3, a_edges_4, a_has_5, a_val_6))))) (nI m, nx, eg, hs, vl) := by
        refine qy_replay H hE (fun hs' h' => ?_)
        have key : wY_owner_13 (fun r' v' => r' = -1 ∧ i_Rel (k + 3) (nI m, nI (qb_F ed m), qb_N ed m, a, ow, de, dr) v') v1 v2 (nI m) (qb_N ed m) eg hs' vl := by
          unfold wY_owner_13
          exact br_f (fun z => h2 (Or.inl z)) (br_f (fun z => h2 (Or.inr z)) ⟨rfl, R hs'⟩)
        exact br_c (fun _ => key) (fun z => br_t (h1.resolve_left z) key)
      have h1a : ¬ v1 < 0 := by rcases h1 with rfl | rfl <;> decide
      have h1b : ¬ 1 < v1 := by rcases h1 with rfl | rfl <;> decide
      refine br_f h1a (br_f h1b ?_)
      by_cases z : v2 < 0
      · exact br_t z hy
      · exact br_f z (br_f (Int32.not_le.mpr ((hN h2).resolve_left z)) hy)
  · have hy : ∀ P : Int32 → SY → Prop, (∀ hs', P (-1) (nI m, qb_N ed m, eg, hs', vl)) → wpY_owner P (nI m, nx, eg, hs, vl) v1 v2 := by
      intro P hP
      unfold wpY_owner
      dsimp only
      exact qy_replay H hE (fun hs' h' => br_f (fun z => h1 (Or.inl z)) (br_f (fun z => h1 (Or.inr z)) (hP hs')))
    have hz := hy (fun r' v' => r' = -1 ∧ i_Rel (k + 3) (nI m, nI (qb_F ed m), qb_N ed m, a, ow, de, dr) v') (fun hs' => ⟨rfl, R hs'⟩)
    unfold wpY_owner at hz
    dsimp only at hz
    by_cases z : v1 < 0
    · exact br_t z hz
    · exact br_f z (br_t ((hN h1).resolve_left z) hz)
theorem i_vc_value {k : Nat} {u : SX} {v : SY} (I : i_Rel k u v) (hk : k + 3 ≤ 1536) : wpX_value (fun r => wpY_value (fun r' v' => r' = r ∧ i_Rel (k + 3) u v') v) u := by
  obtain ⟨a, ed, m, T, H, ⟨ow, de, dr, rfl, A⟩, ⟨nx, eg, hs, vl, rfl, hE⟩⟩ := I
  have hm := qb_Hm H
  have hFl := qb_Fl ed m
  unfold wpX_value wpY_value
  dsimp only
  refine qx_many hm (fun h4 => br_t rfl ⟨vp_in_nI hFl (by decide), ?_⟩) (fun h4 => br_f (by decide) ?_)
  · refine qy_many hm (fun _ => br_t rfl (qy_work H hE T (fun vl' hv => ?_))) (fun z => absurd z (by omega))
    refine qy_free H hE ⟨vp_in_nI hFl (by decide), ?_, a, ed, m, T, H, ⟨ow, de, dr, rfl, A⟩, ⟨_, eg, hs, vl', rfl, hE⟩⟩
    rw [nI_clamp (by omega)]
    exact hv _ (qb_sub_r _)
  · exact qy_many hm (fun z => absurd z (by omega)) (fun _ => br_f (by decide) ⟨rfl, a, ed, m, T, H, ⟨ow, de, dr, rfl, A⟩, ⟨nx, eg, hs, vl, rfl, hE⟩⟩)
theorem i_vc_worth {k : Nat} {u : SX} {v : SY} (I : i_Rel k u v) (hk : k + 3 ≤ 1536) (v1 : Int32) : wpX_worth (fun r => wpY_worth (fun r' v' => r' = r ∧ i_Rel (k + 3) u v') v v1) u v1 := by
  obtain ⟨a, ed, m, T, H, ⟨ow, de, dr, rfl, A⟩, ⟨nx, eg, hs, vl, rfl, hE⟩⟩ := I
  have hm := qb_Hm H
  have hFl := qb_Fl ed m
  have R : ∀ vl', i_Rel (k + 3) (nI m, nI (qb_F ed m), qb_N ed m, a, ow, de, dr) (nI m, nx, eg, hs, vl') := fun vl' => ⟨a, ed, m, T, H, ⟨ow, de, dr, rfl, A⟩, ⟨_, eg, hs, vl', rfl, hE⟩⟩
  unfold wpX_worth wpY_worth
  dsimp only
  refine qx_many hm (fun h4 => br_t rfl ?_) (fun h4 => br_f (by decide) (qy_free H hE (qy_many hm (fun z => absurd z (by omega)) (fun _ => br_f (by decide) ⟨rfl, R vl⟩))))
  rcases pk_ix v1 (n := 12) (by decide) with hv | hv | ⟨e, he, rfl⟩
  · exact qx_isFreeN (Or.inl hv) (br_t rfl (qy_free H hE (qy_many hm (fun _ => br_t rfl (br_t hv ⟨rfl, R vl⟩)) (fun z => absurd z (by omega)))))
  · refine qx_isFreeN (Or.inr hv) (br_t rfl (qy_free H hE (qy_many hm (fun _ => br_t rfl (br_c (fun _ => ⟨rfl, R vl⟩) (fun _ => br_t ?_ ⟨rfl, R vl⟩))) (fun z => absurd z (by omega)))))
    exact Int32.lt_of_lt_of_le (by decide) hv
  · refine qx_isFree hFl he (fun hb => br_f (by decide) (qx_worth hFl he ?_)) (fun hb => br_t rfl ?_)
    · refine qy_free H hE (qy_many hm (fun _ => br_t rfl (br_f (nI_pos (by omega)) (br_f (nI_nlt (a := 11) (b := e) (by omega) (by decide)) ?_))) (fun z => absurd z (by omega)))
      rw [qb_bitY0 hFl he, hb]
      refine br_f (by decide) (qy_work H hE T (fun vl' hv => qy_worth hFl he ⟨?_, R vl'⟩))
      exact qb_Wc hFl hb (hv _ (qb_sub_cl (qb_sub_r _)))
    · refine qy_free H hE (qy_many hm (fun _ => br_t rfl (br_f (nI_pos (by omega)) (br_f (nI_nlt (a := 11) (b := e) (by omega) (by decide)) ?_))) (fun z => absurd z (by omega)))
      rw [qb_bitY0 hFl he]
      exact br_t (by cases hh : (qb_F ed m).testBit e; rfl; exact absurd hh hb) ⟨rfl, R vl⟩
theorem i_vc_best {k : Nat} {u : SX} {v : SY} (I : i_Rel k u v) (hk : k + 3 ≤ 1536) : wpX_best (fun r => wpY_best (fun r' v' => r' = r ∧ i_Rel (k + 3) u v') v) u := by
  obtain ⟨a, ed, m, T, H, ⟨ow, de, dr, rfl, A⟩, ⟨nx, eg, hs, vl, rfl, hE⟩⟩ := I
  have hm := qb_Hm H
  have R : ∀ vl', i_Rel (k + 3) (nI m, nI (qb_F ed m), qb_N ed m, a, ow, de, dr) (nI m, nx, eg, hs, vl') := fun vl' => ⟨a, ed, m, T, H, ⟨ow, de, dr, rfl, A⟩, ⟨_, eg, hs, vl', rfl, hE⟩⟩
  unfold wpX_best
  dsimp only
  refine qx_many hm (fun h4 => br_t rfl (qx_least (qb_Fl ed m) (qy_best H h4 hE T (fun vl' => ⟨rfl, R vl'⟩)))) (fun h4 => br_f (by decide) ?_)
  unfold wpY_best
  dsimp only
  exact qy_many hm (fun z => absurd z (by omega)) (fun _ => br_f (by decide) ⟨rfl, R vl⟩)
theorem i_vc_bestEdges {k : Nat} {u : SX} {v : SY} (I : i_Rel k u v) (hk : k + 3 ≤ 1536) : wpX_bestEdges (fun r => wpY_bestEdges (fun r' v' => r' = r ∧ i_Rel (k + 3) u v') v) u := by
  obtain ⟨a, ed, m, T, H, ⟨ow, de, dr, rfl, A⟩, ⟨nx, eg, hs, vl, rfl, hE⟩⟩ := I
  have hm := qb_Hm H
  have R : ∀ vl', i_Rel (k + 3) (nI m, nI (qb_F ed m), qb_N ed m, a, ow, de, dr) (nI m, nx, eg, hs, vl') := fun vl' => ⟨a, ed, m, T, H, ⟨ow, de, dr, rfl, A⟩, ⟨_, eg, hs, vl', rfl, hE⟩⟩
  unfold wpX_bestEdges
  dsimp only
  refine qx_many hm (fun h4 => br_t rfl (Exists.intro 13 (qx_bs (qb_Fl ed m) 12 0 0 rfl (qy_bestEdges H h4 hE T (fun vl' => ⟨rfl, R vl'⟩))))) (fun h4 => br_f (by decide) ?_)
  unfold wpY_bestEdges
  dsimp only
  exact qy_many hm (fun z => absurd z (by omega)) (fun _ => br_f (by decide) ⟨rfl, R vl⟩)
theorem i_vc_forecast {k : Nat} {u : SX} {v : SY} (I : i_Rel k u v) (hk : k + 3 ≤ 1536) (v1 : Int32) : wpX_forecast (fun r => wpY_forecast (fun r' v' => r' = r ∧ i_Rel (k + 3) u v') v v1) u v1 := by
  obtain ⟨a, ed, m, T, H, ⟨ow, de, dr, rfl, A⟩, ⟨nx, eg, hs, vl, rfl, hE⟩⟩ := I
  have hm := qb_Hm H
  have R : i_Rel (k + 3) (nI m, nI (qb_F ed m), qb_N ed m, a, ow, de, dr) (nI m, nx, eg, hs, vl) := ⟨a, ed, m, T, H, ⟨ow, de, dr, rfl, A⟩, ⟨_, eg, hs, vl, rfl, hE⟩⟩
  unfold wpX_forecast wpY_forecast
  dsimp only
  refine qx_player (fun hp => br_f (by decide) (qx_many hm (fun h4 => br_t rfl (qx_boxesOf ?_)) (fun h4 => br_f (by decide) ?_))) (fun hp => br_t rfl (br_f (fun z => hp (Or.inl z)) (br_f (fun z => hp (Or.inr z)) ⟨rfl, R⟩)))
  · obtain ⟨t, ed', H', hed, _, iY, iF⟩ := qb_play T 12 12 0 m ed rfl H h4
    rw [qb_ctc v1 A.1]
    refine Exists.intro 13 (iF rfl _ v1 _ _ _ _ _ _ hp ?_)
    have key : wY_forecast_11 (fun r' v' => r' = nI (qb_ct (qb_O ed' (m + t)) v1) ∧ i_Rel (k + 3) (nI m, nI (qb_F ed m), qb_N ed m, a, ow, de, dr) v') v1 (nI m) nx eg hs vl := by
      unfold wY_forecast_11
      refine qy_many hm (fun _ => br_t rfl ?_) (fun z => absurd z (by omega))
      unfold wpY_playOut
      dsimp only
      refine qy_many hm (fun _ => br_t rfl (Exists.intro 13 (iY _ nx eg hs vl hE (fun v' hv' => ?_)))) (fun z => absurd z (by omega))
      obtain ⟨nx', eg', hs', vl', rfl, hE'⟩ := hv'
      dsimp only
      refine qy_boxes H' hE' hp (fun hs2 => ⟨rfl, a, ed, m, T, H, ⟨ow, de, dr, rfl, A⟩, ⟨_, eg', hs2, vl', rfl, fun i hi => ?_⟩⟩)
      rw [hE' i (by omega), hed i hi]
    exact br_c (fun _ => key) (fun z => br_t (hp.resolve_left z) key)
  · have key : wY_forecast_11 (fun r' v' => r' = -100 ∧ i_Rel (k + 3) (nI m, nI (qb_F ed m), qb_N ed m, a, ow, de, dr) v') v1 (nI m) nx eg hs vl := by
      unfold wY_forecast_11
      exact qy_many hm (fun z => absurd z (by omega)) (fun _ => br_f (by decide) ⟨rfl, R⟩)
    exact br_c (fun _ => key) (fun z => br_t (hp.resolve_left z) key)
theorem i_vc_playOut {k : Nat} {u : SX} {v : SY} (I : i_Rel k u v) (hk : k + 3 ≤ 1536) (v1 : Int32) : wpX_playOut (fun r u' => wpY_playOut (fun r' v' => r' = r ∧ i_Rel (k + 3) u' v') v v1) u v1 := by
  obtain ⟨a, ed, m, T, H, ⟨ow, de, dr, rfl, A⟩, ⟨nx, eg, hs, vl, rfl, hE⟩⟩ := I
  have hm := qb_Hm H
  unfold wpX_playOut wpY_playOut
  dsimp only
  refine qx_many hm (fun h4 => br_t rfl ?_) (fun h4 => br_f (by decide) (qy_many hm (fun z => absurd z (by omega)) (fun _ => br_f (by decide) ⟨rfl, a, ed, m, T, H, ⟨ow, de, dr, rfl, A⟩, ⟨nx, eg, hs, vl, rfl, hE⟩⟩)))
  obtain ⟨t, ed', H', hed, iX, iY, _⟩ := qb_play T v1 12 0 m ed rfl H h4
  refine Exists.intro 13 (iX _ ow de dr A (fun u' hu => ?_))
  refine qy_many hm (fun _ => br_t rfl (Exists.intro 13 (iY _ nx eg hs vl hE (fun v' hv' => ?_)))) (fun z => absurd z (by omega))
  exact ⟨rfl, a, ed', m + t, T, H', hu, hv'⟩
end
