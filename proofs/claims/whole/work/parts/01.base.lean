theorem pk_us {f : Nat → Int32} {k : Nat} {x : Int32} : upd f k x k = x := if_pos rfl
theorem pk_un {f : Nat → Int32} {k j : Nat} {x : Int32} (h : j ≠ k) : upd f k x j = f j := if_neg h
theorem pk_sub {a b : Nat} (h : b ≤ a) : nI a - nI b = nI (a - b) := by
  obtain ⟨c, rfl⟩ : ∃ c, a = c + b := ⟨a - b, by omega⟩
  rw [← nI_add, Int32.add_sub_cancel, Nat.add_sub_cancel]
theorem pk_ix (x : Int32) {n : Nat} (hn : n < 2 ^ 31) : x < 0 ∨ nI n ≤ x ∨ ∃ j : Nat, j < n ∧ x = nI j := by
  by_cases h : x < 0
  · exact Or.inl h
  · obtain ⟨j, hj, rfl⟩ := nI_of h
    by_cases h2 : j < n
    · exact Or.inr (Or.inr ⟨j, h2, rfl⟩)
    · exact Or.inr (Or.inl (nI_le (by omega) hj))
theorem pk_le {x y : Int32} {A B : Prop} (a b : Nat) (f : a ≤ b → A) (g : b < a → B) (hx : x = nI a := by rfl) (hy : y = nI b := by rfl) (ha : a < 2 ^ 31 := by omega) (hb : b < 2 ^ 31 := by omega) : (x ≤ y → A) ∧ (¬ x ≤ y → B) := by
  subst hx hy
  rw [nI_leI ha hb]
  exact ⟨f, fun z => g (by omega)⟩
theorem pk_lt {x y : Int32} {A B : Prop} (a b : Nat) (f : a < b → A) (g : b ≤ a → B) (hx : x = nI a := by rfl) (hy : y = nI b := by rfl) (ha : a < 2 ^ 31 := by omega) (hb : b < 2 ^ 31 := by omega) : (x < y → A) ∧ (¬ x < y → B) := by
  subst hx hy
  rw [nI_ltI ha hb]
  exact ⟨f, fun z => g (by omega)⟩
theorem pk_eq {x y : Int32} {A B : Prop} (a b : Nat) (f : a = b → A) (g : a ≠ b → B) (hx : x = nI a := by rfl) (hy : y = nI b := by rfl) (ha : a < 2 ^ 31 := by omega) (hb : b < 2 ^ 31 := by omega) : (x = y → A) ∧ (¬ x = y → B) := by
  subst hx hy
  rw [nI_eq ha hb]
  exact ⟨f, g⟩
theorem pk_in {x : Int32} (n N : Nat) (h : n < N) (hx : x = nI n := by rfl) (hN : N < 2 ^ 31 := by omega) : vp_in x N := by
  subst hx
  exact vp_in_nI h hN
theorem pk_cl {x : Int32} (n : Nat) (hx : x = nI n := by rfl) (h : n < 2 ^ 31 := by omega) : x.toNatClampNeg = n := by
  subst hx
  exact nI_clamp h
theorem pk_tn {n : Nat} (h : n < 2 ^ 32) : (nI n).toBitVec.toNat = n := Nat.mod_eq_of_lt h
theorem pk_and (x : Int32) {m : Int32} (k : Nat) (hm : m.toBitVec.toNat = 2 ^ k - 1) : x &&& m = nI (x.toBitVec.toNat % 2 ^ k) := by
  apply Int32.toBitVec_inj.mp
  apply BitVec.eq_of_toNat_eq
  rw [Int32.toBitVec_and, BitVec.toNat_and, hm, Nat.and_two_pow_sub_one_eq_mod]
  show _ = (BitVec.ofNat 32 _).toNat
  rw [BitVec.toNat_ofNat]
  exact (Nat.mod_eq_of_lt (Nat.lt_of_le_of_lt (Nat.mod_le _ _) x.toBitVec.isLt)).symm
theorem pk_andN {n : Nat} (h : n < 2 ^ 32) {m : Int32} (k : Nat) (hm : m.toBitVec.toNat = 2 ^ k - 1) : nI n &&& m = nI (n % 2 ^ k) := by
  rw [pk_and _ k hm, pk_tn h]
theorem pk_shr (a s : Int32) (k : Nat) (hs : (s.toBitVec.smod 32).toNat = k) : (a >>> s).toInt = a.toInt >>> k := by
  show (a.toBitVec.sshiftRight (s.toBitVec.smod 32).toNat).toInt = _
  rw [hs, BitVec.toInt_sshiftRight]
  rfl
theorem pk_shrN {n : Nat} (h : n < 2 ^ 31) (s : Int32) (k : Nat) (hs : (s.toBitVec.smod 32).toNat = k) : nI n >>> s = nI (n / 2 ^ k) := by
  apply Int32.toInt_inj.mp
  have h2 : n / 2 ^ k ≤ n := Nat.div_le_self _ _
  rw [pk_shr _ _ k hs, nI_toInt h, nI_toInt (by omega), Int.shiftRight_eq_div_pow]
  rfl
theorem nx_and (a b : Nat) : nI a &&& nI b = nI (a &&& b) := by
  apply Int32.toBitVec_inj.1
  show BitVec.ofNat 32 a &&& BitVec.ofNat 32 b = BitVec.ofNat 32 (a &&& b)
  apply BitVec.eq_of_getLsbD_eq
  intro i hi
  simp [hi]
theorem nx_xor (a b : Nat) : nI a ^^^ nI b = nI (a ^^^ b) := by
  apply Int32.toBitVec_inj.1
  show BitVec.ofNat 32 a ^^^ BitVec.ofNat 32 b = BitVec.ofNat 32 (a ^^^ b)
  apply BitVec.eq_of_getLsbD_eq
  intro i hi
  simp [hi]
/-- the edges of box b, as a mask -/
def qb_mk (b : Nat) : Nat := if b = 0 then 197 else if b = 1 then 394 else if b = 2 then 1556 else 3112
/-- e is the last free edge of box b in the mask p -/
def qb_l (b e p : Nat) : Bool := decide (p &&& qb_mk b = 2 ^ e)
/-- the mask without e -/
def qb_cl (p e : Nat) : Nat := p &&& (4095 ^^^ 2 ^ e)
theorem qb_tbH {p i : Nat} (hp : p < 4096) (hi : 12 ≤ i) : p.testBit i = false :=
  Nat.testBit_lt_two_pow (Nat.lt_of_lt_of_le hp (Nat.pow_le_pow_right (n := 2) (by decide) hi))
theorem qb_tb95 (i : Nat) : (4095 : Nat).testBit i = decide (i < 12) := Nat.testBit_two_pow_sub_one 12 i
theorem qb_tbm1 (i : Nat) : (4294967295 : Nat).testBit i = decide (i < 32) := Nat.testBit_two_pow_sub_one 32 i
theorem qb_tcl {p : Nat} (hp : p < 4096) (e i : Nat) : (qb_cl p e).testBit i = (p.testBit i && !decide (e = i)) := by
  unfold qb_cl
  rw [Nat.testBit_and, Nat.testBit_xor, Nat.testBit_two_pow, qb_tb95]
  by_cases h : i < 12
  · simp [h]
  · rw [qb_tbH hp (by omega)]; simp
theorem qb_cl_le (p e : Nat) : qb_cl p e ≤ p := Nat.and_le_left
theorem qb_cl_lt {p e : Nat} (hp : p < 4096) (h : p.testBit e = true) : qb_cl p e < p := by
  refine Nat.lt_of_le_of_ne (qb_cl_le p e) fun z => ?_
  have h2 := qb_tcl hp e e
  rw [z, h] at h2
  simp at h2
theorem qb_sh : ∀ e, e < 12 → (1 : Int32) <<< (nI e &&& 31) = nI (2 ^ e) := by decide +kernel
theorem qb_p2 : ∀ e, e < 12 → 2 ^ e < 4096 := by decide
theorem qb_nm1 : (-1 : Int32) = nI 4294967295 := by decide
/-- the walks' way to take a bit away -/
theorem qb_clI {p e : Nat} (hp : p < 4096) (he : e < 12) : nI p &&& (((1 : Int32) <<< (nI e &&& 31)) ^^^ (-1)) = nI (qb_cl p e) := by
  rw [qb_sh e he, qb_nm1, nx_xor, nx_and]
  congr 1
  apply Nat.eq_of_testBit_eq
  intro i
  rw [qb_tcl hp, Nat.testBit_and, Nat.testBit_xor, Nat.testBit_two_pow, qb_tbm1]
  by_cases h : i < 12
  · have h2 : i < 32 := by omega
    simp [h2]
  · rw [qb_tbH hp (by omega)]; simp
/-- the walks' two ways to ask for a bit -/
theorem qb_bitX {p e : Nat} (hp : p < 4096) (he : e < 12) : (nI p &&& ((1 : Int32) <<< (nI e &&& 31))) = 0 ↔ p.testBit e = false := by
  have h2 := qb_p2 e he
  have h3 : p &&& 2 ^ e ≤ p := Nat.and_le_left
  rw [qb_sh e he, nx_and, ← nI_0, nI_eq (by omega) (by decide)]
  constructor
  · intro h
    have h4 := congrArg (fun z => Nat.testBit z e) h
    simp only [Nat.testBit_and, Nat.testBit_two_pow, Nat.zero_testBit] at h4
    simpa using h4
  · intro h
    apply Nat.eq_of_testBit_eq
    intro i
    rw [Nat.testBit_and, Nat.testBit_two_pow, Nat.zero_testBit]
    by_cases z : e = i
    · subst z; rw [h]; rfl
    · simp [z]
theorem qb_sm : ∀ e, e < 12 → ((nI e &&& 31).toBitVec.smod 32).toNat = e := by decide +kernel
theorem qb_bitY {p e : Nat} (hp : p < 4096) (he : e < 12) : ((nI p >>> (nI e &&& 31)) &&& 1) = nI (p.testBit e).toNat := by
  have h2 : p / 2 ^ e ≤ p := Nat.div_le_self _ _
  rw [pk_shrN (by omega) _ e (qb_sm e he), pk_andN (by omega) 1 (by decide), Nat.toNat_testBit, Nat.pow_one]
theorem qb_bitY0 {p e : Nat} (hp : p < 4096) (he : e < 12) : ((nI p >>> (nI e &&& 31)) &&& 1) = 0 ↔ p.testBit e = false := by
  rw [qb_bitY hp he]
  cases p.testBit e
  · exact ⟨fun _ => rfl, fun _ => rfl⟩
  · exact ⟨fun h => absurd h (by decide), fun h => nomatch h⟩
theorem qb_bitY1 {p e : Nat} (hp : p < 4096) (he : e < 12) : ((nI p >>> (nI e &&& 31)) &&& 1) = 1 ↔ p.testBit e = true := by
  rw [qb_bitY hp he]
  cases p.testBit e
  · exact ⟨fun h => absurd h (by decide), fun h => nomatch h⟩
  · exact ⟨fun _ => rfl, fun _ => rfl⟩
/-- a box's edges once e is gone -/
theorem qb_box1 {p e m : Nat} (hp : p < 4096) (h : p &&& m = 2 ^ e) : qb_cl p e &&& m = 0 := by
  apply Nat.eq_of_testBit_eq
  intro i
  have h4 := congrArg (fun z => Nat.testBit z i) h
  simp only [Nat.testBit_and, Nat.testBit_two_pow] at h4
  rw [Nat.testBit_and, qb_tcl hp, Nat.zero_testBit]
  cases h5 : p.testBit i <;> cases h6 : m.testBit i <;> simp_all
theorem qb_box2 {p e m : Nat} (hp : p < 4096) (h : p &&& m = 0) : qb_cl p e &&& m = 0 := by
  apply Nat.eq_of_testBit_eq
  intro i
  have h4 := congrArg (fun z => Nat.testBit z i) h
  simp only [Nat.testBit_and, Nat.zero_testBit] at h4
  rw [Nat.testBit_and, qb_tcl hp, Nat.zero_testBit]
  cases h5 : p.testBit i <;> cases h6 : m.testBit i <;> simp_all
/-- how many boxes e completes, as the loops count them -/
def qb_cs (p e : Nat) : Nat → Nat → Nat → Nat
  | 0, _, c => c
  | d + 1, j, c => qb_cs p e d (j + 1) (if qb_l j e p = true then c + 1 else c)
def qb_cc (p e : Nat) : Nat := qb_cs p e 4 0 0
def qb_t (b : Bool) : Nat := if b = true then 1 else 0
theorem qb_cc_s (p e : Nat) : qb_cc p e = qb_t (qb_l 0 e p) + qb_t (qb_l 1 e p) + qb_t (qb_l 2 e p) + qb_t (qb_l 3 e p) := by
  unfold qb_cc
  simp only [qb_cs, qb_t]
  generalize qb_l 0 e p = x0
  generalize qb_l (0 + 1) e p = x1
  generalize qb_l (0 + 1 + 1) e p = x2
  generalize qb_l (0 + 1 + 1 + 1) e p = x3
  cases x0 <;> cases x1 <;> cases x2 <;> cases x3 <;> rfl
theorem qb_cc4 (p e : Nat) : qb_cc p e ≤ 4 := by
  rw [qb_cc_s]
  have h : ∀ b, qb_t b ≤ 1 := by intro b; cases b <;> decide
  have h0 := h (qb_l 0 e p)
  have h1 := h (qb_l 1 e p)
  have h2 := h (qb_l 2 e p)
  have h3 := h (qb_l 3 e p)
  omega
/-- how many boxes are not complete -/
def qb_o (p m : Nat) : Nat := if p &&& m = 0 then 0 else 1
def qb_r (p : Nat) : Nat := qb_o p (qb_mk 0) + qb_o p (qb_mk 1) + qb_o p (qb_mk 2) + qb_o p (qb_mk 3)
theorem qb_o1 {p e : Nat} (b : Nat) (hp : p < 4096) : qb_t (qb_l b e p) + qb_o (qb_cl p e) (qb_mk b) ≤ qb_o p (qb_mk b) := by
  unfold qb_t qb_l qb_o
  have h2 : 0 < 2 ^ e := Nat.two_pow_pos e
  by_cases h : p &&& qb_mk b = 2 ^ e
  · have h3 : ¬ p &&& qb_mk b = 0 := by omega
    simp [qb_box1 hp h, h3]
    split <;> omega
  · by_cases h3 : p &&& qb_mk b = 0
    · simp [qb_box2 hp h3, h3]
      omega
    · simp [h, h3]
      split <;> omega
theorem qb_rc {p : Nat} (e : Nat) (hp : p < 4096) : qb_cc p e + qb_r (qb_cl p e) ≤ qb_r p := by
  rw [qb_cc_s]
  unfold qb_r
  have h0 := qb_o1 (e := e) 0 hp
  have h1 := qb_o1 (e := e) 1 hp
  have h2 := qb_o1 (e := e) 2 hp
  have h3 := qb_o1 (e := e) 3 hp
  omega
theorem qb_r4 (p : Nat) : qb_r p ≤ 4 := by
  have h : ∀ m, qb_o p m ≤ 1 := by intro m; unfold qb_o; split <;> omega
  unfold qb_r
  have h0 := h (qb_mk 0)
  have h1 := h (qb_mk 1)
  have h2 := h (qb_mk 2)
  have h3 := h (qb_mk 3)
  omega
/-- how many edges are free -/
def qb_pc (p : Nat) : Nat := qb_t (p.testBit 0) + qb_t (p.testBit 1) + qb_t (p.testBit 2) + qb_t (p.testBit 3) + qb_t (p.testBit 4) + qb_t (p.testBit 5) + qb_t (p.testBit 6) + qb_t (p.testBit 7) + qb_t (p.testBit 8) + qb_t (p.testBit 9) + qb_t (p.testBit 10) + qb_t (p.testBit 11)
theorem qb_12 {P : Nat → Prop} (h0 : P 0) (h1 : P 1) (h2 : P 2) (h3 : P 3) (h4 : P 4) (h5 : P 5) (h6 : P 6) (h7 : P 7) (h8 : P 8) (h9 : P 9) (h10 : P 10) (h11 : P 11) : ∀ e, e < 12 → P e
  | 0, _ => h0 | 1, _ => h1 | 2, _ => h2 | 3, _ => h3 | 4, _ => h4 | 5, _ => h5 | 6, _ => h6 | 7, _ => h7 | 8, _ => h8 | 9, _ => h9 | 10, _ => h10 | 11, _ => h11
  | n + 12, h => absurd h (by omega)
theorem qb_pc1 {p : Nat} (hp : p < 4096) : ∀ e, e < 12 → p.testBit e = true → qb_pc (qb_cl p e) + 1 = qb_pc p := by
  apply qb_12 <;> (intro h; unfold qb_pc; simp only [qb_tcl hp, h]; simp [qb_t]; try omega)
theorem qb_pc0 {p : Nat} (hp : p < 4096) (h : qb_pc p = 0) : p = 0 := by
  have ht : ∀ b, qb_t b = 0 → b = false := by intro b; cases b <;> decide
  unfold qb_pc at h
  apply Nat.eq_of_testBit_eq
  intro i
  rw [Nat.zero_testBit]
  by_cases hi : i < 12
  · revert i
    intro i hi
    exact qb_12 (P := fun i => p.testBit i = false) (ht _ (by omega)) (ht _ (by omega)) (ht _ (by omega)) (ht _ (by omega)) (ht _ (by omega)) (ht _ (by omega)) (ht _ (by omega)) (ht _ (by omega)) (ht _ (by omega)) (ht _ (by omega)) (ht _ (by omega)) (ht _ (by omega)) i hi
  · exact qb_tbH hp (by omega)
theorem qb_pcF : qb_pc 4095 = 12 := by decide
theorem qb_pcZ : qb_pc 0 = 0 := by decide
theorem qb_ex {p : Nat} (hp : p < 4096) (h : p ≠ 0) : ∃ e, e < 12 ∧ p.testBit e = true := by
  apply Classical.byContradiction
  intro hn
  apply h
  apply Nat.eq_of_testBit_eq
  intro i
  rw [Nat.zero_testBit]
  by_cases hi : i < 12
  · cases hb : p.testBit i
    · rfl
    · exact absurd ⟨i, hi, hb⟩ hn
  · exact qb_tbH hp (by omega)
/-- putting the bit back -/
theorem qb_back {p e : Nat} (hp : p < 4096) (he : e < 12) (h : p.testBit e = true) : nI (qb_cl p e) ||| ((1 : Int32) <<< (nI e &&& 31)) = nI p := by
  have ho : ∀ a b : Nat, nI a ||| nI b = nI (a ||| b) := by
    intro a b
    apply Int32.toBitVec_inj.1
    show BitVec.ofNat 32 a ||| BitVec.ofNat 32 b = BitVec.ofNat 32 (a ||| b)
    apply BitVec.eq_of_getLsbD_eq
    intro i hi
    simp [hi]
  rw [qb_sh e he, ho]
  congr 1
  apply Nat.eq_of_testBit_eq
  intro i
  rw [Nat.testBit_or, qb_tcl hp, Nat.testBit_two_pow]
  by_cases z : e = i
  · subst z; simp [h]
  · simp [z]
