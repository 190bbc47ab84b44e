theorem qb_or (a b : Nat) : nI a ||| nI b = nI (a ||| b) := by
  apply Int32.toBitVec_inj.1
  show BitVec.ofNat 32 a ||| BitVec.ofNat 32 b = BitVec.ofNat 32 (a ||| b)
  apply BitVec.eq_of_getLsbD_eq
  intro i hi
  simp [hi]
theorem qb_mkX : ∀ b, b < 4 → ((((1 : Int32) <<< (((2 * (nI b / 2)) + (nI b - nI b / 2 * 2)) &&& 31)) ||| ((1 : Int32) <<< (((2 * ((nI b / 2) + 1)) + (nI b - nI b / 2 * 2)) &&& 31))) ||| ((1 : Int32) <<< (((6 + (3 * (nI b / 2))) + (nI b - nI b / 2 * 2)) &&& 31))) ||| ((1 : Int32) <<< ((((6 + (3 * (nI b / 2))) + (nI b - nI b / 2 * 2)) + 1) &&& 31)) = nI (qb_mk b) := by decide +kernel
theorem qb_lI {b e p : Nat} (he : e < 12) (hp : p < 4096) : (nI p &&& nI (qb_mk b)) = ((1 : Int32) <<< (nI e &&& 31)) ↔ qb_l b e p = true := by
  have h1 : p &&& qb_mk b ≤ p := Nat.and_le_left
  have h2 := qb_p2 e he
  rw [qb_sh e he, nx_and, nI_eq (by omega) (by omega)]
  unfold qb_l
  exact decide_eq_true_iff.symm
theorem qb_cs1 {p e d j c : Nat} (h : qb_l j e p = true) : qb_cs p e (d + 1) j c = qb_cs p e d (j + 1) (c + 1) := by rw [qb_cs, if_pos h]
theorem qb_cs0 {p e d j c : Nat} (h : ¬ qb_l j e p = true) : qb_cs p e (d + 1) j c = qb_cs p e d (j + 1) c := by rw [qb_cs, if_neg h]
/-- one step of a loop that stores x for every box that l names -/
theorem qb_stp1 {x : Int32} (l : Nat → Bool) {ow ow' : Nat → Int32} {j : Nat} (hl : l j = true) (h : ∀ b, b < 4 → ow' b = if j + 1 ≤ b ∧ l b = true then x else upd ow j x b) : ∀ b, b < 4 → ow' b = if j ≤ b ∧ l b = true then x else ow b := by
  intro b hb
  rw [h b hb]
  by_cases z : b = j
  · subst z
    rw [if_neg (by omega), pk_us, if_pos ⟨Nat.le_refl _, hl⟩]
  · rw [pk_un z]
    have : (j + 1 ≤ b ∧ l b = true) ↔ (j ≤ b ∧ l b = true) := by
      constructor
      · exact fun w => ⟨by omega, w.2⟩
      · exact fun w => ⟨by omega, w.2⟩
    simp only [this]
theorem qb_stp0 {x : Int32} (l : Nat → Bool) {ow ow' : Nat → Int32} {j : Nat} (hl : ¬ l j = true) (h : ∀ b, b < 4 → ow' b = if j + 1 ≤ b ∧ l b = true then x else ow b) : ∀ b, b < 4 → ow' b = if j ≤ b ∧ l b = true then x else ow b := by
  intro b hb
  rw [h b hb]
  by_cases z : b = j
  · subst z
    rw [if_neg (by omega), if_neg fun w => hl w.2]
  · have : (j + 1 ≤ b ∧ l b = true) ↔ (j ≤ b ∧ l b = true) := by
      constructor
      · exact fun w => ⟨by omega, w.2⟩
      · exact fun w => ⟨by omega, w.2⟩
    simp only [this]
theorem qb_updS (f : Nat → Int32) (k : Nat) : upd f k (f k) = f := by
  funext i
  by_cases z : i = k
  · subst z; rw [pk_us]
  · rw [pk_un z]
theorem qb_nf {x : Bool} (h : x = false) : ¬ x = true := by rw [h]; decide
theorem qb_nt {x : Bool} (h : ¬ x = false) : x = true := by cases x; exact absurd rfl h; rfl
section
variable {post : Int32 → Prop} {dc fe np : Int32} {a ow de dr : Nat → Int32} {p e : Nat}
theorem qx_last {b : Nat} (hb : b < 4) (he : e < 12) (hp : p < 4096) (h1 : qb_l b e p = true → post 1) (h0 : ¬ qb_l b e p = true → post 0) : wpX_isLastOf post (nI b) (nI e) (nI p) := by
  unfold wpX_isLastOf
  refine ⟨by decide, nm_e ⟨by decide, nm_e (nm_e (nm_e (nm_e (nm_e ?_))))⟩⟩
  rw [qb_mkX b hb, qb_lI he hp]
  exact ⟨h1, h0⟩
theorem qx_comp4 (hp : p < 4096) (he : e < 12) : ∀ d j c, j + d = 4 → post (nI (qb_cs p e d j c)) → wX_completedIn_4 post (nI p) (nI e) (d + 1) (nI c) (nI j) := by
  intro d
  induction d with
  | zero => intro j c hj h; exact pk_le 4 j (fun _ => h) (fun z => absurd z (by omega))
  | succ d ih =>
    intro j c hj h
    refine pk_le 4 j (fun z => absurd z (by omega)) (fun _ => qx_last (by omega) he hp (fun z => ?_) (fun z => ?_))
    · exact br_f (by decide) (nm_r (nI_1 c) (nm_r (nI_1 j) (ih (j + 1) (c + 1) (by omega) (by rw [qb_cs1 z] at h; exact h))))
    · exact br_t rfl (nm_r (nI_1 j) (ih (j + 1) c (by omega) (by rw [qb_cs0 z] at h; exact h)))
theorem qx_comp (hp : p < 4096) (he : e < 12) (h : post (nI (qb_cc p e))) : wpX_completedIn post (nI p) (nI e) :=
  Exists.intro 5 (qx_comp4 hp he 4 0 0 rfl h)
theorem qx_worth (hp : p < 4096) (he : e < 12) (h : post (qb_W a p e)) : wpX_worthIn post (dc, fe, np, a, ow, de, dr) (nI p) (nI e) := by
  unfold wpX_worthIn
  dsimp only
  refine qx_comp hp he ?_
  have hl : qb_cl p e ≤ p := qb_cl_le p e
  have hc := qb_cc4 p e
  rw [qb_clI hp he, nI_clamp (by omega)]
  refine ⟨vp_in_nI (by omega) (by decide), nm_e ?_⟩
  unfold qb_W at h
  exact pk_le (qb_cc p e) 0 (fun z => by rw [if_pos (by omega)] at h; exact h) (fun z => by rw [if_neg (by omega)] at h; exact h)
theorem qx_freeIn (hp : p < 4096) (he : e < 12) (h1 : p.testBit e = true → post 1) (h0 : ¬ p.testBit e = true → post 0) : wpX_isFreeIn post (nI p) (nI e) := by
  unfold wpX_isFreeIn
  rw [qb_bitX hp he]
  exact br_f (nI_pos (by omega)) (br_f (nI_ge (b := 12) he (by decide)) ⟨fun z => h0 (qb_nf z), fun z => h1 (qb_nt z)⟩)
theorem qx_freeInN {x v1 : Int32} (h : v1 < 0 ∨ nI 12 ≤ v1) (h0 : post 0) : wpX_isFreeIn post x v1 := by
  unfold wpX_isFreeIn
  by_cases z : v1 < 0
  · exact br_t z h0
  · exact br_f z (br_t (h.resolve_left z) h0)
theorem qx_isFree (hp : p < 4096) (he : e < 12) (h1 : p.testBit e = true → post 1) (h0 : ¬ p.testBit e = true → post 0) : wpX_isFree post (dc, nI p, np, a, ow, de, dr) (nI e) := by
  unfold wpX_isFree
  dsimp only
  exact qx_freeIn hp he (fun z => ⟨rfl, h1 z⟩) (fun z => ⟨rfl, h0 z⟩)
theorem qx_isFreeN {v1 : Int32} (h : v1 < 0 ∨ nI 12 ≤ v1) (h0 : post 0) : wpX_isFree post (dc, fe, np, a, ow, de, dr) v1 := by
  unfold wpX_isFree
  dsimp only
  exact qx_freeInN h ⟨rfl, h0⟩
theorem qx_gr (hp : p < 4096) : ∀ d j g, j + d = 12 → post (qb_gs a p d j g) → wX_greatestWorthIn_5 post (nI p) dc fe np a ow de dr (d + 1) g (nI j) := by
  intro d
  induction d with
  | zero => intro j g hj h; exact pk_le 12 j (fun _ => h) (fun z => absurd z (by omega))
  | succ d ih =>
    intro j g hj h
    rw [qb_gs] at h
    refine pk_le 12 j (fun z => absurd z (by omega)) (fun _ => qx_freeIn hp (by omega) (fun z => ?_) (fun z => ?_))
    · refine br_f (by decide) (qx_worth hp (by omega) ?_)
      rw [if_pos z] at h
      exact br_c (fun w => nm_r (nI_1 j) (ih (j + 1) g (by omega) (by rw [if_pos w] at h; exact h))) (fun w => nm_r (nI_1 j) (ih (j + 1) _ (by omega) (by rw [if_neg w] at h; exact h)))
    · exact br_t rfl (nm_r (nI_1 j) (ih (j + 1) g (by omega) (by rw [if_neg z] at h; exact h)))
theorem qx_great (hp : p < 4096) (h : post (qb_gs a p 12 0 (-5))) : wpX_greatestWorthIn post (dc, fe, np, a, ow, de, dr) (nI p) := by
  unfold wpX_greatestWorthIn
  dsimp only
  exact Exists.intro 13 (qx_gr hp 12 0 (-5) rfl h)
theorem qx_best (hp : p < 4096) (he : e < 12) (h1 : qb_b a p e = true → post 1) (h0 : ¬ qb_b a p e = true → post 0) : wpX_isBestIn post (dc, fe, np, a, ow, de, dr) (nI p) (nI e) := by
  unfold wpX_isBestIn
  dsimp only
  refine qx_freeIn hp he (fun z => br_f (by decide) (qx_worth hp he ⟨vp_in_nI (by omega) (by decide), ?_⟩)) (fun z => br_t rfl (h0 fun w => ?_))
  · rw [nI_clamp (by omega)]
    refine br_c (fun w => h1 ?_) (fun w => h0 fun w2 => w ?_)
    · unfold qb_b; rw [z, w]; simp
    · unfold qb_b at w2
      rw [Bool.and_eq_true] at w2
      exact of_decide_eq_true w2.2
  · unfold qb_b at w
    rw [Bool.and_eq_true] at w
    exact z w.1
theorem qx_lb (hp : p < 4096) : ∀ d j, j + d = 12 → post (qb_lb a p d j) → wX_leastBestIn_2 post (nI p) dc fe np a ow de dr (d + 1) (nI j) := by
  intro d
  induction d with
  | zero => intro j hj h; exact pk_le 12 j (fun _ => h) (fun z => absurd z (by omega))
  | succ d ih =>
    intro j hj h
    rw [qb_lb] at h
    refine pk_le 12 j (fun z => absurd z (by omega)) (fun _ => qx_best hp (by omega) (fun z => ?_) (fun z => ?_))
    · exact br_f (by decide) (by rw [if_pos z] at h; exact h)
    · exact br_t rfl (nm_r (nI_1 j) (ih (j + 1) (by omega) (by rw [if_neg z] at h; exact h)))
theorem qx_least (hp : p < 4096) (h : post (qb_lb a p 12 0)) : wpX_leastBestIn post (dc, fe, np, a, ow, de, dr) (nI p) := by
  unfold wpX_leastBestIn
  dsimp only
  exact Exists.intro 13 (qx_lb hp 12 0 rfl h)
theorem qx_bs (hp : p < 4096) : ∀ d j x, j + d = 12 → post (nI (qb_bs a p d j x)) → wX_bestEdges_14 post dc (nI p) np a ow de dr (d + 1) (nI x) (nI j) := by
  intro d
  induction d with
  | zero => intro j x hj h; exact pk_le 12 j (fun _ => h) (fun z => absurd z (by omega))
  | succ d ih =>
    intro j x hj h
    rw [qb_bs] at h
    refine pk_le 12 j (fun z => absurd z (by omega)) (fun _ => qx_best hp (by omega) (fun z => ?_) (fun z => ?_))
    · exact br_f (by decide) (nm_r (by rw [qb_sh j (by omega), qb_or]) (nm_r (nI_1 j) (ih (j + 1) _ (by omega) (by rw [if_pos z] at h; exact h))))
    · exact br_t rfl (nm_r (nI_1 j) (ih (j + 1) x (by omega) (by rw [if_neg z] at h; exact h)))
theorem qx_ct {pl : Int32} : ∀ d j c, j + d = 4 → post (nI (qb_cts ow pl d j c)) → wX_boxesOf_4 post pl dc fe np a ow de dr (d + 1) (nI c) (nI j) := by
  intro d
  induction d with
  | zero => intro j c hj h; exact pk_le 4 j (fun _ => h) (fun z => absurd z (by omega))
  | succ d ih =>
    intro j c hj h
    rw [qb_cts] at h
    refine pk_le 4 j (fun z => absurd z (by omega)) (fun _ => ⟨vp_in_nI (by omega) (by decide), ?_⟩)
    rw [nI_clamp (by omega)]
    exact br_c (fun z => nm_r (nI_1 c) (nm_r (nI_1 j) (ih (j + 1) (c + 1) (by omega) (by rw [if_pos z] at h; exact h)))) (fun z => nm_r (nI_1 j) (ih (j + 1) c (by omega) (by rw [if_neg z] at h; exact h)))
theorem qx_boxesOf {pl : Int32} (h : post (nI (qb_ct ow pl))) : wpX_boxesOf post (dc, fe, np, a, ow, de, dr) pl := by
  unfold wpX_boxesOf
  dsimp only
  exact Exists.intro 5 (qx_ct 4 0 0 rfl h)
theorem qx_many {m : Nat} (hm : m ≤ 12) (h0 : 4 ≤ m → post 0) (h1 : m < 4 → post 1) : wpX_tooManyFree post (nI m, fe, np, a, ow, de, dr) := by
  unfold wpX_tooManyFree
  dsimp only
  exact pk_le (12 - m) 8 (fun z => h0 (by omega)) (fun z => h1 (by omega)) (pk_sub (a := 12) hm)
theorem qx_player {v1 : Int32} (h1 : v1 = 0 ∨ v1 = 1 → post 1) (h0 : ¬ (v1 = 0 ∨ v1 = 1) → post 0) : wpX_isPlayer post v1 := by
  unfold wpX_isPlayer
  exact br_c (fun z => h1 (Or.inl z)) (fun z => br_c (fun w => h1 (Or.inr w)) (fun w => h0 fun q => q.elim z w))
end
