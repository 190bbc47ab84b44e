theorem qb_mkY : ∀ b, b < 4 → (((((1 : Int32) <<< (((2 * (nI b / 2)) + (nI b - nI b / 2 * 2)) &&& 31)) ||| ((1 : Int32) <<< ((((2 * (nI b / 2)) + 2) + (nI b - nI b / 2 * 2)) &&& 31))) ||| ((1 : Int32) <<< (((6 + (3 * (nI b / 2))) + (nI b - nI b / 2 * 2)) &&& 31))) ||| ((1 : Int32) <<< (((7 + (3 * (nI b / 2))) + (nI b - nI b / 2 * 2)) &&& 31))) = nI (qb_mk b) := by decide +kernel
theorem qb_lJ {b e p : Nat} (he : e < 12) (hp : p < 4096) : (nI (qb_mk b) &&& nI p) = ((1 : Int32) <<< (nI e &&& 31)) ↔ qb_l b e p = true := by
  rw [← qb_lI he hp, nx_and, nx_and, Nat.and_comm]
/-- q is a part of f -/
def qb_sub (q f : Nat) : Prop := q &&& f = q
theorem qb_sub_le {q f : Nat} (h : qb_sub q f) : q ≤ f := by
  have : q &&& f ≤ f := Nat.and_le_right
  rw [h] at this
  exact this
theorem qb_sub_r (f : Nat) : qb_sub f f := Nat.and_self f
theorem qb_sub_cl {q f e : Nat} (h : qb_sub q f) : qb_sub (qb_cl q e) f := by
  unfold qb_sub qb_cl at *
  rw [Nat.and_assoc, Nat.and_comm (4095 ^^^ 2 ^ e) f, ← Nat.and_assoc, h]
theorem qb_subI {q f : Nat} (hq : q < 4096) (hf : f < 4096) : (nI q &&& (nI f ^^^ (-1))) = 0 ↔ qb_sub q f := by
  have h3 : q &&& (f ^^^ 4294967295) ≤ q := Nat.and_le_left
  rw [qb_nm1, nx_xor, nx_and, ← nI_0, nI_eq (by omega) (by decide)]
  unfold qb_sub
  constructor
  · intro h
    apply Nat.eq_of_testBit_eq
    intro i
    have h4 := congrArg (fun z => Nat.testBit z i) h
    simp only [Nat.testBit_and, Nat.testBit_xor, Nat.zero_testBit, qb_tbm1] at h4
    rw [Nat.testBit_and]
    by_cases hi : i < 12
    · have h5 : i < 32 := by omega
      rw [decide_eq_true h5] at h4
      cases hx : q.testBit i <;> cases hy : f.testBit i <;> simp_all
    · rw [qb_tbH hq (by omega)]; simp
  · intro h
    apply Nat.eq_of_testBit_eq
    intro i
    have h4 := congrArg (fun z => Nat.testBit z i) h
    simp only [Nat.testBit_and] at h4
    rw [Nat.testBit_and, Nat.testBit_xor, Nat.zero_testBit, qb_tbm1]
    by_cases hi : i < 12
    · have h5 : i < 32 := by omega
      rw [decide_eq_true h5]
      cases hx : q.testBit i <;> cases hy : f.testBit i <;> simp_all
    · rw [qb_tbH hq (by omega)]; simp
section
variable {post : Int32 → Prop} {dn nx : Int32} {eg hs vl : Nat → Int32} {p e : Nat}
theorem qy_box {b : Nat} (hb : b < 4) (h : post (nI (qb_mk b))) : wpY_box post (dn, nx, eg, hs, vl) (nI b) := by
  unfold wpY_box
  dsimp only
  refine ⟨by decide, nm_e ⟨by decide, nm_e ?_⟩⟩
  rw [qb_mkY b hb]
  exact h
theorem qy_comp5 (hp : p < 4096) (he : e < 12) : ∀ d j c, j + d = 4 → post (nI (qb_cs p e d j c)) → wY_completes_5 post (nI p) (nI e) dn nx eg hs vl (d + 1) (nI c) (nI j) := by
  intro d
  induction d with
  | zero => intro j c hj h; exact pk_le 4 j (fun _ => h) (fun z => absurd z (by omega))
  | succ d ih =>
    intro j c hj h
    refine pk_le 4 j (fun z => absurd z (by omega)) (fun _ => qy_box (by omega) ?_)
    rw [qb_lJ he hp]
    refine br_c (fun z => ?_) (fun z => ?_)
    · exact nm_r (nI_1 c) (nm_r (nI_1 j) (ih (j + 1) (c + 1) (by omega) (by rw [qb_cs1 z] at h; exact h)))
    · exact nm_r (Int32.add_zero _) (nm_r (nI_1 j) (ih (j + 1) c (by omega) (by rw [qb_cs0 z] at h; exact h)))
theorem qy_comp (hp : p < 4096) (he : e < 12) (h : post (nI (qb_cc p e))) : wpY_completes post (dn, nx, eg, hs, vl) (nI p) (nI e) := by
  unfold wpY_completes
  dsimp only
  exact Exists.intro 5 (qy_comp5 hp he 4 0 0 rfl h)
theorem qy_worth (hp : p < 4096) (he : e < 12) (h : post (qb_W vl p e)) : wpY_worthIn post (dn, nx, eg, hs, vl) (nI p) (nI e) := by
  unfold wpY_worthIn
  dsimp only
  refine qy_comp hp he ?_
  have hl : qb_cl p e ≤ p := qb_cl_le p e
  have hc := qb_cc4 p e
  rw [qb_clI hp he, nI_clamp (by omega)]
  refine ⟨vp_in_nI (by omega) (by decide), nm_e ?_⟩
  unfold qb_W at h
  exact pk_le (qb_cc p e) 0 (fun z => by rw [if_pos (by omega)] at h; exact h) (fun z => by rw [if_neg (by omega)] at h; exact h)
theorem qy_gr (hp : p < 4096) : ∀ d j g, j + d = 12 → post (qb_gs vl p d j g) → wY_greatest_5 post (nI p) dn nx eg hs vl (d + 1) g (nI j) := by
  intro d
  induction d with
  | zero => intro j g hj h; exact pk_le 12 j (fun _ => h) (fun z => absurd z (by omega))
  | succ d ih =>
    intro j g hj h
    rw [qb_gs] at h
    refine pk_le 12 j (fun z => absurd z (by omega)) (fun _ => ?_)
    rw [qb_bitY1 hp (by omega)]
    refine br_c (fun z => qy_worth hp (by omega) ?_) (fun z => ?_)
    · rw [if_pos z] at h
      exact br_c (fun w => nm_r (nI_1 j) (ih (j + 1) g (by omega) (by rw [if_pos w] at h; exact h))) (fun w => nm_r (nI_1 j) (ih (j + 1) _ (by omega) (by rw [if_neg w] at h; exact h)))
    · exact nm_r (nI_1 j) (ih (j + 1) g (by omega) (by rw [if_neg z] at h; exact h))
theorem qy_great (hp : p < 4096) (h : post (qb_gs vl p 12 0 (-100))) : wpY_greatest post (dn, nx, eg, hs, vl) (nI p) := by
  unfold wpY_greatest
  dsimp only
  exact Exists.intro 13 (qy_gr hp 12 0 (-100) rfl h)
theorem qy_fr {ed : Nat → Nat} {m : Nat} (H : qb_H ed m) (hE : ∀ i, i < m → eg i = nI (ed i)) (h : post (nI (qb_F ed m))) : ∀ d j, j + d = m → wY_free_6 post (nI m) nx eg hs vl (d + 1) (nI (qb_F ed j)) (nI j) := by
  have hm := qb_Hm H
  intro d
  induction d with
  | zero =>
    intro j hj
    have hj : j = m := hj
    subst hj
    exact pk_le j j (fun _ => h) (fun z => absurd z (by omega))
  | succ d ih =>
    intro j hj
    refine pk_le m j (fun z => absurd z (by omega)) (fun _ => ⟨vp_in_nI (by omega) (by decide), ?_⟩)
    rw [nI_clamp (by omega), hE j (by omega)]
    exact nm_r (qb_clI (qb_Fl ed j) (H j (by omega)).1) (nm_r (nI_1 j) (ih (j + 1) (by omega)))
theorem qy_free {ed : Nat → Nat} {m : Nat} (H : qb_H ed m) (hE : ∀ i, i < m → eg i = nI (ed i)) (h : post (nI (qb_F ed m))) : wpY_free post (nI m, nx, eg, hs, vl) := by
  unfold wpY_free
  dsimp only
  exact Exists.intro (m + 1) (qy_fr H hE h m 0 (by omega))
theorem qy_many {m : Nat} (hm : m ≤ 12) (h0 : 4 ≤ m → post 0) (h1 : m < 4 → post 1) : wpY_many post (nI m, nx, eg, hs, vl) := by
  unfold wpY_many
  dsimp only
  exact pk_le 4 m h0 h1
end
