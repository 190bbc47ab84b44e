section
variable {dn nx : Int32} {eg hs vl a : Nat → Int32} {p e : Nat}
theorem qy_wk {post : SY → Prop} {f : Nat} (hf : f < 4096) (T : qb_Tab a 4096) : ∀ d i vl, i + d = f + 1 → 0 < i → (∀ q, q < i → qb_sub q f → vl q = a q) → (∀ vl', (∀ q, qb_sub q f → vl' q = a q) → post (dn, nx, eg, hs, vl')) → wY_work_14 post (nI f) dn nx (d + 1) (nI i) eg hs vl := by
  intro d
  induction d with
  | zero =>
    intro i vl hi h0 hv h
    refine pk_lt f i (fun _ => h vl fun q hq => hv q ?_ hq) (fun z => absurd z (by omega))
    have := qb_sub_le hq
    omega
  | succ d ih =>
    intro i vl hi h0 hv h
    refine pk_lt f i (fun z => absurd z (by omega)) (fun _ => pk_le 4096 i (fun z => absurd z (by omega)) (fun _ => ?_))
    rw [qb_subI (by omega) hf]
    refine br_c (fun z => qy_great (by omega) ⟨vp_in_nI (by omega) (by decide), ?_⟩) (fun z => nm_r (nI_1 i) (ih (i + 1) vl (by omega) (by omega) (fun q h1 h2 => ?_) h))
    · have hg : qb_gs vl i 12 0 (-100) = a i := by
        rw [← qb_st T (by omega) (by omega)]
        apply qb_gsc _ (by omega)
        intro e he
        exact hv _ (qb_cl_lt (by omega) he) (qb_sub_cl z)
      rw [nI_clamp (by omega), hg]
      refine nm_e (nm_r (nI_1 i) (ih (i + 1) _ (by omega) (by omega) (fun q h1 h2 => ?_) h))
      by_cases w : q = i
      · subst w; exact pk_us
      · rw [pk_un w]; exact hv q (by omega) h2
    · refine hv q ?_ h2
      have : q ≠ i := fun w => z (by rw [← w]; exact h2)
      omega
/-- Y's table agrees with X's on the parts of the free mask -/
theorem qy_work {post : SY → Prop} {ed : Nat → Nat} {m : Nat} (H : qb_H ed m) (hE : ∀ i, i < m → eg i = nI (ed i)) (T : qb_Tab a 4096) (h : ∀ vl', (∀ q, qb_sub q (qb_F ed m) → vl' q = a q) → post (nI m, nx, eg, hs, vl')) : wpY_work post (nI m, nx, eg, hs, vl) := by
  unfold wpY_work
  dsimp only
  refine qy_free H hE (nm_e (Exists.intro (qb_F ed m + 1) (qy_wk (qb_Fl ed m) T (qb_F ed m) 1 _ (by omega) (by decide) (fun q h1 h2 => ?_) h)))
  have : q = 0 := by omega
  subst this
  rw [pk_us, T.1]
theorem qy_bs {post : Int32 → SY → Prop} (hp : p < 4096) (hv : ∀ q, qb_sub q p → vl q = a q) : ∀ d j x, j + d = 12 → post (nI (qb_bs a p d j x)) (dn, nx, eg, hs, vl) → wY_bestEdges_23 post (nI p) dn nx eg hs vl (d + 1) (nI x) (nI j) := by
  intro d
  induction d with
  | zero => intro j x hj h; exact pk_le 12 j (fun _ => h) (fun z => absurd z (by omega))
  | succ d ih =>
    intro j x hj h
    rw [qb_bs] at h
    refine pk_le 12 j (fun z => absurd z (by omega)) (fun _ => ?_)
    rw [qb_bitY1 hp (by omega)]
    refine br_c (fun z => qy_worth hp (by omega) ⟨vp_in_nI (by omega) (by decide), ?_⟩) (fun z => ?_)
    · rw [nI_clamp (by omega), hv p (qb_sub_r p), qb_Wc hp z (hv _ (qb_sub_cl (qb_sub_r p)))]
      refine br_c (fun w => ?_) (fun w => ?_)
      · have hb : qb_b a p j = true := by unfold qb_b; rw [z, w]; simp
        rw [if_pos hb] at h
        exact nm_r (by rw [qb_sh j (by omega), qb_or]) (nm_r (nI_1 j) (ih (j + 1) _ (by omega) h))
      · have hb : ¬ qb_b a p j = true := fun w2 => by
          unfold qb_b at w2
          rw [Bool.and_eq_true] at w2
          exact w (of_decide_eq_true w2.2)
        rw [if_neg hb] at h
        exact nm_r (nI_1 j) (ih (j + 1) _ (by omega) h)
    · have hb : ¬ qb_b a p j = true := fun w2 => by
        unfold qb_b at w2
        rw [Bool.and_eq_true] at w2
        exact z w2.1
      rw [if_neg hb] at h
      exact nm_r (nI_1 j) (ih (j + 1) _ (by omega) h)
theorem qy_bestEdges {post : Int32 → SY → Prop} {ed : Nat → Nat} {m : Nat} (H : qb_H ed m) (h4 : 4 ≤ m) (hE : ∀ i, i < m → eg i = nI (ed i)) (T : qb_Tab a 4096) (h : ∀ vl', post (nI (qb_bs a (qb_F ed m) 12 0 0)) (nI m, nx, eg, hs, vl')) : wpY_bestEdges post (nI m, nx, eg, hs, vl) := by
  unfold wpY_bestEdges
  dsimp only
  refine qy_many (qb_Hm H) (fun _ => br_t rfl (qy_work H hE T fun vl' hv => ?_)) (fun z => absurd z (by omega))
  exact qy_free H hE (Exists.intro 13 (qy_bs (qb_Fl ed m) hv 12 0 0 rfl (h vl')))
theorem qy_lb {post : Int32 → SY → Prop} {B : Nat} (hB : B < 4096) (hb : ∀ i, i < 12 → B.testBit i = qb_b a p i) : ∀ d j, j + d = 12 → post (qb_lb a p d j) (dn, nx, eg, hs, vl) → wY_best_17 post (nI B) dn nx eg hs vl (d + 1) (nI j) := by
  intro d
  induction d with
  | zero => intro j hj h; exact pk_le 12 j (fun _ => h) (fun z => absurd z (by omega))
  | succ d ih =>
    intro j hj h
    rw [qb_lb] at h
    refine pk_le 12 j (fun z => absurd z (by omega)) (fun _ => ?_)
    rw [qb_bitY1 hB (by omega), hb j (by omega)]
    refine br_c (fun z => ?_) (fun z => ?_)
    · rw [if_pos z] at h; exact h
    · exact nm_r (nI_1 j) (ih (j + 1) (by omega) (by rw [if_neg z] at h; exact h))
theorem qy_best {post : Int32 → SY → Prop} {ed : Nat → Nat} {m : Nat} (H : qb_H ed m) (h4 : 4 ≤ m) (hE : ∀ i, i < m → eg i = nI (ed i)) (T : qb_Tab a 4096) (h : ∀ vl', post (qb_lb a (qb_F ed m) 12 0) (nI m, nx, eg, hs, vl')) : wpY_best post (nI m, nx, eg, hs, vl) := by
  unfold wpY_best
  dsimp only
  refine qy_many (qb_Hm H) (fun _ => br_t rfl (qy_bestEdges H h4 hE T fun vl' => ?_)) (fun z => absurd z (by omega))
  refine Exists.intro 13 (qy_lb (a := a) (p := qb_F ed m) (qb_bsL a _ 12 0 0 (by omega) (by omega)) (fun i hi => ?_) 12 0 rfl (h vl'))
  have hd : 0 ≤ i ∧ i < 0 + 12 := by omega
  rw [qb_bsT, Nat.zero_testBit, decide_eq_true hd]
  simp
theorem qy_draw {post : Int32 → SY → Prop} {ed : Nat → Nat} {m : Nat} (H : qb_H ed m) (hE : ∀ i, i < m → eg i = nI (ed i)) (he : e < 12) (hb : (qb_F ed m).testBit e = true) (h : post (nI (qb_cc (qb_F ed m) e)) (nI (m + 1), nx, upd eg m (nI e), hs, vl)) : wpY_draw post (nI m, nx, eg, hs, vl) (nI e) := by
  have hm : m < 12 := by
    have h1 := qb_Hm H
    have h2 : m ≠ 12 := fun z => by
      rw [(qb_F0 H).mpr z, Nat.zero_testBit] at hb
      exact nomatch hb
    omega
  unfold wpY_draw
  dsimp only
  refine qy_free H hE (br_f (nI_pos (by omega)) (br_f (nI_nlt (a := 11) (b := e) (by omega) (by decide)) ?_))
  rw [qb_bitY0 (qb_Fl ed m) he, hb]
  refine br_f (by decide) (br_t (nI_lt (b := 12) hm (by decide)) ⟨vp_in_nI hm (by decide), ?_⟩)
  rw [nI_clamp (by omega)]
  exact nm_e (nm_r (nI_1 m) (qy_comp (qb_Fl ed m) he h))
/-- one draw that is refused -/
theorem qy_drawN {post : Int32 → SY → Prop} {ed : Nat → Nat} {m : Nat} {v1 : Int32} (H : qb_H ed m) (hE : ∀ i, i < m → eg i = nI (ed i)) (hv : v1 < 0 ∨ nI 12 ≤ v1 ∨ ∃ e, e < 12 ∧ v1 = nI e ∧ ¬ (qb_F ed m).testBit e = true) (h : post (-1) (nI m, nx, eg, hs, vl)) : wpY_draw post (nI m, nx, eg, hs, vl) v1 := by
  unfold wpY_draw
  dsimp only
  refine qy_free H hE ?_
  by_cases z : v1 < 0
  · exact br_t z h
  · refine br_f z ?_
    by_cases z2 : 11 < v1
    · exact br_t z2 h
    · refine br_f z2 ?_
      rcases hv with hv | hv | ⟨e, he, rfl, hb⟩
      · exact absurd hv z
      · exact absurd (Int32.lt_of_lt_of_le (by decide) hv) z2
      · rw [qb_bitY0 (qb_Fl ed m) he]
        exact br_t (by cases hh : (qb_F ed m).testBit e; rfl; exact absurd hh hb) h
theorem qy_r11 {post : SY → Prop} {x1 : Int32} : ∀ d j hs, j + d = 4 → (∀ b, b < j → hs b = -1) → (∀ hs', (∀ b, b < 4 → hs' b = -1) → ∃ n31 : Nat, wY_replay_31 post dn n31 x1 0 nx eg hs' vl) → wY_replay_11 post x1 dn nx (d + 1) (nI j) eg hs vl := by
  intro d
  induction d with
  | zero =>
    intro j hs hj ho h
    exact pk_le 4 j (fun _ => h hs (by rw [← hj]; exact ho)) (fun z => absurd z (by omega))
  | succ d ih =>
    intro j hs hj ho h
    refine pk_le 4 j (fun z => absurd z (by omega)) (fun _ => ⟨vp_in_nI (by omega) (by decide), ?_⟩)
    rw [nI_clamp (by omega)]
    refine nm_e (nm_r (nI_1 j) (ih (j + 1) _ (by omega) (fun b hb => ?_) h))
    by_cases z : b = j
    · subst z; exact pk_us
    · rw [pk_un z]; exact ho b (by omega)
theorem qy_r41 {post : SY → Prop} {J : Int32 → Int32 → Int32 → (Nat → Int32) → (Nat → Int32) → (Nat → Int32) → Prop} {k : Nat} (hk : k < 12) (hp : p < 4096) (he : e < 12) (hE : eg k = nI e) : ∀ d j hs, j + d = 4 → (∀ hs', (∀ b, b < 4 → hs' b = if j ≤ b ∧ qb_l b e p = true then nx else hs b) → J (nI (qb_cl p e)) (nI (k + 1)) (if qb_cc p e = 0 then 1 - nx else nx) eg hs' vl) → wY_replay_41 post J (nI p) (nI k) dn nx (d + 1) (nI j) eg hs vl := by
  intro d
  induction d with
  | zero =>
    intro j hs hj h
    have h2 := h hs (fun b hb => (if_neg (by omega)).symm)
    have hc := qb_cc4 p e
    refine pk_le 4 j (fun _ => ⟨vp_in_nI (by omega) (by decide), ?_⟩) (fun z => absurd z (by omega))
    rw [nI_clamp (by omega), hE]
    refine qy_comp hp he (pk_le (qb_cc p e) 0 (fun z => ?_) (fun z => ?_))
    · unfold wY_replay_117
      rw [nI_clamp (by omega), hE]
      rw [if_pos (by omega)] at h2
      exact ⟨vp_in_nI (by omega) (by decide), nm_r (qb_clI hp he) (nm_r (nI_1 k) h2)⟩
    · unfold wY_replay_117
      rw [nI_clamp (by omega), hE]
      rw [if_neg (by omega)] at h2
      exact ⟨vp_in_nI (by omega) (by decide), nm_r (qb_clI hp he) (nm_r (nI_1 k) h2)⟩
  | succ d ih =>
    intro j hs hj h
    refine pk_le 4 j (fun z => absurd z (by omega)) (fun _ => qy_box (by omega) ⟨vp_in_nI (by omega) (by decide), ?_⟩)
    rw [nI_clamp (n := k) (by omega), hE, qb_lJ he hp, nI_clamp (n := j) (by omega)]
    refine br_c (fun z => ⟨vp_in_nI (by omega) (by decide), nm_e (nm_r (nI_1 j) (ih (j + 1) _ (by omega) (fun hs' h' => h hs' ?_)))⟩) (fun z => ⟨vp_in_nI (by omega) (by decide), vp_in_nI (by omega) (by decide), nm_r (qb_updS hs j) (nm_r (nI_1 j) (ih (j + 1) hs (by omega) (fun hs' h' => h hs' ?_)))⟩)
    · exact qb_stp1 (fun b => qb_l b e p) z h'
    · exact qb_stp0 (fun b => qb_l b e p) z h'
theorem qy_r31 {post : SY → Prop} {ed : Nat → Nat} {m : Nat} (H : qb_H ed m) (hE : ∀ i, i < m → eg i = nI (ed i)) (h : ∀ hs', (∀ b, b < 4 → hs' b = qb_O ed m b) → post (nI m, qb_N ed m, eg, hs', vl)) : ∀ d j hs, j + d = m → (∀ b, b < 4 → hs b = qb_O ed j b) → wY_replay_31 post (nI m) (d + 1) (nI (qb_F ed j)) (nI j) (qb_N ed j) eg hs vl := by
  have hm := qb_Hm H
  intro d
  induction d with
  | zero =>
    intro j hs hj hO
    have hj : j = m := hj
    subst hj
    exact pk_le j j (fun _ => h hs hO) (fun z => absurd z (by omega))
  | succ d ih =>
    intro j hs hj hO
    refine pk_le m j (fun z => absurd z (by omega)) (fun _ => Exists.intro 5 (qy_r41 (by omega) (qb_Fl ed j) (H j (by omega)).1 (hE j (by omega)) 4 0 hs rfl (fun hs' h' => ih (j + 1) hs' (by omega) (fun b hb => ?_))))
    rw [h' b hb, hO b hb]
    simp only [Nat.zero_le, true_and]
    rfl
theorem qy_replay {post : SY → Prop} {ed : Nat → Nat} {m : Nat} (H : qb_H ed m) (hE : ∀ i, i < m → eg i = nI (ed i)) (h : ∀ hs', (∀ b, b < 4 → hs' b = qb_O ed m b) → post (nI m, qb_N ed m, eg, hs', vl)) : wpY_replay post (nI m, nx, eg, hs, vl) := by
  unfold wpY_replay
  dsimp only
  exact Exists.intro 5 (qy_r11 4 0 hs rfl (fun b hb => absurd hb (by omega)) (fun hs' h' => Exists.intro (m + 1) (qy_r31 H hE h m 0 hs' (by omega) h')))
theorem qy_ct {post : Int32 → SY → Prop} {pl : Int32} : ∀ d j c, j + d = 4 → post (nI (qb_cts hs pl d j c)) (dn, nx, eg, hs, vl) → wY_boxes_19 post pl dn nx eg hs vl (d + 1) (nI c) (nI j) := by
  intro d
  induction d with
  | zero => intro j c hj h; exact pk_le 4 j (fun _ => h) (fun z => absurd z (by omega))
  | succ d ih =>
    intro j c hj h
    rw [qb_cts] at h
    refine pk_le 4 j (fun z => absurd z (by omega)) (fun _ => ⟨vp_in_nI (by omega) (by decide), ?_⟩)
    rw [nI_clamp (by omega)]
    exact br_c (fun z => nm_r (nI_1 c) (nm_r (nI_1 j) (ih (j + 1) (c + 1) (by omega) (by rw [if_pos z] at h; exact h)))) (fun z => nm_r (Int32.add_zero _) (nm_r (nI_1 j) (ih (j + 1) c (by omega) (by rw [if_neg z] at h; exact h))))
theorem qy_boxes {post : Int32 → SY → Prop} {ed : Nat → Nat} {m : Nat} {pl : Int32} (H : qb_H ed m) (hE : ∀ i, i < m → eg i = nI (ed i)) (hp : pl = 0 ∨ pl = 1) (h : ∀ hs', post (nI (qb_ct (qb_O ed m) pl)) (nI m, qb_N ed m, eg, hs', vl)) : wpY_boxes post (nI m, nx, eg, hs, vl) pl := by
  have key : wY_boxes_11 post pl (nI m) nx eg hs vl := by
    unfold wY_boxes_11
    refine qy_replay H hE (fun hs' h' => Exists.intro 5 (qy_ct 4 0 0 rfl ?_))
    have h2 := h hs'
    rw [← qb_ctc pl h'] at h2
    exact h2
  unfold wpY_boxes
  dsimp only
  exact br_c (fun _ => key) (fun z => br_t (hp.resolve_left z) key)
end
