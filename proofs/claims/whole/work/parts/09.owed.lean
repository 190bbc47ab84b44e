/-- one history stands behind both states: X holds what it makes, Y holds its edges -/
def i_Rel (_ : Nat) (u : SX) (v : SY) : Prop := ∃ (a : Nat → Int32) (ed : Nat → Nat) (m : Nat), qb_Tab a 4096 ∧ qb_H ed m ∧ qb_X a ed m u ∧ qb_Y ed m v
theorem i_up {k : Nat} {u : SX} {v : SY} (h : i_Rel k u v) : i_Rel (k + 3) u v := h
theorem i_vc0 : wpX_init (fun u => wpY_init (fun v => i_Rel 0 u v)) := by
  unfold wpX_init
  refine qx_fill (fun a T => ?_)
  refine qx_begin (fun ow ho => ?_)
  exact ⟨a, fun _ => 0, 0, T, fun i hi => absurd hi (by omega), ⟨ow, _, _, rfl, ho, fun i hi => absurd hi (by omega), fun i hi => absurd hi (by omega)⟩, ⟨_, _, _, _, rfl, fun i hi => absurd hi (by omega)⟩⟩
theorem i_vc_draw {k : Nat} {u : SX} {v : SY} (I : i_Rel k u v) (hk : k + 3 ≤ 1536) (v1 : Int32) : wpX_draw (fun r u' => wpY_draw (fun r' v' => r' = r ∧ i_Rel (k + 3) u' v') v v1) u v1 := by
  obtain ⟨a, ed, m, T, H, ⟨ow, de, dr, rfl, A⟩, ⟨nx, eg, hs, vl, rfl, hE⟩⟩ := I
  have R : i_Rel (k + 3) (nI m, nI (qb_F ed m), qb_N ed m, a, ow, de, dr) (nI m, nx, eg, hs, vl) := ⟨a, ed, m, T, H, ⟨ow, de, dr, rfl, A⟩, ⟨nx, eg, hs, vl, rfl, hE⟩⟩
  unfold wpX_draw
  dsimp only
  rcases pk_ix v1 (n := 12) (by decide) with hv | hv | ⟨e, he, rfl⟩
  · exact qx_isFreeN (Or.inl hv) (br_t rfl (qy_drawN H hE (Or.inl hv) ⟨rfl, R⟩))
  · exact qx_isFreeN (Or.inr hv) (br_t rfl (qy_drawN H hE (Or.inr (Or.inl hv)) ⟨rfl, R⟩))
  · refine qx_isFree (qb_Fl ed m) he (fun hb => br_f (by decide) ?_) (fun hb => br_t rfl (qy_drawN H hE (Or.inr (Or.inr ⟨e, he, rfl, hb⟩)) ⟨rfl, R⟩))
    refine qx_draw1 H A he hb (fun ow' de' dr' A' => ?_)
    exact qy_draw H hE he hb ⟨rfl, a, qb_up ed m e, m + 1, T, qb_upH H he hb, ⟨ow', de', dr', rfl, A'⟩, ⟨nx, _, hs, vl, rfl, qb_YU hE⟩⟩
theorem i_vc_back {k : Nat} {u : SX} {v : SY} (I : i_Rel k u v) (hk : k + 3 ≤ 1536) : wpX_back (fun r u' => wpY_back (fun r' v' => r' = r ∧ i_Rel (k + 3) u' v') v) u := by
  obtain ⟨a, ed, m, T, H, ⟨ow, de, dr, rfl, A⟩, ⟨nx, eg, hs, vl, rfl, hE⟩⟩ := I
  have hm := qb_Hm H
  unfold wpX_back wpY_back
  dsimp only
  cases m with
  | zero => exact br_t rfl (br_t rfl ⟨rfl, a, ed, 0, T, H, ⟨ow, de, dr, rfl, A⟩, ⟨nx, eg, hs, vl, rfl, hE⟩⟩)
  | succ m =>
    have hH : qb_H ed m := fun i hi => H i (by omega)
    have h1 := H m (by omega)
    have hz : ¬ nI (m + 1) = 0 := nI_ne0 (by omega) (by omega)
    refine br_f hz (nm_r (nI_pred m) ⟨vp_in_nI (by omega) (by decide), ?_⟩)
    rw [nI_clamp (by omega), A.2.1 m (by omega), A.2.2 m (by omega)]
    refine nm_e (nm_r (qb_back (qb_Fl ed m) h1.1 h1.2) ⟨vp_in_nI (by omega) (by decide), nm_e (qx_back (qb_Fl ed m) h1.1 (fun ow' h' => ?_))⟩)
    refine br_f hz (nm_r (nI_pred m) ⟨vp_in_nI (by omega) (by decide), ?_⟩)
    rw [nI_clamp (by omega), hE m (by omega)]
    refine ⟨rfl, a, ed, m, T, hH, ⟨ow', de, dr, rfl, fun b hb => ?_, fun i hi => A.2.1 i (by omega), fun i hi => A.2.2 i (by omega)⟩, ⟨nx, eg, hs, vl, rfl, fun i hi => hE i (by omega)⟩⟩
    rw [h' b hb, A.1 b hb]
    by_cases z : qb_l b (ed m) (qb_F ed m) = true
    · rw [if_pos z, qb_Ol z]
    · rw [if_neg z]
      exact if_neg z
theorem i_vc_restart {k : Nat} {u : SX} {v : SY} (I : i_Rel k u v) (hk : k + 3 ≤ 1536) : wpX_restart (fun u' => wpY_restart (fun v' => i_Rel (k + 3) u' v') v) u := by
  obtain ⟨a, ed, m, T, H, ⟨ow, de, dr, rfl, A⟩, ⟨nx, eg, hs, vl, rfl, hE⟩⟩ := I
  unfold wpX_restart wpY_restart
  dsimp only
  refine qx_begin (fun ow' ho => ?_)
  exact ⟨a, ed, 0, T, fun i hi => absurd hi (by omega), ⟨ow', de, dr, rfl, ho, fun i hi => absurd hi (by omega), fun i hi => absurd hi (by omega)⟩, ⟨nx, eg, hs, vl, rfl, fun i hi => absurd hi (by omega)⟩⟩
theorem i_vc_turn {k : Nat} {u : SX} {v : SY} (I : i_Rel k u v) (hk : k + 3 ≤ 1536) : wpX_turn (fun r => wpY_turn (fun r' v' => r' = r ∧ i_Rel (k + 3) u v') v) u := by
  obtain ⟨a, ed, m, T, H, ⟨ow, de, dr, rfl, A⟩, ⟨nx, eg, hs, vl, rfl, hE⟩⟩ := I
  have hm := qb_Hm H
  have hFl := qb_Fl ed m
  have R : ∀ hs', i_Rel (k + 3) (nI m, nI (qb_F ed m), qb_N ed m, a, ow, de, dr) (nI m, qb_N ed m, eg, hs', vl) := fun hs' => ⟨a, ed, m, T, H, ⟨ow, de, dr, rfl, A⟩, ⟨_, eg, hs', vl, rfl, hE⟩⟩
  unfold wpX_turn wpY_turn
  dsimp only
  refine pk_eq (qb_F ed m) 0 (fun z => qy_replay H hE (fun hs' _ => pk_eq m 12 (fun _ => ⟨rfl, R hs'⟩) (fun w => absurd ((qb_F0 H).mp z) w))) (fun z => qy_replay H hE (fun hs' _ => pk_eq m 12 (fun w => absurd ((qb_F0 H).mpr w) z) (fun w => ⟨rfl, R hs'⟩)))
theorem i_vc_free {k : Nat} {u : SX} {v : SY} (I : i_Rel k u v) (hk : k + 3 ≤ 1536) : wpX_free (fun r => wpY_free (fun r' => r' = r ∧ i_Rel (k + 3) u v) v) u := by
  obtain ⟨a, ed, m, T, H, ⟨ow, de, dr, rfl, A⟩, ⟨nx, eg, hs, vl, rfl, hE⟩⟩ := I
  unfold wpX_free
  dsimp only
  exact qy_free H hE ⟨rfl, a, ed, m, T, H, ⟨ow, de, dr, rfl, A⟩, ⟨nx, eg, hs, vl, rfl, hE⟩⟩
theorem i_vc_boxes {k : Nat} {u : SX} {v : SY} (I : i_Rel k u v) (hk : k + 3 ≤ 1536) (v1 : Int32) : wpX_boxes (fun r => wpY_boxes (fun r' v' => r' = r ∧ i_Rel (k + 3) u v') v v1) u v1 := by
  obtain ⟨a, ed, m, T, H, ⟨ow, de, dr, rfl, A⟩, ⟨nx, eg, hs, vl, rfl, hE⟩⟩ := I
  unfold wpX_boxes
  dsimp only
  refine qx_player (fun hp => br_f (by decide) (qx_boxesOf (qy_boxes H hE hp (fun hs' => ⟨?_, a, ed, m, T, H, ⟨ow, de, dr, rfl, A⟩, ⟨_, eg, hs', vl, rfl, hE⟩⟩)))) (fun hp => br_t rfl ?_)
  · rw [qb_ctc v1 A.1]
  · unfold wpY_boxes
    dsimp only
    exact br_f (fun z => hp (Or.inl z)) (br_f (fun z => hp (Or.inr z)) ⟨rfl, a, ed, m, T, H, ⟨ow, de, dr, rfl, A⟩, ⟨nx, eg, hs, vl, rfl, hE⟩⟩)
theorem qy_own {post : Int32 → SY → Prop} {dn nx : Int32} {eg hs vl : Nat → Int32} {r c : Nat} (hr : r < 2) (hc : c < 2) (h : post (hs (2 * r + c)) (dn, nx, eg, hs, vl)) : wY_owner_13 post (nI r) (nI c) dn nx eg hs vl := by
  have e1 : (2 * nI r) + nI c = nI (2 * r + c) := by
    have : r = 0 ∨ r = 1 := by omega
    have : c = 0 ∨ c = 1 := by omega
    rcases ‹r = 0 ∨ r = 1› with rfl | rfl <;> rcases ‹c = 0 ∨ c = 1› with rfl | rfl <;> decide
  have key : wY_owner_22 post (nI r) (nI c) dn nx eg hs vl := by
    unfold wY_owner_22
    rw [e1, nI_clamp (by omega)]
    exact ⟨vp_in_nI (by omega) (by decide), h⟩
  unfold wY_owner_13
  exact pk_eq c 0 (fun _ => key) (fun z => pk_eq c 1 (fun _ => key) (fun w => absurd hc (by omega)))
theorem i_vc_owner {k : Nat} {u : SX} {v : SY} (I : i_Rel k u v) (hk : k + 3 ≤ 1536) (v1 : Int32) (v2 : Int32) : wpX_owner (fun r => wpY_owner (fun r' v' => r' = r ∧ i_Rel (k + 3) u v') v v1 v2) u v1 v2 := by
  obtain ⟨a, ed, m, T, H, ⟨ow, de, dr, rfl, A⟩, ⟨nx, eg, hs, vl, rfl, hE⟩⟩ := I
  have R : ∀ hs', i_Rel (k + 3) (nI m, nI (qb_F ed m), qb_N ed m, a, ow, de, dr) (nI m, qb_N ed m, eg, hs', vl) := fun hs' => ⟨a, ed, m, T, H, ⟨ow, de, dr, rfl, A⟩, ⟨_, eg, hs', vl, rfl, hE⟩⟩
  have hN : ∀ {x : Int32}, ¬ (x = 0 ∨ x = 1) → x < 0 ∨ 1 < x := by
    intro x hx
    by_cases z : x < 0
    · exact Or.inl z
    · obtain ⟨j, hj, rfl⟩ := nI_of z
      have h0 : j ≠ 0 := fun w => hx (Or.inl (by rw [w]; rfl))
      have h1 : j ≠ 1 := fun w => hx (Or.inr (by rw [w]; rfl))
      exact Or.inr (nI_lt (a := 1) (by omega) hj)
  unfold wpX_owner wpY_owner
  dsimp only
  by_cases h1 : v1 = 0 ∨ v1 = 1
  · by_cases h2 : v2 = 0 ∨ v2 = 1
    · obtain ⟨r, hr, rfl⟩ : ∃ r, r < 2 ∧ v1 = nI r := h1.elim (fun z => ⟨0, by omega, z⟩) (fun z => ⟨1, by omega, z⟩)
      obtain ⟨c, hc, rfl⟩ : ∃ r, r < 2 ∧ v2 = nI r := h2.elim (fun z => ⟨0, by omega, z⟩) (fun z => ⟨1, by omega, z⟩)
      have e1 : (2 * nI r) + nI c = nI (2 * r + c) := by
        have : r = 0 ∨ r = 1 := by omega
        have : c = 0 ∨ c = 1 := by omega
        rcases ‹r = 0 ∨ r = 1› with rfl | rfl <;> rcases ‹c = 0 ∨ c = 1› with rfl | rfl <;> decide
      refine br_f (nI_pos (by omega)) (br_f (nI_nlt (a := 1) (b := r) (by omega) (by decide)) (br_f (nI_pos (by omega)) (br_t (nI_le (b := 1) (by omega) (by decide)) ?_)))
      rw [e1, nI_clamp (by omega)]
      refine ⟨vp_in_nI (by omega) (by decide), qy_replay H hE (fun hs' h' => ?_)⟩
      have hh : hs' (2 * r + c) = ow (2 * r + c) := by rw [h' _ (by omega), A.1 _ (by omega)]
      exact pk_eq r 0 (fun _ => qy_own hr hc ⟨hh, R hs'⟩) (fun z => pk_eq r 1 (fun _ => qy_own hr hc ⟨hh, R hs'⟩) (fun w => absurd hr (by omega)))
    · have hy : wpY_replay (fun u => match u with | (f_drawn_2, f_next_3, a_edges_4, a_has_5, a_val_6) => (v1 = 0 → wY_owner_13 (fun r' v' => r' = -1 ∧ i_Rel (k + 3) (nI m, nI (qb_F ed m), qb_N ed m, a, ow, de, dr) v') v1 v2 f_drawn_2 f_next_3 a_edges_4 a_has_5 a_val_6) ∧ (¬ v1 = 0 → ((v1 = 1 → wY_owner_13 (fun r' v' => r' = -1 ∧ i_Rel (k + 3) (nI m, nI (qb_F ed m), qb_N ed m, a, ow, de, dr) v') v1 v2 f_drawn_2 f_next_3 a_edges_4 a_has_5 a_val_6) ∧ (¬ v1 = 1 → (-1 : Int32) = -1 ∧ i_Rel (k + 3) (nI m, nI (qb_F ed m), qb_N ed m, a, ow, de, dr) (f_drawn_2, f_next_3, a_edges_4, a_has_5, a_val_6))))) (nI m, nx, eg, hs, vl) := by
        refine qy_replay H hE (fun hs' h' => ?_)
        have key : wY_owner_13 (fun r' v' => r' = -1 ∧ i_Rel (k + 3) (nI m, nI (qb_F ed m), qb_N ed m, a, ow, de, dr) v') v1 v2 (nI m) (qb_N ed m) eg hs' vl := by
          unfold wY_owner_13
          exact br_f (fun z => h2 (Or.inl z)) (br_f (fun z => h2 (Or.inr z)) ⟨rfl, R hs'⟩)
        exact br_c (fun _ => key) (fun z => br_t (h1.resolve_left z) key)
      have h1a : ¬ v1 < 0 := by rcases h1 with rfl | rfl <;> decide
      have h1b : ¬ 1 < v1 := by rcases h1 with rfl | rfl <;> decide
      refine br_f h1a (br_f h1b ?_)
      by_cases z : v2 < 0
      · exact br_t z hy
      · exact br_f z (br_f (Int32.not_le.mpr ((hN h2).resolve_left z)) hy)
  · have hy : ∀ P : Int32 → SY → Prop, (∀ hs', P (-1) (nI m, qb_N ed m, eg, hs', vl)) → wpY_owner P (nI m, nx, eg, hs, vl) v1 v2 := by
      intro P hP
      unfold wpY_owner
      dsimp only
      exact qy_replay H hE (fun hs' h' => br_f (fun z => h1 (Or.inl z)) (br_f (fun z => h1 (Or.inr z)) (hP hs')))
    have hz := hy (fun r' v' => r' = -1 ∧ i_Rel (k + 3) (nI m, nI (qb_F ed m), qb_N ed m, a, ow, de, dr) v') (fun hs' => ⟨rfl, R hs'⟩)
    unfold wpY_owner at hz
    dsimp only at hz
    by_cases z : v1 < 0
    · exact br_t z hz
    · exact br_f z (br_t ((hN h1).resolve_left z) hz)
theorem i_vc_value {k : Nat} {u : SX} {v : SY} (I : i_Rel k u v) (hk : k + 3 ≤ 1536) : wpX_value (fun r => wpY_value (fun r' v' => r' = r ∧ i_Rel (k + 3) u v') v) u := by
  obtain ⟨a, ed, m, T, H, ⟨ow, de, dr, rfl, A⟩, ⟨nx, eg, hs, vl, rfl, hE⟩⟩ := I
  have hm := qb_Hm H
  have hFl := qb_Fl ed m
  unfold wpX_value wpY_value
  dsimp only
  refine qx_many hm (fun h4 => br_t rfl ⟨vp_in_nI hFl (by decide), ?_⟩) (fun h4 => br_f (by decide) ?_)
  · refine qy_many hm (fun _ => br_t rfl (qy_work H hE T (fun vl' hv => ?_))) (fun z => absurd z (by omega))
    refine qy_free H hE ⟨vp_in_nI hFl (by decide), ?_, a, ed, m, T, H, ⟨ow, de, dr, rfl, A⟩, ⟨_, eg, hs, vl', rfl, hE⟩⟩
    rw [nI_clamp (by omega)]
    exact hv _ (qb_sub_r _)
  · exact qy_many hm (fun z => absurd z (by omega)) (fun _ => br_f (by decide) ⟨rfl, a, ed, m, T, H, ⟨ow, de, dr, rfl, A⟩, ⟨nx, eg, hs, vl, rfl, hE⟩⟩)
theorem i_vc_worth {k : Nat} {u : SX} {v : SY} (I : i_Rel k u v) (hk : k + 3 ≤ 1536) (v1 : Int32) : wpX_worth (fun r => wpY_worth (fun r' v' => r' = r ∧ i_Rel (k + 3) u v') v v1) u v1 := by
  obtain ⟨a, ed, m, T, H, ⟨ow, de, dr, rfl, A⟩, ⟨nx, eg, hs, vl, rfl, hE⟩⟩ := I
  have hm := qb_Hm H
  have hFl := qb_Fl ed m
  have R : ∀ vl', i_Rel (k + 3) (nI m, nI (qb_F ed m), qb_N ed m, a, ow, de, dr) (nI m, nx, eg, hs, vl') := fun vl' => ⟨a, ed, m, T, H, ⟨ow, de, dr, rfl, A⟩, ⟨_, eg, hs, vl', rfl, hE⟩⟩
  unfold wpX_worth wpY_worth
  dsimp only
  refine qx_many hm (fun h4 => br_t rfl ?_) (fun h4 => br_f (by decide) (qy_free H hE (qy_many hm (fun z => absurd z (by omega)) (fun _ => br_f (by decide) ⟨rfl, R vl⟩))))
  rcases pk_ix v1 (n := 12) (by decide) with hv | hv | ⟨e, he, rfl⟩
  · exact qx_isFreeN (Or.inl hv) (br_t rfl (qy_free H hE (qy_many hm (fun _ => br_t rfl (br_t hv ⟨rfl, R vl⟩)) (fun z => absurd z (by omega)))))
  · refine qx_isFreeN (Or.inr hv) (br_t rfl (qy_free H hE (qy_many hm (fun _ => br_t rfl (br_c (fun _ => ⟨rfl, R vl⟩) (fun _ => br_t ?_ ⟨rfl, R vl⟩))) (fun z => absurd z (by omega)))))
    exact Int32.lt_of_lt_of_le (by decide) hv
  · refine qx_isFree hFl he (fun hb => br_f (by decide) (qx_worth hFl he ?_)) (fun hb => br_t rfl ?_)
    · refine qy_free H hE (qy_many hm (fun _ => br_t rfl (br_f (nI_pos (by omega)) (br_f (nI_nlt (a := 11) (b := e) (by omega) (by decide)) ?_))) (fun z => absurd z (by omega)))
      rw [qb_bitY0 hFl he, hb]
      refine br_f (by decide) (qy_work H hE T (fun vl' hv => qy_worth hFl he ⟨?_, R vl'⟩))
      exact qb_Wc hFl hb (hv _ (qb_sub_cl (qb_sub_r _)))
    · refine qy_free H hE (qy_many hm (fun _ => br_t rfl (br_f (nI_pos (by omega)) (br_f (nI_nlt (a := 11) (b := e) (by omega) (by decide)) ?_))) (fun z => absurd z (by omega)))
      rw [qb_bitY0 hFl he]
      exact br_t (by cases hh : (qb_F ed m).testBit e; rfl; exact absurd hh hb) ⟨rfl, R vl⟩
theorem i_vc_best {k : Nat} {u : SX} {v : SY} (I : i_Rel k u v) (hk : k + 3 ≤ 1536) : wpX_best (fun r => wpY_best (fun r' v' => r' = r ∧ i_Rel (k + 3) u v') v) u := by
  obtain ⟨a, ed, m, T, H, ⟨ow, de, dr, rfl, A⟩, ⟨nx, eg, hs, vl, rfl, hE⟩⟩ := I
  have hm := qb_Hm H
  have R : ∀ vl', i_Rel (k + 3) (nI m, nI (qb_F ed m), qb_N ed m, a, ow, de, dr) (nI m, nx, eg, hs, vl') := fun vl' => ⟨a, ed, m, T, H, ⟨ow, de, dr, rfl, A⟩, ⟨_, eg, hs, vl', rfl, hE⟩⟩
  unfold wpX_best
  dsimp only
  refine qx_many hm (fun h4 => br_t rfl (qx_least (qb_Fl ed m) (qy_best H h4 hE T (fun vl' => ⟨rfl, R vl'⟩)))) (fun h4 => br_f (by decide) ?_)
  unfold wpY_best
  dsimp only
  exact qy_many hm (fun z => absurd z (by omega)) (fun _ => br_f (by decide) ⟨rfl, R vl⟩)
theorem i_vc_bestEdges {k : Nat} {u : SX} {v : SY} (I : i_Rel k u v) (hk : k + 3 ≤ 1536) : wpX_bestEdges (fun r => wpY_bestEdges (fun r' v' => r' = r ∧ i_Rel (k + 3) u v') v) u := by
  obtain ⟨a, ed, m, T, H, ⟨ow, de, dr, rfl, A⟩, ⟨nx, eg, hs, vl, rfl, hE⟩⟩ := I
  have hm := qb_Hm H
  have R : ∀ vl', i_Rel (k + 3) (nI m, nI (qb_F ed m), qb_N ed m, a, ow, de, dr) (nI m, nx, eg, hs, vl') := fun vl' => ⟨a, ed, m, T, H, ⟨ow, de, dr, rfl, A⟩, ⟨_, eg, hs, vl', rfl, hE⟩⟩
  unfold wpX_bestEdges
  dsimp only
  refine qx_many hm (fun h4 => br_t rfl (Exists.intro 13 (qx_bs (qb_Fl ed m) 12 0 0 rfl (qy_bestEdges H h4 hE T (fun vl' => ⟨rfl, R vl'⟩))))) (fun h4 => br_f (by decide) ?_)
  unfold wpY_bestEdges
  dsimp only
  exact qy_many hm (fun z => absurd z (by omega)) (fun _ => br_f (by decide) ⟨rfl, R vl⟩)
theorem i_vc_forecast {k : Nat} {u : SX} {v : SY} (I : i_Rel k u v) (hk : k + 3 ≤ 1536) (v1 : Int32) : wpX_forecast (fun r => wpY_forecast (fun r' v' => r' = r ∧ i_Rel (k + 3) u v') v v1) u v1 := by
  obtain ⟨a, ed, m, T, H, ⟨ow, de, dr, rfl, A⟩, ⟨nx, eg, hs, vl, rfl, hE⟩⟩ := I
  have hm := qb_Hm H
  have R : i_Rel (k + 3) (nI m, nI (qb_F ed m), qb_N ed m, a, ow, de, dr) (nI m, nx, eg, hs, vl) := ⟨a, ed, m, T, H, ⟨ow, de, dr, rfl, A⟩, ⟨_, eg, hs, vl, rfl, hE⟩⟩
  unfold wpX_forecast wpY_forecast
  dsimp only
  refine qx_player (fun hp => br_f (by decide) (qx_many hm (fun h4 => br_t rfl (qx_boxesOf ?_)) (fun h4 => br_f (by decide) ?_))) (fun hp => br_t rfl (br_f (fun z => hp (Or.inl z)) (br_f (fun z => hp (Or.inr z)) ⟨rfl, R⟩)))
  · obtain ⟨t, ed', H', hed, _, iY, iF⟩ := qb_play T 12 12 0 m ed rfl H h4
    rw [qb_ctc v1 A.1]
    refine Exists.intro 13 (iF rfl _ v1 _ _ _ _ _ _ hp ?_)
    have key : wY_forecast_11 (fun r' v' => r' = nI (qb_ct (qb_O ed' (m + t)) v1) ∧ i_Rel (k + 3) (nI m, nI (qb_F ed m), qb_N ed m, a, ow, de, dr) v') v1 (nI m) nx eg hs vl := by
      unfold wY_forecast_11
      refine qy_many hm (fun _ => br_t rfl ?_) (fun z => absurd z (by omega))
      unfold wpY_playOut
      dsimp only
      refine qy_many hm (fun _ => br_t rfl (Exists.intro 13 (iY _ nx eg hs vl hE (fun v' hv' => ?_)))) (fun z => absurd z (by omega))
      obtain ⟨nx', eg', hs', vl', rfl, hE'⟩ := hv'
      dsimp only
      refine qy_boxes H' hE' hp (fun hs2 => ⟨rfl, a, ed, m, T, H, ⟨ow, de, dr, rfl, A⟩, ⟨_, eg', hs2, vl', rfl, fun i hi => ?_⟩⟩)
      rw [hE' i (by omega), hed i hi]
    exact br_c (fun _ => key) (fun z => br_t (hp.resolve_left z) key)
  · have key : wY_forecast_11 (fun r' v' => r' = -100 ∧ i_Rel (k + 3) (nI m, nI (qb_F ed m), qb_N ed m, a, ow, de, dr) v') v1 (nI m) nx eg hs vl := by
      unfold wY_forecast_11
      exact qy_many hm (fun z => absurd z (by omega)) (fun _ => br_f (by decide) ⟨rfl, R⟩)
    exact br_c (fun _ => key) (fun z => br_t (hp.resolve_left z) key)
theorem i_vc_playOut {k : Nat} {u : SX} {v : SY} (I : i_Rel k u v) (hk : k + 3 ≤ 1536) (v1 : Int32) : wpX_playOut (fun r u' => wpY_playOut (fun r' v' => r' = r ∧ i_Rel (k + 3) u' v') v v1) u v1 := by
  obtain ⟨a, ed, m, T, H, ⟨ow, de, dr, rfl, A⟩, ⟨nx, eg, hs, vl, rfl, hE⟩⟩ := I
  have hm := qb_Hm H
  unfold wpX_playOut wpY_playOut
  dsimp only
  refine qx_many hm (fun h4 => br_t rfl ?_) (fun h4 => br_f (by decide) (qy_many hm (fun z => absurd z (by omega)) (fun _ => br_f (by decide) ⟨rfl, a, ed, m, T, H, ⟨ow, de, dr, rfl, A⟩, ⟨nx, eg, hs, vl, rfl, hE⟩⟩)))
  obtain ⟨t, ed', H', hed, iX, iY, _⟩ := qb_play T v1 12 0 m ed rfl H h4
  refine Exists.intro 13 (iX _ ow de dr A (fun u' hu => ?_))
  refine qy_many hm (fun _ => br_t rfl (Exists.intro 13 (iY _ nx eg hs vl hE (fun v' hv' => ?_)))) (fun z => absurd z (by omega))
  exact ⟨rfl, a, ed', m + t, T, H', hu, hv'⟩
