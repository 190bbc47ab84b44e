section
variable {dc fe np : Int32} {a ow de dr : Nat → Int32} {p e : Nat}
/-- one entry more of the table -/
theorem qb_Tup {a : Nat → Int32} {i : Nat} (h0 : 0 < i) (hi : i < 4096) (T : qb_Tab a i) : qb_Tab (upd a i (qb_gs a i 12 0 (-5))) (i + 1) := by
  have key : ∀ q, q ≤ i → qb_gs a q 12 0 (-5) = qb_gs (upd a i (qb_gs a i 12 0 (-5))) q 12 0 (-5) := by
    intro q hq
    apply qb_gsc _ (by omega)
    intro e he
    have := qb_cl_lt (by omega) he
    rw [pk_un (by omega)]
  constructor
  · rw [pk_un (by omega)]; exact T.1
  · intro q h1 h2
    rw [← key q (by omega)]
    by_cases z : q = i
    · subst z; rw [pk_us]
    · rw [pk_un z]; exact T.2 q h1 (by omega)
theorem qx_fl {post : SX → Prop} : ∀ d i a, i + d = 4096 → 0 < i → qb_Tab a i → (∀ a', qb_Tab a' 4096 → post (dc, fe, np, a', ow, de, dr)) → wX_fillValues_9 post dc fe np (d + 1) (nI i) a ow de dr := by
  intro d
  induction d with
  | zero =>
    intro i a hi h0 T h
    exact pk_le 4096 i (fun _ => h a (by rw [← hi]; exact T)) (fun z => absurd z (by omega))
  | succ d ih =>
    intro i a hi h0 T h
    refine pk_le 4096 i (fun z => absurd z (by omega)) (fun _ => qx_great (by omega) ⟨vp_in_nI (by omega) (by decide), ?_⟩)
    rw [nI_clamp (by omega)]
    exact nm_e (nm_r (nI_1 i) (ih (i + 1) _ (by omega) (by omega) (qb_Tup h0 (by omega) T) h))
theorem qx_fill {post : SX → Prop} (h : ∀ a', qb_Tab a' 4096 → post (dc, fe, np, a', ow, de, dr)) : wpX_fillValues post (dc, fe, np, a, ow, de, dr) := by
  unfold wpX_fillValues
  dsimp only
  refine nm_e (Exists.intro (4095 + 1) (qx_fl 4095 1 _ rfl (by decide) ⟨pk_us, fun q h1 h2 => absurd h2 (by omega)⟩ h))
theorem qx_bg {post : SX → Prop} : ∀ d j ow, j + d = 4 → (∀ b, b < j → ow b = -1) → (∀ ow', (∀ b, b < 4 → ow' b = -1) → post (dc, fe, np, a, ow', de, dr)) → wX_beginGame_19 post dc fe np (d + 1) (nI j) a ow de dr := by
  intro d
  induction d with
  | zero =>
    intro j ow hj ho h
    exact pk_le 4 j (fun _ => h ow (by rw [← hj]; exact ho)) (fun z => absurd z (by omega))
  | succ d ih =>
    intro j ow hj ho h
    refine pk_le 4 j (fun z => absurd z (by omega)) (fun _ => ⟨vp_in_nI (by omega) (by decide), ?_⟩)
    rw [nI_clamp (by omega)]
    refine nm_e (nm_r (nI_1 j) (ih (j + 1) _ (by omega) (fun b hb => ?_) h))
    by_cases z : b = j
    · subst z; exact pk_us
    · rw [pk_un z]; exact ho b (by omega)
theorem qx_begin {post : SX → Prop} (h : ∀ ow', (∀ b, b < 4 → ow' b = -1) → post (0, 4095, 0, a, ow', de, dr)) : wpX_beginGame post (dc, fe, np, a, ow, de, dr) := by
  unfold wpX_beginGame
  dsimp only
  exact Exists.intro 5 (qx_bg 4 0 ow rfl (fun b hb => absurd hb (by omega)) h)
theorem qx_df {post : Int32 → SX → Prop} {m C : Nat} (hm : m < 12) (hp : p < 4096) (he : e < 12) : ∀ d j c ow, j + d = 4 → c ≤ j → qb_cs p e d j c = C → (∀ ow', (∀ b, b < 4 → ow' b = if j ≤ b ∧ qb_l b e p = true then np else ow b) → post (nI C) (nI (m + 1), nI (qb_cl p e), if C = 0 then 1 - np else np, a, ow', upd de m (nI e), upd dr m np)) → wX_drawFree_4 post (nI e) (nI m) (nI p) np (d + 1) (nI c) (nI j) a ow de dr := by
  intro d
  induction d with
  | zero =>
    intro j c ow hj hc hC h
    have hC : c = C := hC
    subst hC
    have h2 := h ow (fun b hb => (if_neg (by omega)).symm)
    refine pk_le 4 j (fun _ => ⟨vp_in_nI (by omega) (by decide), ?_⟩) (fun z => absurd z (by omega))
    rw [nI_clamp (by omega)]
    refine nm_e ⟨vp_in_nI (by omega) (by decide), nm_e (nm_r (nI_1 m) (nm_r (qb_clI hp he) (pk_eq c 0 (fun z => nm_e ?_) (fun z => ?_))))⟩
    · rw [if_pos z] at h2; exact h2
    · rw [if_neg z] at h2; exact h2
  | succ d ih =>
    intro j c ow hj hc hC h
    refine pk_le 4 j (fun z => absurd z (by omega)) (fun _ => qx_last (by omega) he hp (fun z => ?_) (fun z => ?_))
    · refine br_f (by decide) ⟨vp_in_nI (by omega) (by decide), ?_⟩
      rw [nI_clamp (by omega)]
      refine nm_e (nm_r (nI_1 c) (nm_r (nI_1 j) (ih (j + 1) (c + 1) _ (by omega) (by omega) (by rw [← hC, qb_cs1 z]) (fun ow' h' => h ow' ?_))))
      exact qb_stp1 (fun b => qb_l b e p) z h'
    · refine br_t rfl (nm_r (nI_1 j) (ih (j + 1) c ow (by omega) (by omega) (by rw [← hC, qb_cs0 z]) (fun ow' h' => h ow' ?_)))
      exact qb_stp0 (fun b => qb_l b e p) z h'
theorem qx_drawFree {post : Int32 → SX → Prop} {m : Nat} (hm : m < 12) (hp : p < 4096) (he : e < 12) (h : ∀ ow', (∀ b, b < 4 → ow' b = if qb_l b e p = true then np else ow b) → post (nI (qb_cc p e)) (nI (m + 1), nI (qb_cl p e), if qb_cc p e = 0 then 1 - np else np, a, ow', upd de m (nI e), upd dr m np)) : wpX_drawFree post (nI m, nI p, np, a, ow, de, dr) (nI e) := by
  unfold wpX_drawFree
  dsimp only
  refine Exists.intro 5 (qx_df (C := qb_cc p e) hm hp he 4 0 0 ow rfl (by omega) rfl (fun ow' h' => h ow' fun b hb => ?_))
  rw [h' b hb]
  simp only [Nat.zero_le, true_and]
theorem qx_bk {post : Int32 → SX → Prop} (hp : p < 4096) (he : e < 12) : ∀ d j ow, j + d = 4 → (∀ ow', (∀ b, b < 4 → ow' b = if j ≤ b ∧ qb_l b e p = true then -1 else ow b) → post (nI e) (dc, nI p, np, a, ow', de, dr)) → wX_back_56 post (nI e) dc (nI p) np (d + 1) (nI j) a ow de dr := by
  intro d
  induction d with
  | zero =>
    intro j ow hj h
    exact pk_le 4 j (fun _ => h ow (fun b hb => (if_neg (by omega)).symm)) (fun z => absurd z (by omega))
  | succ d ih =>
    intro j ow hj h
    refine pk_le 4 j (fun z => absurd z (by omega)) (fun _ => qx_last (by omega) he hp (fun z => ?_) (fun z => ?_))
    · refine br_f (by decide) ⟨vp_in_nI (by omega) (by decide), ?_⟩
      rw [nI_clamp (by omega)]
      refine nm_e (nm_r (nI_1 j) (ih (j + 1) _ (by omega) (fun ow' h' => h ow' ?_)))
      exact qb_stp1 (fun b => qb_l b e p) z h'
    · refine br_t rfl (nm_r (nI_1 j) (ih (j + 1) ow (by omega) (fun ow' h' => h ow' ?_)))
      exact qb_stp0 (fun b => qb_l b e p) z h'
theorem qx_back {post : Int32 → SX → Prop} (hp : p < 4096) (he : e < 12) (h : ∀ ow', (∀ b, b < 4 → ow' b = if qb_l b e p = true then -1 else ow b) → post (nI e) (dc, nI p, np, a, ow', de, dr)) : ∃ n56 : Nat, wX_back_56 post (nI e) dc (nI p) np n56 0 a ow de dr := by
  refine Exists.intro 5 (qx_bk hp he 4 0 ow rfl (fun ow' h' => h ow' fun b hb => ?_))
  rw [h' b hb]
  simp only [Nat.zero_le, true_and]
end
