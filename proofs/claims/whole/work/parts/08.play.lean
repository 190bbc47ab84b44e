/-- X's state after m draws of the history ed; Y's -/
def qb_XA (ed : Nat → Nat) (m : Nat) (ow de dr : Nat → Int32) : Prop := (∀ b, b < 4 → ow b = qb_O ed m b) ∧ (∀ i, i < m → de i = nI (ed i)) ∧ (∀ i, i < m → dr i = qb_N ed i)
def qb_X (a : Nat → Int32) (ed : Nat → Nat) (m : Nat) (u : SX) : Prop := ∃ ow de dr : Nat → Int32, u = (nI m, nI (qb_F ed m), qb_N ed m, a, ow, de, dr) ∧ qb_XA ed m ow de dr
def qb_Y (ed : Nat → Nat) (m : Nat) (v : SY) : Prop := ∃ (nx : Int32) (eg hs vl : Nat → Int32), v = (nI m, nx, eg, hs, vl) ∧ ∀ i, i < m → eg i = nI (ed i)
theorem qb_m12 {ed : Nat → Nat} {m e : Nat} (H : qb_H ed m) (hb : (qb_F ed m).testBit e = true) : m < 12 := by
  have h1 := qb_Hm H
  have h2 : m ≠ 12 := fun z => by
    rw [(qb_F0 H).mpr z, Nat.zero_testBit] at hb
    exact nomatch hb
  omega
theorem qb_YU {ed : Nat → Nat} {m e : Nat} {eg : Nat → Int32} (hE : ∀ i, i < m → eg i = nI (ed i)) : ∀ i, i < m + 1 → upd eg m (nI e) i = nI (qb_up ed m e i) := by
  intro i hi
  by_cases z : i = m
  · subst z; rw [pk_us, qb_ups]
  · rw [pk_un z, qb_upn (by omega)]; exact hE i (by omega)
theorem qx_draw1 {post : Int32 → SX → Prop} {a ow de dr : Nat → Int32} {ed : Nat → Nat} {m e : Nat} (H : qb_H ed m) (A : qb_XA ed m ow de dr) (he : e < 12) (hb : (qb_F ed m).testBit e = true) (h : ∀ ow' de' dr', qb_XA (qb_up ed m e) (m + 1) ow' de' dr' → post (nI (qb_cc (qb_F ed m) e)) (nI (m + 1), nI (qb_F (qb_up ed m e) (m + 1)), qb_N (qb_up ed m e) (m + 1), a, ow', de', dr')) : wpX_drawFree post (nI m, nI (qb_F ed m), qb_N ed m, a, ow, de, dr) (nI e) := by
  refine qx_drawFree (qb_m12 H hb) (qb_Fl ed m) he (fun ow' h' => ?_)
  have h2 := h ow' (upd de m (nI e)) (upd dr m (qb_N ed m)) ⟨fun b hb4 => ?_, qb_YU A.2.1, fun i hi => ?_⟩
  · rw [qb_upF1, qb_upN1] at h2
    exact h2
  · rw [h' b hb4, qb_upO1, A.1 b hb4]
  · rw [qb_upN (by omega)]
    by_cases z : i = m
    · subst z; rw [pk_us]
    · rw [pk_un z]; exact A.2.2 i (by omega)
theorem qx_f90 {post : Int32 → Prop} {J : Int32 → Int32 → Int32 → Int32 → Prop} {x1 x2 x3 dc fe np : Int32} {a ow de dr : Nat → Int32} {p e k : Nat} (hp : p < 4096) (he : e < 12) (h : J x2 x3 (nI (qb_cl p e)) (nI (k + 1))) : wX_forecast_90 post J x1 x2 x3 (nI p) (nI k) (nI e) dc fe np a ow de dr :=
  nm_r (qb_clI hp he) (nm_r (nI_1 k) h)
/-- the draws that best names, up to n of them: both sides end in the same history; forecast's walk ends with its count -/
theorem qb_play {a : Nat → Int32} (T : qb_Tab a 4096) (n : Int32) : ∀ d k m ed, k + d = 12 → qb_H ed m → 4 ≤ m → ∃ t ed', qb_H ed' (m + t) ∧ (∀ i, i < m → ed' i = ed i) ∧
    (∀ (post : Int32 → SX → Prop) (ow de dr : Nat → Int32), qb_XA ed m ow de dr → (∀ u', qb_X a ed' (m + t) u' → post (nI (k + t)) u') → wX_playOut_12 post n (d + 1) (nI k) (nI m) (nI (qb_F ed m)) (qb_N ed m) a ow de dr) ∧
    (∀ (post : Int32 → SY → Prop) (nx : Int32) (eg hs vl : Nat → Int32), (∀ i, i < m → eg i = nI (ed i)) → (∀ v', qb_Y ed' (m + t) v' → post (nI (k + t)) v') → wY_playOut_14 post n (d + 1) (nI k) (nI k) (nI m) nx eg hs vl) ∧
    (n = 12 → ∀ (post : Int32 → Prop) (pl dc fe np : Int32) (ow de dr : Nat → Int32), pl = 0 ∨ pl = 1 → post (nI (qb_ct (qb_O ed' (m + t)) pl)) → wX_forecast_39 post pl dc fe np a ow de dr (d + 1) (nI (qb_ct (qb_O ed m) pl)) (qb_N ed m) (nI (qb_F ed m)) (nI k)) := by
  intro d
  induction d with
  | zero =>
    intro k m ed hk H h4
    refine ⟨0, ed, H, fun _ _ => rfl, fun post ow de dr A h => ?_, fun post nx eg hs vl hE h => ?_, fun hn post pl dc fe np ow de dr hp h => ?_⟩
    · have h2 := h _ ⟨ow, de, dr, rfl, A⟩
      exact br_c (fun _ => h2) (fun _ => pk_le 12 k (fun _ => h2) (fun z => absurd z (by omega)))
    · have h2 := h _ ⟨nx, eg, hs, vl, rfl, hE⟩
      exact br_c (fun _ => h2) (fun _ => pk_le 12 k (fun _ => h2) (fun z => absurd z (by omega)))
    · exact pk_le 12 k (fun _ => h) (fun z => absurd z (by omega))
  | succ d ih =>
    intro k m ed hk H h4
    have hm := qb_Hm H
    have hF := qb_F0 H
    have hFl := qb_Fl ed m
    by_cases hend : n ≤ nI k ∨ m = 12
    · refine ⟨0, ed, H, fun _ _ => rfl, fun post ow de dr A h => ?_, fun post nx eg hs vl hE h => ?_, fun hn post pl dc fe np ow de dr hp h => ?_⟩
      · have h2 := h _ ⟨ow, de, dr, rfl, A⟩
        exact br_c (fun _ => h2) (fun w => pk_le 12 k (fun _ => h2) (fun _ => pk_eq (qb_F ed m) 0 (fun _ => h2) (fun z => absurd (hF.mpr (hend.resolve_left w)) z)))
      · have h2 := h _ ⟨nx, eg, hs, vl, rfl, hE⟩
        exact br_c (fun _ => h2) (fun w => pk_le 12 k (fun _ => h2) (fun _ => pk_le 12 m (fun _ => h2) (fun z => absurd (hend.resolve_left w) (by omega))))
      · subst hn
        exact br_c (fun _ => h) (fun w => pk_eq (qb_F ed m) 0 (fun _ => h) (fun z => absurd (hF.mpr (hend.resolve_left w)) z))
    · have hn1 : ¬ n ≤ nI k := fun z => hend (Or.inl z)
      have hm1 : m < 12 := by
        have : m ≠ 12 := fun z => hend (Or.inr z)
        omega
      have hF1 : qb_F ed m ≠ 0 := fun z => by
        have := hF.mp z
        omega
      obtain ⟨e, he, hb, hlb⟩ := qb_lbT T hF1 hFl
      obtain ⟨t, ed', H', hed, iX, iY, iF⟩ := ih (k + 1) (m + 1) (qb_up ed m e) (by omega) (qb_upH H he hb) (by omega)
      rw [show m + 1 + t = m + (t + 1) from by omega] at H' iX iY iF
      rw [show k + 1 + t = k + (t + 1) from by omega] at iX iY
      refine ⟨t + 1, ed', H', fun i hi => by rw [hed i (by omega), qb_upn hi], fun post ow de dr A h => ?_, fun post nx eg hs vl hE h => ?_, fun hn post pl dc fe np ow de dr hp h => ?_⟩
      · refine br_f hn1 (pk_le 12 k (fun z => absurd z (by omega)) (fun _ => pk_eq (qb_F ed m) 0 (fun z => absurd z hF1) (fun _ => qx_least hFl ?_)))
        rw [hlb]
        exact qx_draw1 H A he hb (fun ow' de' dr' A' => nm_r (nI_1 k) (iX post ow' de' dr' A' h))
      · refine br_f hn1 (pk_le 12 k (fun z => absurd z (by omega)) (fun _ => pk_le 12 m (fun z => absurd z (by omega)) (fun _ => qy_best H h4 hE T (fun vl' => ?_))))
        dsimp only
        rw [hlb]
        exact qy_draw H hE he hb (nm_r (nI_1 k) (nm_r (nI_1 k) (iY post nx _ hs vl' (qb_YU hE) h)))
      · refine pk_le 12 k (fun z => absurd z (by omega)) (fun _ => pk_eq (qb_F ed m) 0 (fun z => absurd z hF1) (fun _ => qx_least hFl ?_))
        rw [hlb]
        have hc := qb_cc4 (qb_F ed m) e
        have h2 := iF hn post pl dc fe np ow de dr hp h
        rw [qb_ct1 hp, qb_upN1, qb_upF1] at h2
        refine qx_comp hFl he (pk_eq (qb_cc (qb_F ed m) e) 0 (fun z => nm_e (qx_f90 hFl he ?_)) (fun z => br_c (fun w => nm_r (nI_add _ _) (qx_f90 hFl he ?_)) (fun w => qx_f90 hFl he ?_)))
        · rw [if_pos z, z] at h2
          rw [show (if qb_N ed m = pl then 0 else 0) = 0 from by split <;> rfl] at h2
          exact h2
        · rw [if_neg z, if_pos w] at h2
          exact h2
        · rw [if_neg z, if_neg w] at h2
          exact h2
