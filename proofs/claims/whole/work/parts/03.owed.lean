/-- the reference keeps the background and the sprite apart; the class keeps the row as it is seen and, while a sprite is shown, what it covers -/
def i_Rel (_ : Nat) (u : SX) (v : SY) : Prop :=
  (∀ j, sv_Fit (v.2.2 j)) ∧ u.1 = v.1 ∧
  ((u.1 = -1 ∧ u.2.1 = v.2.2) ∨
   (∃ p : Nat, p < 8 ∧ u.1 = nI p ∧ u.2.1 = sv_row v.2.2 p (p + sv_len p) v.2.1 ∧ ∀ k, k < sv_len p → u.2.2 k = v.2.2 (p + k)))
theorem i_up {k : Nat} {u : SX} {v : SY} (h : i_Rel k u v) : i_Rel (k + 3) u v := h
theorem i_vc0 (k0 : Int32) : wpX_init (fun u => wpY_init (fun v => i_Rel 1 u v) k0) k0 := by
  have hY : wpY_init (fun v => i_Rel 1 (-1, sv_ini k0 8, fun _ => 0) v) k0 := by
    have h := sv_initY k0 (fun v => i_Rel 1 (-1, sv_ini k0 8, fun _ => 0) v) ⟨fun j => sv_ini_f k0 8 j, rfl, Or.inl ⟨rfl, rfl⟩⟩ 8 0 rfl
    rw [sv_ini_0, nI_0] at h
    exact ⟨9, h⟩
  have h := sv_initX k0 (fun _ => 0) (fun u => wpY_init (fun v => i_Rel 1 u v) k0) hY 8 0 rfl
  rw [sv_ini_0, nI_0] at h
  exact ⟨9, h⟩
theorem sv_hideX {k : Nat} {u : SX} {v : SY} (I : i_Rel k u v) (post : Int32 → SX → Prop) (h : ∀ sv : Nat → Int32, post v.1 (-1, v.2.2, sv)) : wpX_hide post u := by
  obtain ⟨pos, px, sv⟩ := u
  obtain ⟨yp, yc, bg⟩ := v
  obtain ⟨hf, e, hc⟩ := I
  dsimp only at hf e hc h
  subst e
  unfold wpX_hide
  dsimp only
  rcases hc with ⟨e1, e2⟩ | ⟨p, hp, e1, e2, hs⟩
  · subst e1
    subst e2
    exact sv_onF (Or.inl (by decide)) (br_t rfl (h sv))
  · subst e1
    subst e2
    refine sv_onT hp (br_f (by decide) (sv_cov hp ⟨sv_len p + 1, ?_⟩))
    have := sv_hideL bg sv yc (nI p) p (sv_len p) (sv_len4 p) (sv_len8 hp) hf hs post (h sv) (sv_len p) 0 (Nat.zero_add _)
    rw [nI_0] at this
    exact this
theorem i_vc_hide {k : Nat} {u : SX} {v : SY} (I : i_Rel k u v) (hk : k + 3 ≤ 1537) : wpX_hide (fun r u' => wpY_hide (fun r' v' => r' = r ∧ i_Rel (k + 3) u' v') v) u := by
  refine sv_hideX I _ (fun sv => ?_)
  obtain ⟨yp, yc, bg⟩ := v
  exact ⟨rfl, I.1, rfl, Or.inl ⟨rfl, rfl⟩⟩
theorem i_vc_show {k : Nat} {u : SX} {v : SY} (I : i_Rel k u v) (hk : k + 3 ≤ 1537) (v1 : Int32) (v2 : Int32) : wpX_show (fun r u' => wpY_show (fun r' v' => r' = r ∧ i_Rel (k + 3) u' v') v v1 v2) u v1 v2 := by
  obtain ⟨pos, px, sv⟩ := u
  unfold wpX_show
  dsimp only
  refine sv_hideX I _ (fun sv' => ?_)
  obtain ⟨yp, yc, bg⟩ := v
  have hf : ∀ j, sv_Fit (bg j) := I.1
  dsimp only
  rcases pk_ix v1 (n := 8) (by omega) with h | h | ⟨p, hp, rfl⟩
  · exact sv_onF (Or.inl h) (br_t rfl (br_t h ⟨rfl, hf, rfl, Or.inl ⟨rfl, rfl⟩⟩))
  · rw [sv_8] at h
    have h0 : ¬ v1 < 0 := Int32.not_lt.mpr (Int32.le_trans (by decide) h)
    have h7 : ¬ v1 ≤ 7 := Int32.not_le.mpr (Int32.lt_of_lt_of_le (by decide) h)
    exact sv_onF (Or.inr h) (br_t rfl (br_f h0 (br_f h7 ⟨rfl, hf, rfl, Or.inl ⟨rfl, rfl⟩⟩)))
  · refine sv_onT hp (br_f (by decide) (sv_cov hp ⟨sv_len p + 1, ?_⟩))
    have h := sv_showL bg v2 (-1) p (sv_len p) (sv_len4 p) (sv_len8 hp) hf (fun r u' => wpY_show (fun r' v' => r' = r ∧ i_Rel (k + 3) u' v') (yp, yc, bg) (nI p) v2) ?_ (sv_len p) 0 sv' (Nat.zero_add _) (fun i hi => absurd hi (Nat.not_lt_zero i))
    · rw [nI_0, Nat.add_zero p, sv_row_nil] at h
      exact h
    · intro sv2 hs
      have h7 : nI p ≤ (7 : Int32) := by rw [← sv_7]; exact nI_le (by omega) (by omega)
      refine br_f (nI_pos (by omega)) (br_t h7 (fun c ec => ?_))
      rw [sv_mask] at ec
      subst ec
      by_cases h4 : p ≤ 4
      · have e : (4 : Int32) = nI (sv_len p) := by rw [← sv_4]; exact congrArg nI (if_pos h4).symm
        have hb : nI p ≤ (4 : Int32) := by rw [← sv_4]; exact nI_le h4 (by omega)
        exact br_t hb ⟨e, hf, rfl, Or.inr ⟨p, hp, rfl, rfl, hs⟩⟩
      · have e : (8 : Int32) - nI p = nI (sv_len p) := by
          rw [← sv_8, pk_sub (by omega)]
          exact congrArg nI (if_neg h4).symm
        have hb : ¬ nI p ≤ (4 : Int32) := by rw [← sv_4, nI_leI (by omega) (by omega)]; exact h4
        exact br_f hb ⟨e, hf, rfl, Or.inr ⟨p, hp, rfl, rfl, hs⟩⟩
theorem i_vc_peek {k : Nat} {u : SX} {v : SY} (I : i_Rel k u v) (hk : k + 3 ≤ 1537) (v1 : Int32) : wpX_peek (fun r => wpY_peek (fun r' => r' = r ∧ i_Rel (k + 3) u v) v v1) u v1 := by
  have I3 : i_Rel (k + 3) u v := i_up I
  generalize i_Rel (k + 3) u v = R at I3
  obtain ⟨pos, px, sv⟩ := u
  obtain ⟨yp, yc, bg⟩ := v
  obtain ⟨hf, e, hc⟩ := I
  dsimp only at hf e hc
  subst e
  unfold wpX_peek wpY_peek
  dsimp only
  rcases pk_ix v1 (n := 8) (by omega) with h | h | ⟨j, hj, rfl⟩
  · exact sv_onF (Or.inl h) (br_t rfl (br_t h ⟨rfl, I3⟩))
  · rw [sv_8] at h
    have h0 : ¬ v1 < 0 := Int32.not_lt.mpr (Int32.le_trans (by decide) h)
    have h7 : ¬ v1 ≤ 7 := Int32.not_le.mpr (Int32.lt_of_lt_of_le (by decide) h)
    exact sv_onF (Or.inr h) (br_t rfl (br_f h0 (br_f h7 ⟨rfl, I3⟩)))
  · have h0 : ¬ nI j < 0 := nI_pos (by omega)
    have h7 : nI j ≤ (7 : Int32) := by rw [← sv_7]; exact nI_le (by omega) (by omega)
    have hi : vp_in (nI j) 8 := vp_in_nI hj (by omega)
    refine sv_onT hj (br_f (by decide) ⟨hi, br_f h0 (br_t h7 ?_)⟩)
    rw [nI_clamp (n := j) (by omega)]
    rcases hc with ⟨e1, e2⟩ | ⟨p, hp, e1, e2, hs⟩
    · subst e1
      subst e2
      exact br_t (by decide) ⟨hi, rfl, I3⟩
    · subst e1
      subst e2
      refine br_f (nI_pos (by omega)) ?_
      by_cases ha : j < p
      · exact br_t (nI_lt ha (by omega)) ⟨hi, (sv_row_lo ha).symm, I3⟩
      · refine br_f (nI_nlt (by omega) (by omega)) ?_
        have e4 : nI p + 4 = nI (p + 4) := by rw [← sv_4]; exact nI_add p 4
        rw [e4]
        by_cases hb : p + 4 ≤ j
        · have hl : p + sv_len p ≤ j := by have := sv_len4 p; omega
          exact br_t (nI_le hb (by omega)) ⟨hi, (sv_row_hi hl).symm, I3⟩
        · exact br_f (nI_ge (by omega) (by omega)) ⟨(sv_row_in (by omega) (sv_lenC hp hj (by omega))).symm, I3⟩
