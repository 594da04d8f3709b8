/-! the class's walks, each over a general post -/
theorem sv_initX (s : Int32) (sv : Nat → Int32) (post : SX → Prop) (hp : post (-1, sv_ini s 8, sv)) : ∀ d j : Nat, j + d = 8 → wX_init_26 post s (-1) (d + 1) (nI j) (sv_ini s j) sv := by
  intro d
  induction d with
  | zero =>
    intro j hj
    have e : j = 8 := by omega
    subst e
    exact br_t (by rw [sv_8]; decide) hp
  | succ d ih =>
    intro j hj
    have h : ¬ (8 : Int32) ≤ nI j := by rw [← sv_8]; exact nI_ge (by omega) (by omega)
    have hi : vp_in (nI j) 8 := vp_in_nI (by omega) (by omega)
    refine br_f h ⟨hi, fun a ea x ex => ?_⟩
    subst ea
    subst ex
    rw [nI_1 j, nI_clamp (n := j) (by omega), pk_vc, sv_ini_s]
    exact ih (j + 1) (by omega)
theorem sv_initY (s : Int32) (post : SY → Prop) (hp : post (-1, 0, sv_ini s 8)) : ∀ d j : Nat, j + d = 8 → wY_init_24 post s (-1) 0 (d + 1) (nI j) (sv_ini s j) := by
  intro d
  induction d with
  | zero =>
    intro j hj
    have e : j = 8 := by omega
    subst e
    exact br_t (by rw [sv_8]; decide) hp
  | succ d ih =>
    intro j hj
    have h : ¬ (8 : Int32) ≤ nI j := by rw [← sv_8]; exact nI_ge (by omega) (by omega)
    have hi : vp_in (nI j) 8 := vp_in_nI (by omega) (by omega)
    refine br_f h ⟨hi, fun a ea x ex => ?_⟩
    subst ea
    subst ex
    rw [nI_1 j, nI_clamp (n := j) (by omega), pk_vc, sv_ini_s]
    exact ih (j + 1) (by omega)
theorem sv_onT {post : Int32 → Prop} {j : Nat} (h : j < 8) (hp : post 1) : wpX_isOnRow post (nI j) :=
  br_f (nI_pos (by omega)) (br_f (by rw [← sv_8]; exact nI_ge h (by omega)) hp)
theorem sv_onF {post : Int32 → Prop} {x : Int32} (h : x < 0 ∨ 8 ≤ x) (hp : post 0) : wpX_isOnRow post x := by
  by_cases h0 : x < 0
  · exact br_t h0 hp
  · exact br_f h0 (br_t (h.resolve_left h0) hp)
theorem sv_cov {post : Int32 → Prop} {p : Nat} (h : p < 8) (hp : post (nI (sv_len p))) : wpX_coveredFrom post (nI p) := by
  intro x ex
  have e : x = nI (8 - p) := by
    rw [ex, ← sv_8]
    exact pk_sub (by omega)
  subst e
  unfold sv_len at hp
  by_cases h4 : p ≤ 4
  · rw [if_pos h4, sv_4] at hp
    exact br_t (by rw [← sv_4]; exact nI_le (by omega) (by omega)) hp
  · rw [if_neg h4] at hp
    exact br_f (by rw [← sv_4]; exact nI_ge (by omega) (by omega)) hp
theorem sv_hideL (bg sv : Nat → Int32) (c g : Int32) (p L : Nat) (hL : L ≤ 4) (hp : p + L ≤ 8) (hf : ∀ j, sv_Fit (bg j)) (hs : ∀ k, k < L → sv k = bg (p + k)) (post : Int32 → SX → Prop) (h : post (nI p) (-1, bg, sv)) : ∀ d k : Nat, k + d = L → wX_hide_21 post (nI p) (nI L) g (d + 1) (nI k) (sv_row bg (p + k) (p + L) c) sv := by
  intro d
  induction d with
  | zero =>
    intro k hk
    have e : k = L := by omega
    rw [e, sv_row_nil]
    exact br_t (nI_le (by omega) (by omega)) h
  | succ d ih =>
    intro k hk
    have h1 : ¬ nI L ≤ nI k := nI_ge (by omega) (by omega)
    have h2 : vp_in (nI k) 4 := vp_in_nI (by omega) (by omega)
    have h3 : vp_in (nI p + nI k) 8 := by rw [nI_add]; exact vp_in_nI (by omega) (by omega)
    refine br_f h1 ⟨h2, h3, fun a ea x ex => ?_⟩
    subst ea
    subst ex
    rw [nI_add p k, nI_clamp (n := p + k) (by omega), nI_clamp (n := k) (by omega), hs k (by omega), sv_fitV (hf (p + k)), sv_row_un, nI_1 k]
    exact ih (k + 1) (by omega)
theorem sv_showL (bg : Nat → Int32) (col g : Int32) (p L : Nat) (hL : L ≤ 4) (hp : p + L ≤ 8) (hf : ∀ j, sv_Fit (bg j)) (post : Int32 → SX → Prop) (h : ∀ sv : Nat → Int32, (∀ k, k < L → sv k = bg (p + k)) → post (nI L) (nI p, sv_row bg p (p + L) (col.toUInt32 % 65536).toInt32, sv)) : ∀ (d k : Nat) (sv : Nat → Int32), k + d = L → (∀ i, i < k → sv i = bg (p + i)) → wX_show_22 post (nI p) col (nI L) g (d + 1) (nI k) (sv_row bg p (p + k) (col.toUInt32 % 65536).toInt32) sv := by
  intro d
  induction d with
  | zero =>
    intro k sv hk hs
    have e : k = L := by omega
    subst e
    exact br_t (nI_le (by omega) (by omega)) (h sv hs)
  | succ d ih =>
    intro k sv hk hs
    have h1 : ¬ nI L ≤ nI k := nI_ge (by omega) (by omega)
    have h2 : vp_in (nI k) 4 := vp_in_nI (by omega) (by omega)
    have h3 : vp_in (nI p + nI k) 8 := by rw [nI_add]; exact vp_in_nI (by omega) (by omega)
    refine br_f h1 ⟨h3, h2, fun a ea => ⟨h3, fun b eb x ex => ?_⟩⟩
    subst ea
    subst eb
    subst ex
    rw [nI_add p k, nI_clamp (n := p + k) (by omega), nI_clamp (n := k) (by omega), sv_row_hi (Nat.le_refl (p + k)), sv_fitV (hf (p + k)), pk_vc, sv_row_pt (by omega), nI_1 k]
    refine ih (k + 1) _ (by omega) (fun i hi => ?_)
    by_cases z : i = k
    · subst z
      exact pk_us
    · rw [pk_un z]
      exact hs i (by omega)
