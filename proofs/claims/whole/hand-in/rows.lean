section
/-! rows pasted from the given rows (starting texts) -/
theorem pk_us {f : Nat → Int32} {k : Nat} {x : Int32} : upd f k x k = x := if_pos rfl
theorem pk_un {f : Nat → Int32} {k j : Nat} {x : Int32} (h : j ≠ k) : upd f k x j = f j := if_neg h
theorem pk_sub {a b : Nat} (h : b ≤ a) : nI a - nI b = nI (a - b) := by
  obtain ⟨c, rfl⟩ : ∃ c, a = c + b := ⟨a - b, by omega⟩
  rw [← nI_add, Int32.add_sub_cancel, Nat.add_sub_cancel]
theorem pk_ix (x : Int32) {n : Nat} (hn : n < 2 ^ 31) : x < 0 ∨ nI n ≤ x ∨ ∃ j : Nat, j < n ∧ x = nI j := by
  by_cases h : x < 0
  · exact Or.inl h
  · obtain ⟨j, hj, rfl⟩ := nI_of h
    by_cases h2 : j < n
    · exact Or.inr (Or.inr ⟨j, h2, rfl⟩)
    · exact Or.inr (Or.inl (nI_le (by omega) hj))
theorem pk_tn {n : Nat} (h : n < 2 ^ 32) : (nI n).toBitVec.toNat = n := Nat.mod_eq_of_lt h
theorem pk_and (x : Int32) {m : Int32} (k : Nat) (hm : m.toBitVec.toNat = 2 ^ k - 1) : x &&& m = nI (x.toBitVec.toNat % 2 ^ k) := by
  apply Int32.toBitVec_inj.mp
  apply BitVec.eq_of_toNat_eq
  rw [Int32.toBitVec_and, BitVec.toNat_and, hm, Nat.and_two_pow_sub_one_eq_mod]
  show _ = (BitVec.ofNat 32 _).toNat
  rw [BitVec.toNat_ofNat]
  exact (Nat.mod_eq_of_lt (Nat.lt_of_le_of_lt (Nat.mod_le _ _) x.toBitVec.isLt)).symm
theorem pk_charN {q : Nat} (hq : q < 65536) : narrow .char (.int (nI q)) = .int (nI q) ∧ fits .char (.int (nI q)) = true := by
  constructor
  · have e : (nI q).toUInt32.toUInt16.toUInt32.toInt32 = nI q := by
      apply Int32.toBitVec_inj.mp
      apply BitVec.eq_of_toNat_eq
      show (nI q).toUInt32.toUInt16.toUInt32.toNat = q % 2 ^ 32
      rw [UInt16.toNat_toUInt32, UInt32.toNat_toUInt16, show (nI q).toUInt32.toNat = q % 2 ^ 32 from rfl]
      omega
    exact congrArg Value.int e
  · have a : (0 : Int32) ≤ nI q := nI_pos' (by omega)
    have b : nI q ≤ 65535 := nI_le (b := 65535) (by omega) (by decide)
    show (decide ((0 : Int32) ≤ nI q) && decide (nI q ≤ 65535)) = true
    rw [decide_eq_true a, decide_eq_true b]
    rfl
theorem pk_char (x : Int32) : (x.toUInt32 % 65536).toInt32 = nI (x.toBitVec.toNat % 65536) := by
  apply Int32.toBitVec_inj.mp
  apply BitVec.eq_of_toNat_eq
  rw [pk_tn (by omega)]
  show (x.toUInt32 % 65536).toNat = _
  rw [UInt32.toNat_mod]
  rfl
theorem pk_nc (x : Int32) : narrow .char (.int (x.toUInt32 % 65536).toInt32) = .int (x.toUInt32 % 65536).toInt32 := by
  rw [pk_char]
  exact (pk_charN (Nat.mod_lt _ (by decide))).1
theorem pk_vc (z : Int32) : vp_nar .char (z.toUInt32 % 65536).toInt32 = (z.toUInt32 % 65536).toInt32 := Value.int.inj (pk_nc z)
/-! the class's own mathematics -/
/-- a value that a char holds -/
def sv_Fit (x : Int32) : Prop := ∃ q : Nat, q < 65536 ∧ x = nI q
/-- how many pixels a sprite at p covers -/
def sv_len (p : Nat) : Nat := if p ≤ 4 then 4 else 8 - p
/-- the background, painted with c from a up to b -/
def sv_row (bg : Nat → Int32) (a b : Nat) (c : Int32) : Nat → Int32 := fun j => if a ≤ j ∧ j < b then c else bg j
/-- the row of a seed, its first m pixels -/
def sv_ini (s : Int32) (m : Nat) : Nat → Int32 := fun j => if j < m then ((s * nI (j + 1)).toUInt32 % 65536).toInt32 else 0
theorem sv_8 : nI 8 = 8 := by decide +kernel
theorem sv_7 : nI 7 = 7 := by decide +kernel
theorem sv_4 : nI 4 = 4 := by decide +kernel
theorem sv_fitV {x : Int32} (h : sv_Fit x) : vp_nar .char x = x := by
  obtain ⟨q, hq, rfl⟩ := h
  exact Value.int.inj (pk_charN hq).1
theorem sv_fitC (x : Int32) : sv_Fit (x.toUInt32 % 65536).toInt32 := ⟨_, Nat.mod_lt _ (by decide), pk_char x⟩
theorem sv_mask (x : Int32) : x &&& 65535 = (x.toUInt32 % 65536).toInt32 := by
  rw [pk_char, pk_and x 16 (by decide)]
theorem sv_len4 (p : Nat) : sv_len p ≤ 4 := by
  unfold sv_len
  by_cases h : p ≤ 4
  · rw [if_pos h]; omega
  · rw [if_neg h]; omega
theorem sv_len8 {p : Nat} (hp : p < 8) : p + sv_len p ≤ 8 := by
  unfold sv_len
  by_cases h : p ≤ 4
  · rw [if_pos h]; omega
  · rw [if_neg h]; omega
theorem sv_lenC {p j : Nat} (hp : p < 8) (hj : j < 8) (h : j < p + 4) : j < p + sv_len p := by
  unfold sv_len
  by_cases h : p ≤ 4
  · rw [if_pos h]; omega
  · rw [if_neg h]; omega
theorem sv_row_nil {bg : Nat → Int32} {a : Nat} {c : Int32} : sv_row bg a a c = bg := by
  funext j
  exact if_neg (by omega)
theorem sv_row_in {bg : Nat → Int32} {a b j : Nat} {c : Int32} (h1 : a ≤ j) (h2 : j < b) : sv_row bg a b c j = c := if_pos ⟨h1, h2⟩
theorem sv_row_lo {bg : Nat → Int32} {a b j : Nat} {c : Int32} (h : j < a) : sv_row bg a b c j = bg j := if_neg (by omega)
theorem sv_row_hi {bg : Nat → Int32} {a b j : Nat} {c : Int32} (h : b ≤ j) : sv_row bg a b c j = bg j := if_neg (by omega)
theorem sv_row_un {bg : Nat → Int32} {a b : Nat} {c : Int32} : upd (sv_row bg a b c) a (bg a) = sv_row bg (a + 1) b c := by
  funext j
  by_cases z : j = a
  · subst z
    rw [pk_us, sv_row_lo (by omega)]
  · rw [pk_un z]
    by_cases h : a ≤ j ∧ j < b
    · rw [sv_row_in h.1 h.2, sv_row_in (by omega) h.2]
    · by_cases h2 : j < a
      · rw [sv_row_lo h2, sv_row_lo (by omega)]
      · rw [sv_row_hi (by omega), sv_row_hi (by omega)]
theorem sv_row_pt {bg : Nat → Int32} {a b : Nat} {c : Int32} (hab : a ≤ b) : upd (sv_row bg a b c) b c = sv_row bg a (b + 1) c := by
  funext j
  by_cases z : j = b
  · subst z
    rw [pk_us, sv_row_in hab (by omega)]
  · rw [pk_un z]
    by_cases h2 : j < a
    · rw [sv_row_lo h2, sv_row_lo h2]
    · by_cases h3 : j < b
      · rw [sv_row_in (by omega) h3, sv_row_in (by omega) (by omega)]
      · rw [sv_row_hi (by omega), sv_row_hi (by omega)]
theorem sv_ini_0 (s : Int32) : sv_ini s 0 = fun _ => 0 := by
  funext j
  exact if_neg (Nat.not_lt_zero j)
theorem sv_ini_s (s : Int32) (m : Nat) : upd (sv_ini s m) m ((s * nI (m + 1)).toUInt32 % 65536).toInt32 = sv_ini s (m + 1) := by
  funext j
  by_cases z : j = m
  · subst z
    rw [pk_us]
    exact (if_pos (Nat.lt_succ_self j)).symm
  · rw [pk_un z]
    by_cases h : j < m
    · exact (if_pos h).trans (if_pos (show j < m + 1 by omega)).symm
    · exact (if_neg h).trans (if_neg (show ¬ j < m + 1 by omega)).symm
theorem sv_ini_f (s : Int32) (m j : Nat) : sv_Fit (sv_ini s m j) := by
  unfold sv_ini
  by_cases h : j < m
  · rw [if_pos h]; exact sv_fitC _
  · rw [if_neg h]; exact ⟨0, by decide, nI_0.symm⟩
end
section
/-! the class's walks, each over a general post -/
theorem sv_initX (s : Int32) (sv : Nat → Int32) (post : SX → Prop) (hp : post (-1, sv_ini s 8, sv)) : ∀ d j : Nat, j + d = 8 → wX_init_26 post s (-1) (d + 1) (nI j) (sv_ini s j) sv := by
  intro d
  induction d with
  | zero =>
    intro j hj
    have e : j = 8 := by omega
    subst e
    exact br_t (by rw [sv_8]; decide) hp
  | succ d ih =>
    intro j hj
    have h : ¬ (8 : Int32) ≤ nI j := by rw [← sv_8]; exact nI_ge (by omega) (by omega)
    have hi : vp_in (nI j) 8 := vp_in_nI (by omega) (by omega)
    refine br_f h ⟨hi, fun a ea x ex => ?_⟩
    subst ea
    subst ex
    rw [nI_1 j, nI_clamp (n := j) (by omega), pk_vc, sv_ini_s]
    exact ih (j + 1) (by omega)
theorem sv_initY (s : Int32) (post : SY → Prop) (hp : post (-1, 0, sv_ini s 8)) : ∀ d j : Nat, j + d = 8 → wY_init_24 post s (-1) 0 (d + 1) (nI j) (sv_ini s j) := by
  intro d
  induction d with
  | zero =>
    intro j hj
    have e : j = 8 := by omega
    subst e
    exact br_t (by rw [sv_8]; decide) hp
  | succ d ih =>
    intro j hj
    have h : ¬ (8 : Int32) ≤ nI j := by rw [← sv_8]; exact nI_ge (by omega) (by omega)
    have hi : vp_in (nI j) 8 := vp_in_nI (by omega) (by omega)
    refine br_f h ⟨hi, fun a ea x ex => ?_⟩
    subst ea
    subst ex
    rw [nI_1 j, nI_clamp (n := j) (by omega), pk_vc, sv_ini_s]
    exact ih (j + 1) (by omega)
theorem sv_onT {post : Int32 → Prop} {j : Nat} (h : j < 8) (hp : post 1) : wpX_isOnRow post (nI j) :=
  br_f (nI_pos (by omega)) (br_f (by rw [← sv_8]; exact nI_ge h (by omega)) hp)
theorem sv_onF {post : Int32 → Prop} {x : Int32} (h : x < 0 ∨ 8 ≤ x) (hp : post 0) : wpX_isOnRow post x := by
  by_cases h0 : x < 0
  · exact br_t h0 hp
  · exact br_f h0 (br_t (h.resolve_left h0) hp)
theorem sv_cov {post : Int32 → Prop} {p : Nat} (h : p < 8) (hp : post (nI (sv_len p))) : wpX_coveredFrom post (nI p) := by
  intro x ex
  have e : x = nI (8 - p) := by
    rw [ex, ← sv_8]
    exact pk_sub (by omega)
  subst e
  unfold sv_len at hp
  by_cases h4 : p ≤ 4
  · rw [if_pos h4, sv_4] at hp
    exact br_t (by rw [← sv_4]; exact nI_le (by omega) (by omega)) hp
  · rw [if_neg h4] at hp
    exact br_f (by rw [← sv_4]; exact nI_ge (by omega) (by omega)) hp
theorem sv_hideL (bg sv : Nat → Int32) (c g : Int32) (p L : Nat) (hL : L ≤ 4) (hp : p + L ≤ 8) (hf : ∀ j, sv_Fit (bg j)) (hs : ∀ k, k < L → sv k = bg (p + k)) (post : Int32 → SX → Prop) (h : post (nI p) (-1, bg, sv)) : ∀ d k : Nat, k + d = L → wX_hide_21 post (nI p) (nI L) g (d + 1) (nI k) (sv_row bg (p + k) (p + L) c) sv := by
  intro d
  induction d with
  | zero =>
    intro k hk
    have e : k = L := by omega
    rw [e, sv_row_nil]
    exact br_t (nI_le (by omega) (by omega)) h
  | succ d ih =>
    intro k hk
    have h1 : ¬ nI L ≤ nI k := nI_ge (by omega) (by omega)
    have h2 : vp_in (nI k) 4 := vp_in_nI (by omega) (by omega)
    have h3 : vp_in (nI p + nI k) 8 := by rw [nI_add]; exact vp_in_nI (by omega) (by omega)
    refine br_f h1 ⟨h2, h3, fun a ea x ex => ?_⟩
    subst ea
    subst ex
    rw [nI_add p k, nI_clamp (n := p + k) (by omega), nI_clamp (n := k) (by omega), hs k (by omega), sv_fitV (hf (p + k)), sv_row_un, nI_1 k]
    exact ih (k + 1) (by omega)
theorem sv_showL (bg : Nat → Int32) (col g : Int32) (p L : Nat) (hL : L ≤ 4) (hp : p + L ≤ 8) (hf : ∀ j, sv_Fit (bg j)) (post : Int32 → SX → Prop) (h : ∀ sv : Nat → Int32, (∀ k, k < L → sv k = bg (p + k)) → post (nI L) (nI p, sv_row bg p (p + L) (col.toUInt32 % 65536).toInt32, sv)) : ∀ (d k : Nat) (sv : Nat → Int32), k + d = L → (∀ i, i < k → sv i = bg (p + i)) → wX_show_22 post (nI p) col (nI L) g (d + 1) (nI k) (sv_row bg p (p + k) (col.toUInt32 % 65536).toInt32) sv := by
  intro d
  induction d with
  | zero =>
    intro k sv hk hs
    have e : k = L := by omega
    subst e
    exact br_t (nI_le (by omega) (by omega)) (h sv hs)
  | succ d ih =>
    intro k sv hk hs
    have h1 : ¬ nI L ≤ nI k := nI_ge (by omega) (by omega)
    have h2 : vp_in (nI k) 4 := vp_in_nI (by omega) (by omega)
    have h3 : vp_in (nI p + nI k) 8 := by rw [nI_add]; exact vp_in_nI (by omega) (by omega)
    refine br_f h1 ⟨h3, h2, fun a ea => ⟨h3, fun b eb x ex => ?_⟩⟩
    subst ea
    subst eb
    subst ex
    rw [nI_add p k, nI_clamp (n := p + k) (by omega), nI_clamp (n := k) (by omega), sv_row_hi (Nat.le_refl (p + k)), sv_fitV (hf (p + k)), pk_vc, sv_row_pt (by omega), nI_1 k]
    refine ih (k + 1) _ (by omega) (fun i hi => ?_)
    by_cases z : i = k
    · subst z
      exact pk_us
    · rw [pk_un z]
      exact hs i (by omega)
end
section
/-- the reference keeps the background and the sprite apart; the class keeps the row as it is seen and, while a sprite is shown, what it covers -/
def i_Rel (_ : Nat) (u : SX) (v : SY) : Prop :=
  (∀ j, sv_Fit (v.2.2 j)) ∧ u.1 = v.1 ∧
  ((u.1 = -1 ∧ u.2.1 = v.2.2) ∨
   (∃ p : Nat, p < 8 ∧ u.1 = nI p ∧ u.2.1 = sv_row v.2.2 p (p + sv_len p) v.2.1 ∧ ∀ k, k < sv_len p → u.2.2 k = v.2.2 (p + k)))
theorem i_up {k : Nat} {u : SX} {v : SY} (h : i_Rel k u v) : i_Rel (k + 3) u v := h
theorem i_vc0 (k0 : Int32) : wpX_init (fun u => wpY_init (fun v => i_Rel 1 u v) k0) k0 := by
  have hY : wpY_init (fun v => i_Rel 1 (-1, sv_ini k0 8, fun _ => 0) v) k0 := by
    have h := sv_initY k0 (fun v => i_Rel 1 (-1, sv_ini k0 8, fun _ => 0) v) ⟨fun j => sv_ini_f k0 8 j, rfl, Or.inl ⟨rfl, rfl⟩⟩ 8 0 rfl
    rw [sv_ini_0, nI_0] at h
    exact ⟨9, h⟩
  have h := sv_initX k0 (fun _ => 0) (fun u => wpY_init (fun v => i_Rel 1 u v) k0) hY 8 0 rfl
  rw [sv_ini_0, nI_0] at h
  exact ⟨9, h⟩
theorem sv_hideX {k : Nat} {u : SX} {v : SY} (I : i_Rel k u v) (post : Int32 → SX → Prop) (h : ∀ sv : Nat → Int32, post v.1 (-1, v.2.2, sv)) : wpX_hide post u := by
  obtain ⟨pos, px, sv⟩ := u
  obtain ⟨yp, yc, bg⟩ := v
  obtain ⟨hf, e, hc⟩ := I
  dsimp only at hf e hc h
  subst e
  unfold wpX_hide
  dsimp only
  rcases hc with ⟨e1, e2⟩ | ⟨p, hp, e1, e2, hs⟩
  · subst e1
    subst e2
    exact sv_onF (Or.inl (by decide)) (br_t rfl (h sv))
  · subst e1
    subst e2
    refine sv_onT hp (br_f (by decide) (sv_cov hp ⟨sv_len p + 1, ?_⟩))
    have := sv_hideL bg sv yc (nI p) p (sv_len p) (sv_len4 p) (sv_len8 hp) hf hs post (h sv) (sv_len p) 0 (Nat.zero_add _)
    rw [nI_0] at this
    exact this
theorem i_vc_hide {k : Nat} {u : SX} {v : SY} (I : i_Rel k u v) (hk : k + 3 ≤ 1537) : wpX_hide (fun r u' => wpY_hide (fun r' v' => r' = r ∧ i_Rel (k + 3) u' v') v) u := by
  refine sv_hideX I _ (fun sv => ?_)
  obtain ⟨yp, yc, bg⟩ := v
  exact ⟨rfl, I.1, rfl, Or.inl ⟨rfl, rfl⟩⟩
theorem i_vc_show {k : Nat} {u : SX} {v : SY} (I : i_Rel k u v) (hk : k + 3 ≤ 1537) (v1 : Int32) (v2 : Int32) : wpX_show (fun r u' => wpY_show (fun r' v' => r' = r ∧ i_Rel (k + 3) u' v') v v1 v2) u v1 v2 := by
  obtain ⟨pos, px, sv⟩ := u
  unfold wpX_show
  dsimp only
  refine sv_hideX I _ (fun sv' => ?_)
  obtain ⟨yp, yc, bg⟩ := v
  have hf : ∀ j, sv_Fit (bg j) := I.1
  dsimp only
  rcases pk_ix v1 (n := 8) (by omega) with h | h | ⟨p, hp, rfl⟩
  · exact sv_onF (Or.inl h) (br_t rfl (br_t h ⟨rfl, hf, rfl, Or.inl ⟨rfl, rfl⟩⟩))
  · rw [sv_8] at h
    have h0 : ¬ v1 < 0 := Int32.not_lt.mpr (Int32.le_trans (by decide) h)
    have h7 : ¬ v1 ≤ 7 := Int32.not_le.mpr (Int32.lt_of_lt_of_le (by decide) h)
    exact sv_onF (Or.inr h) (br_t rfl (br_f h0 (br_f h7 ⟨rfl, hf, rfl, Or.inl ⟨rfl, rfl⟩⟩)))
  · refine sv_onT hp (br_f (by decide) (sv_cov hp ⟨sv_len p + 1, ?_⟩))
    have h := sv_showL bg v2 (-1) p (sv_len p) (sv_len4 p) (sv_len8 hp) hf (fun r u' => wpY_show (fun r' v' => r' = r ∧ i_Rel (k + 3) u' v') (yp, yc, bg) (nI p) v2) ?_ (sv_len p) 0 sv' (Nat.zero_add _) (fun i hi => absurd hi (Nat.not_lt_zero i))
    · rw [nI_0, Nat.add_zero p, sv_row_nil] at h
      exact h
    · intro sv2 hs
      have h7 : nI p ≤ (7 : Int32) := by rw [← sv_7]; exact nI_le (by omega) (by omega)
      refine br_f (nI_pos (by omega)) (br_t h7 (fun c ec => ?_))
      rw [sv_mask] at ec
      subst ec
      by_cases h4 : p ≤ 4
      · have e : (4 : Int32) = nI (sv_len p) := by rw [← sv_4]; exact congrArg nI (if_pos h4).symm
        have hb : nI p ≤ (4 : Int32) := by rw [← sv_4]; exact nI_le h4 (by omega)
        exact br_t hb ⟨e, hf, rfl, Or.inr ⟨p, hp, rfl, rfl, hs⟩⟩
      · have e : (8 : Int32) - nI p = nI (sv_len p) := by
          rw [← sv_8, pk_sub (by omega)]
          exact congrArg nI (if_neg h4).symm
        have hb : ¬ nI p ≤ (4 : Int32) := by rw [← sv_4, nI_leI (by omega) (by omega)]; exact h4
        exact br_f hb ⟨e, hf, rfl, Or.inr ⟨p, hp, rfl, rfl, hs⟩⟩
theorem i_vc_peek {k : Nat} {u : SX} {v : SY} (I : i_Rel k u v) (hk : k + 3 ≤ 1537) (v1 : Int32) : wpX_peek (fun r => wpY_peek (fun r' => r' = r ∧ i_Rel (k + 3) u v) v v1) u v1 := by
  have I3 : i_Rel (k + 3) u v := i_up I
  generalize i_Rel (k + 3) u v = R at I3
  obtain ⟨pos, px, sv⟩ := u
  obtain ⟨yp, yc, bg⟩ := v
  obtain ⟨hf, e, hc⟩ := I
  dsimp only at hf e hc
  subst e
  unfold wpX_peek wpY_peek
  dsimp only
  rcases pk_ix v1 (n := 8) (by omega) with h | h | ⟨j, hj, rfl⟩
  · exact sv_onF (Or.inl h) (br_t rfl (br_t h ⟨rfl, I3⟩))
  · rw [sv_8] at h
    have h0 : ¬ v1 < 0 := Int32.not_lt.mpr (Int32.le_trans (by decide) h)
    have h7 : ¬ v1 ≤ 7 := Int32.not_le.mpr (Int32.lt_of_lt_of_le (by decide) h)
    exact sv_onF (Or.inr h) (br_t rfl (br_f h0 (br_f h7 ⟨rfl, I3⟩)))
  · have h0 : ¬ nI j < 0 := nI_pos (by omega)
    have h7 : nI j ≤ (7 : Int32) := by rw [← sv_7]; exact nI_le (by omega) (by omega)
    have hi : vp_in (nI j) 8 := vp_in_nI hj (by omega)
    refine sv_onT hj (br_f (by decide) ⟨hi, br_f h0 (br_t h7 ?_)⟩)
    rw [nI_clamp (n := j) (by omega)]
    rcases hc with ⟨e1, e2⟩ | ⟨p, hp, e1, e2, hs⟩
    · subst e1
      subst e2
      exact br_t (by decide) ⟨hi, rfl, I3⟩
    · subst e1
      subst e2
      refine br_f (nI_pos (by omega)) ?_
      by_cases ha : j < p
      · exact br_t (nI_lt ha (by omega)) ⟨hi, (sv_row_lo ha).symm, I3⟩
      · refine br_f (nI_nlt (by omega) (by omega)) ?_
        have e4 : nI p + 4 = nI (p + 4) := by rw [← sv_4]; exact nI_add p 4
        rw [e4]
        by_cases hb : p + 4 ≤ j
        · have hl : p + sv_len p ≤ j := by have := sv_len4 p; omega
          exact br_t (nI_le hb (by omega)) ⟨hi, (sv_row_hi hl).symm, I3⟩
        · exact br_f (nI_ge (by omega) (by omega)) ⟨(sv_row_in (by omega) (sv_lenC hp hj (by omega))).symm, I3⟩
end
