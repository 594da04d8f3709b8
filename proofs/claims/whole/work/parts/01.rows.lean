/-! rows pasted from the given rows (starting texts) -/
theorem pk_us {f : Nat → Int32} {k : Nat} {x : Int32} : upd f k x k = x := if_pos rfl
theorem pk_un {f : Nat → Int32} {k j : Nat} {x : Int32} (h : j ≠ k) : upd f k x j = f j := if_neg h
theorem pk_sub {a b : Nat} (h : b ≤ a) : nI a - nI b = nI (a - b) := by
  obtain ⟨c, rfl⟩ : ∃ c, a = c + b := ⟨a - b, by omega⟩
  rw [← nI_add, Int32.add_sub_cancel, Nat.add_sub_cancel]
theorem pk_ix (x : Int32) {n : Nat} (hn : n < 2 ^ 31) : x < 0 ∨ nI n ≤ x ∨ ∃ j : Nat, j < n ∧ x = nI j := by
  by_cases h : x < 0
  · exact Or.inl h
  · obtain ⟨j, hj, rfl⟩ := nI_of h
    by_cases h2 : j < n
    · exact Or.inr (Or.inr ⟨j, h2, rfl⟩)
    · exact Or.inr (Or.inl (nI_le (by omega) hj))
theorem pk_tn {n : Nat} (h : n < 2 ^ 32) : (nI n).toBitVec.toNat = n := Nat.mod_eq_of_lt h
theorem pk_and (x : Int32) {m : Int32} (k : Nat) (hm : m.toBitVec.toNat = 2 ^ k - 1) : x &&& m = nI (x.toBitVec.toNat % 2 ^ k) := by
  apply Int32.toBitVec_inj.mp
  apply BitVec.eq_of_toNat_eq
  rw [Int32.toBitVec_and, BitVec.toNat_and, hm, Nat.and_two_pow_sub_one_eq_mod]
  show _ = (BitVec.ofNat 32 _).toNat
  rw [BitVec.toNat_ofNat]
  exact (Nat.mod_eq_of_lt (Nat.lt_of_le_of_lt (Nat.mod_le _ _) x.toBitVec.isLt)).symm
theorem pk_charN {q : Nat} (hq : q < 65536) : narrow .char (.int (nI q)) = .int (nI q) ∧ fits .char (.int (nI q)) = true := by
  constructor
  · have e : (nI q).toUInt32.toUInt16.toUInt32.toInt32 = nI q := by
      apply Int32.toBitVec_inj.mp
      apply BitVec.eq_of_toNat_eq
      show (nI q).toUInt32.toUInt16.toUInt32.toNat = q % 2 ^ 32
      rw [UInt16.toNat_toUInt32, UInt32.toNat_toUInt16, show (nI q).toUInt32.toNat = q % 2 ^ 32 from rfl]
      omega
    exact congrArg Value.int e
  · have a : (0 : Int32) ≤ nI q := nI_pos' (by omega)
    have b : nI q ≤ 65535 := nI_le (b := 65535) (by omega) (by decide)
    show (decide ((0 : Int32) ≤ nI q) && decide (nI q ≤ 65535)) = true
    rw [decide_eq_true a, decide_eq_true b]
    rfl
theorem pk_char (x : Int32) : (x.toUInt32 % 65536).toInt32 = nI (x.toBitVec.toNat % 65536) := by
  apply Int32.toBitVec_inj.mp
  apply BitVec.eq_of_toNat_eq
  rw [pk_tn (by omega)]
  show (x.toUInt32 % 65536).toNat = _
  rw [UInt32.toNat_mod]
  rfl
theorem pk_nc (x : Int32) : narrow .char (.int (x.toUInt32 % 65536).toInt32) = .int (x.toUInt32 % 65536).toInt32 := by
  rw [pk_char]
  exact (pk_charN (Nat.mod_lt _ (by decide))).1
theorem pk_vc (z : Int32) : vp_nar .char (z.toUInt32 % 65536).toInt32 = (z.toUInt32 % 65536).toInt32 := Value.int.inj (pk_nc z)
/-! the class's own mathematics -/
/-- a value that a char holds -/
def sv_Fit (x : Int32) : Prop := ∃ q : Nat, q < 65536 ∧ x = nI q
/-- how many pixels a sprite at p covers -/
def sv_len (p : Nat) : Nat := if p ≤ 4 then 4 else 8 - p
/-- the background, painted with c from a up to b -/
def sv_row (bg : Nat → Int32) (a b : Nat) (c : Int32) : Nat → Int32 := fun j => if a ≤ j ∧ j < b then c else bg j
/-- the row of a seed, its first m pixels -/
def sv_ini (s : Int32) (m : Nat) : Nat → Int32 := fun j => if j < m then ((s * nI (j + 1)).toUInt32 % 65536).toInt32 else 0
theorem sv_8 : nI 8 = 8 := by decide +kernel
theorem sv_7 : nI 7 = 7 := by decide +kernel
theorem sv_4 : nI 4 = 4 := by decide +kernel
theorem sv_fitV {x : Int32} (h : sv_Fit x) : vp_nar .char x = x := by
  obtain ⟨q, hq, rfl⟩ := h
  exact Value.int.inj (pk_charN hq).1
theorem sv_fitC (x : Int32) : sv_Fit (x.toUInt32 % 65536).toInt32 := ⟨_, Nat.mod_lt _ (by decide), pk_char x⟩
theorem sv_mask (x : Int32) : x &&& 65535 = (x.toUInt32 % 65536).toInt32 := by
  rw [pk_char, pk_and x 16 (by decide)]
theorem sv_len4 (p : Nat) : sv_len p ≤ 4 := by
  unfold sv_len
  by_cases h : p ≤ 4
  · rw [if_pos h]; omega
  · rw [if_neg h]; omega
theorem sv_len8 {p : Nat} (hp : p < 8) : p + sv_len p ≤ 8 := by
  unfold sv_len
  by_cases h : p ≤ 4
  · rw [if_pos h]; omega
  · rw [if_neg h]; omega
theorem sv_lenC {p j : Nat} (hp : p < 8) (hj : j < 8) (h : j < p + 4) : j < p + sv_len p := by
  unfold sv_len
  by_cases h : p ≤ 4
  · rw [if_pos h]; omega
  · rw [if_neg h]; omega
theorem sv_row_nil {bg : Nat → Int32} {a : Nat} {c : Int32} : sv_row bg a a c = bg := by
  funext j
  exact if_neg (by omega)
theorem sv_row_in {bg : Nat → Int32} {a b j : Nat} {c : Int32} (h1 : a ≤ j) (h2 : j < b) : sv_row bg a b c j = c := if_pos ⟨h1, h2⟩
theorem sv_row_lo {bg : Nat → Int32} {a b j : Nat} {c : Int32} (h : j < a) : sv_row bg a b c j = bg j := if_neg (by omega)
theorem sv_row_hi {bg : Nat → Int32} {a b j : Nat} {c : Int32} (h : b ≤ j) : sv_row bg a b c j = bg j := if_neg (by omega)
theorem sv_row_un {bg : Nat → Int32} {a b : Nat} {c : Int32} : upd (sv_row bg a b c) a (bg a) = sv_row bg (a + 1) b c := by
  funext j
  by_cases z : j = a
  · subst z
    rw [pk_us, sv_row_lo (by omega)]
  · rw [pk_un z]
    by_cases h : a ≤ j ∧ j < b
    · rw [sv_row_in h.1 h.2, sv_row_in (by omega) h.2]
    · by_cases h2 : j < a
      · rw [sv_row_lo h2, sv_row_lo (by omega)]
      · rw [sv_row_hi (by omega), sv_row_hi (by omega)]
theorem sv_row_pt {bg : Nat → Int32} {a b : Nat} {c : Int32} (hab : a ≤ b) : upd (sv_row bg a b c) b c = sv_row bg a (b + 1) c := by
  funext j
  by_cases z : j = b
  · subst z
    rw [pk_us, sv_row_in hab (by omega)]
  · rw [pk_un z]
    by_cases h2 : j < a
    · rw [sv_row_lo h2, sv_row_lo h2]
    · by_cases h3 : j < b
      · rw [sv_row_in (by omega) h3, sv_row_in (by omega) (by omega)]
      · rw [sv_row_hi (by omega), sv_row_hi (by omega)]
theorem sv_ini_0 (s : Int32) : sv_ini s 0 = fun _ => 0 := by
  funext j
  exact if_neg (Nat.not_lt_zero j)
theorem sv_ini_s (s : Int32) (m : Nat) : upd (sv_ini s m) m ((s * nI (m + 1)).toUInt32 % 65536).toInt32 = sv_ini s (m + 1) := by
  funext j
  by_cases z : j = m
  · subst z
    rw [pk_us]
    exact (if_pos (Nat.lt_succ_self j)).symm
  · rw [pk_un z]
    by_cases h : j < m
    · exact (if_pos h).trans (if_pos (show j < m + 1 by omega)).symm
    · exact (if_neg h).trans (if_neg (show ¬ j < m + 1 by omega)).symm
theorem sv_ini_f (s : Int32) (m j : Nat) : sv_Fit (sv_ini s m j) := by
  unfold sv_ini
  by_cases h : j < m
  · rw [if_pos h]; exact sv_fitC _
  · rw [if_neg h]; exact ⟨0, by decide, nI_0.symm⟩
