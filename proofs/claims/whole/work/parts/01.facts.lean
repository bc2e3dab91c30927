def uN (x : Int64) : Nat := x.toUInt64.toNat
theorem uN_lt (x : Int64) : uN x < 18446744073709551616 := x.toUInt64.toNat_lt
theorem uN_inj {x y : Int64} (h : uN x = uN y) : x = y := congrArg UInt64.toInt64 (UInt64.toNat_inj.mp h)
theorem nat_xor {a : Nat} (h : a < 18446744073709551616) : a ^^^ 2 ^ 63 = (a + 9223372036854775808) % 18446744073709551616 := by
  have h1 : (a ^^^ 2 ^ 63) % 2 ^ 63 = a % 2 ^ 63 := by rw [Nat.xor_mod_two_pow, Nat.mod_self, Nat.xor_zero]
  have h2 : (a ^^^ 2 ^ 63) / 2 ^ 63 = (a / 2 ^ 63) ^^^ 1 := by rw [Nat.xor_div_two_pow, Nat.div_self (Nat.two_pow_pos 63)]
  have h3 : a / 2 ^ 63 = 0 ∨ a / 2 ^ 63 = 1 := by omega
  generalize a ^^^ 2 ^ 63 = t at h1 h2
  rcases h3 with h3 | h3
  · rw [h3] at h2
    have h2 : t / 2 ^ 63 = 1 := h2
    omega
  · rw [h3] at h2
    have h2 : t / 2 ^ 63 = 0 := h2
    omega
theorem uN_xor (x : Int64) : uN (x ^^^ (-9223372036854775808)) = (uN x + 9223372036854775808) % 18446744073709551616 := by
  rw [← nat_xor (uN_lt x)]
  exact UInt64.toNat_xor _ _
theorem uN_int (x : Int64) : x.toInt = if 2 * uN x < 18446744073709551616 then (uN x : Int) else (uN x : Int) - 18446744073709551616 := BitVec.toInt_eq_toNat_cond _
theorem uN_le (x y : Int64) : (x ^^^ (-9223372036854775808)) ≤ (y ^^^ (-9223372036854775808)) ↔ uN x ≤ uN y := by
  have hx := uN_lt x
  have hy := uN_lt y
  rw [Int64.le_iff_toInt_le, uN_int, uN_int, uN_xor, uN_xor]
  omega
theorem pk_us {f : Nat → Int32} {k : Nat} {x : Int32} : upd f k x k = x := if_pos rfl
theorem pk_un {f : Nat → Int32} {k j : Nat} {x : Int32} (h : j ≠ k) : upd f k x j = f j := if_neg h
theorem pk_uLs {f : Nat → Int64} {k : Nat} {x : Int64} : vp_updL f k x k = x := if_pos rfl
theorem pk_uLn {f : Nat → Int64} {k j : Nat} {x : Int64} (h : j ≠ k) : vp_updL f k x j = f j := if_neg h
theorem pk_m1 (n : Nat) : nI (n + 1) + (-1) = nI n := by
  rw [← nI_1, Int32.add_assoc, show (1 : Int32) + (-1) = 0 from rfl, Int32.add_zero]
theorem pk_ix (x : Int32) {n : Nat} (hn : n < 2 ^ 31) : x < 0 ∨ nI n ≤ x ∨ ∃ j : Nat, j < n ∧ x = nI j := by
  by_cases h : x < 0
  · exact Or.inl h
  · obtain ⟨j, hj, rfl⟩ := nI_of h
    by_cases h2 : j < n
    · exact Or.inr (Or.inr ⟨j, h2, rfl⟩)
    · exact Or.inr (Or.inl (nI_le (by omega) hj))
theorem pk_le {x y : Int32} {A B : Prop} (a b : Nat) (f : a ≤ b → A) (g : b < a → B) (hx : x = nI a := by rfl) (hy : y = nI b := by rfl) (ha : a < 2 ^ 31 := by omega) (hb : b < 2 ^ 31 := by omega) : (x ≤ y → A) ∧ (¬ x ≤ y → B) := by
  subst hx hy
  rw [nI_leI ha hb]
  exact ⟨f, fun z => g (by omega)⟩
theorem pk_lt {x y : Int32} {A B : Prop} (a b : Nat) (f : a < b → A) (g : b ≤ a → B) (hx : x = nI a := by rfl) (hy : y = nI b := by rfl) (ha : a < 2 ^ 31 := by omega) (hb : b < 2 ^ 31 := by omega) : (x < y → A) ∧ (¬ x < y → B) := by
  subst hx hy
  rw [nI_ltI ha hb]
  exact ⟨f, fun z => g (by omega)⟩
theorem pk_eq {x y : Int32} {A B : Prop} (a b : Nat) (f : a = b → A) (g : a ≠ b → B) (hx : x = nI a := by rfl) (hy : y = nI b := by rfl) (ha : a < 2 ^ 31 := by omega) (hb : b < 2 ^ 31 := by omega) : (x = y → A) ∧ (¬ x = y → B) := by
  subst hx hy
  rw [nI_eq ha hb]
  exact ⟨f, g⟩
theorem pk_in {x : Int32} (n N : Nat) (h : n < N) (hx : x = nI n := by rfl) (hN : N < 2 ^ 31 := by omega) : vp_in x N := by
  subst hx
  exact vp_in_nI h hN
theorem pk_cl {x : Int32} (n : Nat) (hx : x = nI n := by rfl) (h : n < 2 ^ 31 := by omega) : x.toNatClampNeg = n := by
  subst hx
  exact nI_clamp h
/-! the digit i of v: read by >>> and by >> -/
theorem pl_ush (v : Int64) (s : UInt64) (k : Nat) (hs : (s.toBitVec % 64).toNat = k) : (v.toUInt64 >>> s).toInt64.toBitVec = v.toBitVec >>> k := by
  rw [← hs]
  exact UInt64.toBitVec_shiftRight _ _
theorem pl_ssh (v s : Int64) (k : Nat) (hs : (s.toBitVec.smod 64).toNat = k) : (v >>> s).toBitVec = v.toBitVec.sshiftRight k := by
  rw [← hs]
  exact Int64.toBitVec_shiftRight _ _
theorem pl_cs : ∀ k, k < 64 → (((nI k).toInt64 &&& 63).toBitVec.smod 64).toNat = k := by decide +kernel
theorem pl_cu : ∀ k, k < 64 → (((nI k).toInt64.toUInt64 &&& Int64.toUInt64 63).toBitVec % 64).toNat = k := by decide +kernel
theorem pl_1j {j : Nat} (h : j ≠ 0) : (1 : Int64).toBitVec.getLsbD j = false := by
  have e : (1 : Int64).toBitVec = 1#64 := by decide
  rw [e, BitVec.getLsbD_one, decide_eq_false h, Bool.and_false]
theorem pl_bitE (v : Int64) {i : Nat} (hi : i < 64) : (v >>> ((nI i).toInt64 &&& 63)) &&& 1 = (v.toUInt64 >>> ((nI i).toInt64.toUInt64 &&& Int64.toUInt64 63)).toInt64 &&& 1 := by
  apply Int64.toBitVec_inj.mp
  rw [Int64.toBitVec_and, Int64.toBitVec_and, pl_ssh v _ i (pl_cs i hi), pl_ush v _ i (pl_cu i hi)]
  apply BitVec.eq_of_getLsbD_eq
  intro j hj
  rw [BitVec.getLsbD_and, BitVec.getLsbD_and]
  rcases Nat.eq_zero_or_pos j with z | z
  · subst z
    rw [BitVec.getLsbD_sshiftRight, BitVec.getLsbD_ushiftRight, if_pos (by omega)]
    simp
  · rw [pl_1j (by omega), Bool.and_false, Bool.and_false]
theorem pl_and1 (x : Int64) : x &&& 1 = 0 ∨ x &&& 1 = 1 := by
  have h : uN (x &&& 1) = uN x % 2 := by
    show (x.toUInt64 &&& Int64.toUInt64 1).toNat = _
    rw [UInt64.toNat_and]
    exact Nat.and_two_pow_sub_one_eq_mod _ 1
  rcases Nat.mod_two_eq_zero_or_one (uN x) with e | e
  · exact Or.inl (uN_inj ((h.trans e).trans rfl))
  · exact Or.inr (uN_inj ((h.trans e).trans rfl))
/-! the unsigned order -/
theorem pl_z : (0 : Int64).toInt = 0 := by decide
theorem pl_sg (a : Int64) : 0 ≤ a ↔ uN a < 9223372036854775808 := by
  have h := uN_lt a
  rw [Int64.le_iff_toInt_le, pl_z, uN_int]
  omega
theorem pl_le (a b : Int64) (h : uN a < 9223372036854775808 ↔ uN b < 9223372036854775808) : b ≤ a ↔ uN b ≤ uN a := by
  have ha := uN_lt a
  have hb := uN_lt b
  rw [Int64.le_iff_toInt_le, uN_int, uN_int]
  omega
/-! an int is below 0, below n, or at least n -/
theorem pl_ix (x : Int32) (n : Nat) : x < 0 ∨ (∃ j : Nat, n ≤ j ∧ j < 2 ^ 31 ∧ x = nI j) ∨ ∃ j : Nat, j < n ∧ j < 2 ^ 31 ∧ x = nI j := by
  by_cases h : x < 0
  · exact Or.inl h
  · obtain ⟨j, hj, rfl⟩ := nI_of h
    rcases Nat.lt_or_ge j n with z | z
    · exact Or.inr (Or.inr ⟨j, z, hj, rfl⟩)
    · exact Or.inr (Or.inl ⟨j, z, hj, rfl⟩)
def pl_No (x : Int32) : Prop := x < 0 ∨ ∃ j : Nat, 6 ≤ j ∧ j < 2 ^ 31 ∧ x = nI j
theorem pl_reg (x : Int32) : pl_No x ∨ ∃ j : Nat, j < 6 ∧ x = nI j := by
  rcases pl_ix x 6 with h | h | ⟨j, hj, _, e⟩
  · exact Or.inl (Or.inl h)
  · exact Or.inl (Or.inr h)
  · exact Or.inr ⟨j, hj, e⟩
theorem pl_10 : ¬ (1 : Int32) = 0 := by decide
theorem pl_d0 : ∀ i, i < 64 → ¬ (((0 : Int64) >>> ((nI i).toInt64 &&& 63)) &&& 1) = 1 := by decide +kernel
theorem pl_i0 : (0 : Int64).toInt32 = 0 := by decide
theorem pl_i1 : (1 : Int64).toInt32 = 1 := by decide
