section
def uN (x : Int64) : Nat := x.toUInt64.toNat
theorem uN_lt (x : Int64) : uN x < 18446744073709551616 := x.toUInt64.toNat_lt
theorem uN_inj {x y : Int64} (h : uN x = uN y) : x = y := congrArg UInt64.toInt64 (UInt64.toNat_inj.mp h)
theorem nat_xor {a : Nat} (h : a < 18446744073709551616) : a ^^^ 2 ^ 63 = (a + 9223372036854775808) % 18446744073709551616 := by
  have h1 : (a ^^^ 2 ^ 63) % 2 ^ 63 = a % 2 ^ 63 := by rw [Nat.xor_mod_two_pow, Nat.mod_self, Nat.xor_zero]
  have h2 : (a ^^^ 2 ^ 63) / 2 ^ 63 = (a / 2 ^ 63) ^^^ 1 := by rw [Nat.xor_div_two_pow, Nat.div_self (Nat.two_pow_pos 63)]
  have h3 : a / 2 ^ 63 = 0 ∨ a / 2 ^ 63 = 1 := by omega
  generalize a ^^^ 2 ^ 63 = t at h1 h2
  rcases h3 with h3 | h3
  · rw [h3] at h2
    have h2 : t / 2 ^ 63 = 1 := h2
    omega
  · rw [h3] at h2
    have h2 : t / 2 ^ 63 = 0 := h2
    omega
theorem uN_xor (x : Int64) : uN (x ^^^ (-9223372036854775808)) = (uN x + 9223372036854775808) % 18446744073709551616 := by
  rw [← nat_xor (uN_lt x)]
  exact UInt64.toNat_xor _ _
theorem uN_int (x : Int64) : x.toInt = if 2 * uN x < 18446744073709551616 then (uN x : Int) else (uN x : Int) - 18446744073709551616 := BitVec.toInt_eq_toNat_cond _
theorem uN_le (x y : Int64) : (x ^^^ (-9223372036854775808)) ≤ (y ^^^ (-9223372036854775808)) ↔ uN x ≤ uN y := by
  have hx := uN_lt x
  have hy := uN_lt y
  rw [Int64.le_iff_toInt_le, uN_int, uN_int, uN_xor, uN_xor]
  omega
theorem pk_us {f : Nat → Int32} {k : Nat} {x : Int32} : upd f k x k = x := if_pos rfl
theorem pk_un {f : Nat → Int32} {k j : Nat} {x : Int32} (h : j ≠ k) : upd f k x j = f j := if_neg h
theorem pk_uLs {f : Nat → Int64} {k : Nat} {x : Int64} : vp_updL f k x k = x := if_pos rfl
theorem pk_uLn {f : Nat → Int64} {k j : Nat} {x : Int64} (h : j ≠ k) : vp_updL f k x j = f j := if_neg h
theorem pk_m1 (n : Nat) : nI (n + 1) + (-1) = nI n := by
  rw [← nI_1, Int32.add_assoc, show (1 : Int32) + (-1) = 0 from rfl, Int32.add_zero]
theorem pk_ix (x : Int32) {n : Nat} (hn : n < 2 ^ 31) : x < 0 ∨ nI n ≤ x ∨ ∃ j : Nat, j < n ∧ x = nI j := by
  by_cases h : x < 0
  · exact Or.inl h
  · obtain ⟨j, hj, rfl⟩ := nI_of h
    by_cases h2 : j < n
    · exact Or.inr (Or.inr ⟨j, h2, rfl⟩)
    · exact Or.inr (Or.inl (nI_le (by omega) hj))
theorem pk_le {x y : Int32} {A B : Prop} (a b : Nat) (f : a ≤ b → A) (g : b < a → B) (hx : x = nI a := by rfl) (hy : y = nI b := by rfl) (ha : a < 2 ^ 31 := by omega) (hb : b < 2 ^ 31 := by omega) : (x ≤ y → A) ∧ (¬ x ≤ y → B) := by
  subst hx hy
  rw [nI_leI ha hb]
  exact ⟨f, fun z => g (by omega)⟩
theorem pk_lt {x y : Int32} {A B : Prop} (a b : Nat) (f : a < b → A) (g : b ≤ a → B) (hx : x = nI a := by rfl) (hy : y = nI b := by rfl) (ha : a < 2 ^ 31 := by omega) (hb : b < 2 ^ 31 := by omega) : (x < y → A) ∧ (¬ x < y → B) := by
  subst hx hy
  rw [nI_ltI ha hb]
  exact ⟨f, fun z => g (by omega)⟩
theorem pk_eq {x y : Int32} {A B : Prop} (a b : Nat) (f : a = b → A) (g : a ≠ b → B) (hx : x = nI a := by rfl) (hy : y = nI b := by rfl) (ha : a < 2 ^ 31 := by omega) (hb : b < 2 ^ 31 := by omega) : (x = y → A) ∧ (¬ x = y → B) := by
  subst hx hy
  rw [nI_eq ha hb]
  exact ⟨f, g⟩
theorem pk_in {x : Int32} (n N : Nat) (h : n < N) (hx : x = nI n := by rfl) (hN : N < 2 ^ 31 := by omega) : vp_in x N := by
  subst hx
  exact vp_in_nI h hN
theorem pk_cl {x : Int32} (n : Nat) (hx : x = nI n := by rfl) (h : n < 2 ^ 31 := by omega) : x.toNatClampNeg = n := by
  subst hx
  exact nI_clamp h
/-! the digit i of v: read by >>> and by >> -/
theorem pl_ush (v : Int64) (s : UInt64) (k : Nat) (hs : (s.toBitVec % 64).toNat = k) : (v.toUInt64 >>> s).toInt64.toBitVec = v.toBitVec >>> k := by
  rw [← hs]
  exact UInt64.toBitVec_shiftRight _ _
theorem pl_ssh (v s : Int64) (k : Nat) (hs : (s.toBitVec.smod 64).toNat = k) : (v >>> s).toBitVec = v.toBitVec.sshiftRight k := by
  rw [← hs]
  exact Int64.toBitVec_shiftRight _ _
theorem pl_cs : ∀ k, k < 64 → (((nI k).toInt64 &&& 63).toBitVec.smod 64).toNat = k := by decide +kernel
theorem pl_cu : ∀ k, k < 64 → (((nI k).toInt64.toUInt64 &&& Int64.toUInt64 63).toBitVec % 64).toNat = k := by decide +kernel
theorem pl_1j {j : Nat} (h : j ≠ 0) : (1 : Int64).toBitVec.getLsbD j = false := by
  have e : (1 : Int64).toBitVec = 1#64 := by decide
  rw [e, BitVec.getLsbD_one, decide_eq_false h, Bool.and_false]
theorem pl_bitE (v : Int64) {i : Nat} (hi : i < 64) : (v >>> ((nI i).toInt64 &&& 63)) &&& 1 = (v.toUInt64 >>> ((nI i).toInt64.toUInt64 &&& Int64.toUInt64 63)).toInt64 &&& 1 := by
  apply Int64.toBitVec_inj.mp
  rw [Int64.toBitVec_and, Int64.toBitVec_and, pl_ssh v _ i (pl_cs i hi), pl_ush v _ i (pl_cu i hi)]
  apply BitVec.eq_of_getLsbD_eq
  intro j hj
  rw [BitVec.getLsbD_and, BitVec.getLsbD_and]
  rcases Nat.eq_zero_or_pos j with z | z
  · subst z
    rw [BitVec.getLsbD_sshiftRight, BitVec.getLsbD_ushiftRight, if_pos (by omega)]
    simp
  · rw [pl_1j (by omega), Bool.and_false, Bool.and_false]
theorem pl_and1 (x : Int64) : x &&& 1 = 0 ∨ x &&& 1 = 1 := by
  have h : uN (x &&& 1) = uN x % 2 := by
    show (x.toUInt64 &&& Int64.toUInt64 1).toNat = _
    rw [UInt64.toNat_and]
    exact Nat.and_two_pow_sub_one_eq_mod _ 1
  rcases Nat.mod_two_eq_zero_or_one (uN x) with e | e
  · exact Or.inl (uN_inj ((h.trans e).trans rfl))
  · exact Or.inr (uN_inj ((h.trans e).trans rfl))
/-! the unsigned order -/
theorem pl_z : (0 : Int64).toInt = 0 := by decide
theorem pl_sg (a : Int64) : 0 ≤ a ↔ uN a < 9223372036854775808 := by
  have h := uN_lt a
  rw [Int64.le_iff_toInt_le, pl_z, uN_int]
  omega
theorem pl_le (a b : Int64) (h : uN a < 9223372036854775808 ↔ uN b < 9223372036854775808) : b ≤ a ↔ uN b ≤ uN a := by
  have ha := uN_lt a
  have hb := uN_lt b
  rw [Int64.le_iff_toInt_le, uN_int, uN_int]
  omega
/-! an int is below 0, below n, or at least n -/
theorem pl_ix (x : Int32) (n : Nat) : x < 0 ∨ (∃ j : Nat, n ≤ j ∧ j < 2 ^ 31 ∧ x = nI j) ∨ ∃ j : Nat, j < n ∧ j < 2 ^ 31 ∧ x = nI j := by
  by_cases h : x < 0
  · exact Or.inl h
  · obtain ⟨j, hj, rfl⟩ := nI_of h
    rcases Nat.lt_or_ge j n with z | z
    · exact Or.inr (Or.inr ⟨j, z, hj, rfl⟩)
    · exact Or.inr (Or.inl ⟨j, z, hj, rfl⟩)
def pl_No (x : Int32) : Prop := x < 0 ∨ ∃ j : Nat, 6 ≤ j ∧ j < 2 ^ 31 ∧ x = nI j
theorem pl_reg (x : Int32) : pl_No x ∨ ∃ j : Nat, j < 6 ∧ x = nI j := by
  rcases pl_ix x 6 with h | h | ⟨j, hj, _, e⟩
  · exact Or.inl (Or.inl h)
  · exact Or.inl (Or.inr h)
  · exact Or.inr ⟨j, hj, e⟩
theorem pl_10 : ¬ (1 : Int32) = 0 := by decide
theorem pl_d0 : ∀ i, i < 64 → ¬ (((0 : Int64) >>> ((nI i).toInt64 &&& 63)) &&& 1) = 1 := by decide +kernel
theorem pl_i0 : (0 : Int64).toInt32 = 0 := by decide
theorem pl_i1 : (1 : Int64).toInt32 = 1 := by decide
end
section
/-! what the class's result and the reference's answer for the instructions 0 to 15 -/
def pl_RR (o : Nat) (a b : Int64) : Prop := ∃ z : Int64, (∀ post : Int64 → Prop, post z → wpX_result post (nI o) a b) ∧ (∀ (post : Int64 → Prop) (s e w : Int32) (rg : Nat → Int64) (ki ta fi se : Nat → Int32), post z → wpY_result post (s, e, w, rg, ki, ta, fi, se) (nI o) a b)
section
variable {s e w : Int32} {rg : Nat → Int64} {ki ta fi se : Nat → Int32}
theorem pl_below0 {a b : Int64} (h : uN b ≤ uN a) {post : Int32 → Prop} (hp : post 0) : wpY_isBelow post (s, e, w, rg, ki, ta, fi, se) a b := by
  by_cases ha : 0 ≤ a
  · have ka := (pl_sg a).mp ha
    by_cases hb : 0 ≤ b
    · have kb := (pl_sg b).mp hb
      exact br_t ha (br_t hb (br_t rfl (br_t ((pl_le a b ⟨fun _ => kb, fun _ => ka⟩).mpr h) hp)))
    · have kb : ¬ uN b < 9223372036854775808 := fun q => hb ((pl_sg b).mpr q)
      exact absurd h (by omega)
  · have ka : ¬ uN a < 9223372036854775808 := fun q => ha ((pl_sg a).mpr q)
    by_cases hb : 0 ≤ b
    · exact br_f ha (br_t hb (br_f pl_10 (br_t hb hp)))
    · have kb : ¬ uN b < 9223372036854775808 := fun q => hb ((pl_sg b).mpr q)
      exact br_f ha (br_f hb (br_t rfl (br_t ((pl_le a b ⟨fun q => absurd q ka, fun q => absurd q kb⟩).mpr h) hp)))
theorem pl_below1 {a b : Int64} (h : ¬ uN b ≤ uN a) {post : Int32 → Prop} (hp : post 1) : wpY_isBelow post (s, e, w, rg, ki, ta, fi, se) a b := by
  by_cases ha : 0 ≤ a
  · have ka := (pl_sg a).mp ha
    by_cases hb : 0 ≤ b
    · have kb := (pl_sg b).mp hb
      exact br_t ha (br_t hb (br_t rfl (br_f (fun q => h ((pl_le a b ⟨fun _ => kb, fun _ => ka⟩).mp q)) hp)))
    · exact br_t ha (br_f hb (br_f (by decide) (br_f hb hp)))
  · have ka : ¬ uN a < 9223372036854775808 := fun q => ha ((pl_sg a).mpr q)
    by_cases hb : 0 ≤ b
    · have kb := (pl_sg b).mp hb
      exact absurd (show uN b ≤ uN a by omega) h
    · have kb : ¬ uN b < 9223372036854775808 := fun q => hb ((pl_sg b).mpr q)
      exact br_f ha (br_f hb (br_t rfl (br_f (fun q => h ((pl_le a b ⟨fun q => absurd q ka, fun q => absurd q kb⟩).mp q)) hp)))
end
theorem pl_r0 (a b : Int64) : pl_RR 0 a b := ⟨_, fun post hp => br_t (by decide) hp, fun post s e w rg ki ta fi se hp => br_f (by decide) (br_t rfl hp)⟩
theorem pl_r1 (a b : Int64) : pl_RR 1 a b := ⟨_, fun post hp => br_f (by decide) (br_f (by decide) (br_t rfl hp)), fun post s e w rg ki ta fi se hp => br_f (by decide) (br_f (by decide) (br_t rfl hp))⟩
theorem pl_r2 (a b : Int64) : pl_RR 2 a b := ⟨_, fun post hp => br_f (by decide) (br_f (by decide) (br_f (by decide) (br_t rfl hp))), fun post s e w rg ki ta fi se hp => br_f (by decide) (br_f (by decide) (br_f (by decide) (br_t rfl hp)))⟩
theorem pl_r3 (a b : Int64) : pl_RR 3 a b := ⟨_, fun post hp => br_f (by decide) (br_f (by decide) (br_f (by decide) (br_f (by decide) (br_t rfl hp)))), fun post s e w rg ki ta fi se hp => br_f (by decide) (br_f (by decide) (br_f (by decide) (br_f (by decide) (br_t rfl hp))))⟩
theorem pl_r4 (a b : Int64) : pl_RR 4 a b := ⟨_, fun post hp => br_f (by decide) (br_f (by decide) (br_f (by decide) (br_f (by decide) (br_f (by decide) (br_t rfl hp))))), fun post s e w rg ki ta fi se hp => br_f (by decide) (br_f (by decide) (br_f (by decide) (br_f (by decide) (br_f (by decide) (br_t rfl hp)))))⟩
theorem pl_r5 (a b : Int64) : pl_RR 5 a b := ⟨_, fun post hp => br_f (by decide) (br_f (by decide) (br_f (by decide) (br_f (by decide) (br_f (by decide) (br_f (by decide) (br_t rfl hp)))))), fun post s e w rg ki ta fi se hp => br_f (by decide) (br_f (by decide) (br_f (by decide) (br_f (by decide) (br_f (by decide) (br_f (by decide) (br_t rfl hp))))))⟩
theorem pl_r6 (a b : Int64) : pl_RR 6 a b := ⟨_, fun post hp => br_f (by decide) (br_f (by decide) (br_f (by decide) (br_f (by decide) (br_f (by decide) (br_f (by decide) (br_f (by decide) (br_t rfl hp))))))), fun post s e w rg ki ta fi se hp => br_f (by decide) (br_f (by decide) (br_f (by decide) (br_f (by decide) (br_f (by decide) (br_f (by decide) (br_f (by decide) hp))))))⟩
theorem pl_r7 (a b : Int64) : pl_RR 7 a b := ⟨_, fun post hp => br_f (by decide) (br_f (by decide) (br_f (by decide) (br_f (by decide) (br_f (by decide) (br_f (by decide) (br_f (by decide) (br_f (by decide) (br_t rfl hp)))))))), fun post s e w rg ki ta fi se hp => br_t (by decide) (br_f (by decide) (nm_e (br_t rfl hp)))⟩
theorem pl_r8 (a b : Int64) : pl_RR 8 a b := ⟨_, fun post hp => br_f (by decide) (br_f (by decide) (br_f (by decide) (br_f (by decide) (br_f (by decide) (br_f (by decide) (br_f (by decide) (br_f (by decide) (br_f (by decide) (br_t rfl hp))))))))), fun post s e w rg ki ta fi se hp => br_t (by decide) (br_f (by decide) (nm_e (br_f (by decide) (br_t rfl hp))))⟩
theorem pl_r9 (a b : Int64) : pl_RR 9 a b := ⟨_, fun post hp => br_f (by decide) (br_f (by decide) (br_f (by decide) (br_f (by decide) (br_f (by decide) (br_f (by decide) (br_f (by decide) (br_f (by decide) (br_f (by decide) (br_f (by decide) (br_t rfl hp)))))))))), fun post s e w rg ki ta fi se hp => br_t (by decide) (br_f (by decide) (nm_e (br_f (by decide) (br_f (by decide) hp))))⟩
theorem pl_r10 (a b : Int64) : pl_RR 10 a b := by
  by_cases h : b ≤ a
  · exact ⟨0, fun post hp => br_f (by decide) (br_f (by decide) (br_f (by decide) (br_f (by decide) (br_f (by decide) (br_f (by decide) (br_f (by decide) (br_f (by decide) (br_f (by decide) (br_f (by decide) (br_f (by decide) (br_t rfl (br_t h hp)))))))))))), fun post s e w rg ki ta fi se hp => br_t (by decide) (br_t (by decide) (br_f (by decide) (br_t rfl (br_t h (br_t rfl hp)))))⟩
  · exact ⟨1, fun post hp => br_f (by decide) (br_f (by decide) (br_f (by decide) (br_f (by decide) (br_f (by decide) (br_f (by decide) (br_f (by decide) (br_f (by decide) (br_f (by decide) (br_f (by decide) (br_f (by decide) (br_t rfl (br_f h hp)))))))))))), fun post s e w rg ki ta fi se hp => br_t (by decide) (br_t (by decide) (br_f (by decide) (br_t rfl (br_f h (br_f pl_10 hp)))))⟩
theorem pl_r11 (a b : Int64) : pl_RR 11 a b := by
  by_cases h : uN b ≤ uN a
  · exact ⟨0, fun post hp => br_f (by decide) (br_f (by decide) (br_f (by decide) (br_f (by decide) (br_f (by decide) (br_f (by decide) (br_f (by decide) (br_f (by decide) (br_f (by decide) (br_f (by decide) (br_f (by decide) (br_f (by decide) (br_t rfl (br_t ((uN_le b a).mpr h) hp))))))))))))), fun post s e w rg ki ta fi se hp => br_t (by decide) (br_t (by decide) (br_f (by decide) (br_f (by decide) (br_t rfl (pl_below0 h (br_t rfl hp))))))⟩
  · exact ⟨1, fun post hp => br_f (by decide) (br_f (by decide) (br_f (by decide) (br_f (by decide) (br_f (by decide) (br_f (by decide) (br_f (by decide) (br_f (by decide) (br_f (by decide) (br_f (by decide) (br_f (by decide) (br_f (by decide) (br_t rfl (br_f (fun q => h ((uN_le b a).mp q)) hp))))))))))))), fun post s e w rg ki ta fi se hp => br_t (by decide) (br_t (by decide) (br_f (by decide) (br_f (by decide) (br_t rfl (pl_below1 h (br_f pl_10 hp))))))⟩
theorem pl_r12 (a b : Int64) : pl_RR 12 a b := by
  by_cases h : a = b
  · exact ⟨1, fun post hp => br_f (by decide) (br_f (by decide) (br_f (by decide) (br_f (by decide) (br_f (by decide) (br_f (by decide) (br_f (by decide) (br_f (by decide) (br_f (by decide) (br_f (by decide) (br_f (by decide) (br_f (by decide) (br_f (by decide) (br_t rfl (br_t h hp)))))))))))))), fun post s e w rg ki ta fi se hp => br_t (by decide) (br_t (by decide) (br_f (by decide) (br_f (by decide) (br_f (by decide) (br_t h (br_f pl_10 hp))))))⟩
  · exact ⟨0, fun post hp => br_f (by decide) (br_f (by decide) (br_f (by decide) (br_f (by decide) (br_f (by decide) (br_f (by decide) (br_f (by decide) (br_f (by decide) (br_f (by decide) (br_f (by decide) (br_f (by decide) (br_f (by decide) (br_f (by decide) (br_t rfl (br_f h hp)))))))))))))), fun post s e w rg ki ta fi se hp => br_t (by decide) (br_t (by decide) (br_f (by decide) (br_f (by decide) (br_f (by decide) (br_f h (br_t rfl hp))))))⟩
theorem pl_r13 (a b : Int64) : pl_RR 13 a b := ⟨_, fun post hp => br_f (by decide) (br_f (by decide) (br_f (by decide) (br_f (by decide) (br_f (by decide) (br_f (by decide) (br_f (by decide) (br_f (by decide) (br_f (by decide) (br_f (by decide) (br_f (by decide) (br_f (by decide) (br_f (by decide) (br_f (by decide) (br_t rfl hp)))))))))))))), fun post s e w rg ki ta fi se hp => br_t (by decide) (br_t (by decide) (br_t (by decide) (br_t rfl hp)))⟩
theorem pl_r14 (a b : Int64) : pl_RR 14 a b := ⟨_, fun post hp => br_f (by decide) (br_f (by decide) (br_f (by decide) (br_f (by decide) (br_f (by decide) (br_f (by decide) (br_f (by decide) (br_f (by decide) (br_f (by decide) (br_f (by decide) (br_f (by decide) (br_f (by decide) (br_f (by decide) (br_f (by decide) (br_f (by decide) (br_t rfl hp))))))))))))))), fun post s e w rg ki ta fi se hp => br_t (by decide) (br_t (by decide) (br_t (by decide) (br_f (by decide) (br_t rfl hp))))⟩
theorem pl_r15 (a b : Int64) : pl_RR 15 a b := ⟨_, fun post hp => br_f (by decide) (br_f (by decide) (br_f (by decide) (br_f (by decide) (br_f (by decide) (br_f (by decide) (br_f (by decide) (br_f (by decide) (br_f (by decide) (br_f (by decide) (br_f (by decide) (br_f (by decide) (br_f (by decide) (br_f (by decide) (br_f (by decide) (br_f (by decide) (br_t rfl hp)))))))))))))))), fun post s e w rg ki ta fi se hp => br_t (by decide) (br_t (by decide) (br_t (by decide) (br_f (by decide) (br_f (by decide) hp))))⟩
theorem pl_result (a b : Int64) {o : Nat} (ho : o < 16) : pl_RR o a b :=
  match o, ho with
  | 0, _ => pl_r0 a b
  | 1, _ => pl_r1 a b
  | 2, _ => pl_r2 a b
  | 3, _ => pl_r3 a b
  | 4, _ => pl_r4 a b
  | 5, _ => pl_r5 a b
  | 6, _ => pl_r6 a b
  | 7, _ => pl_r7 a b
  | 8, _ => pl_r8 a b
  | 9, _ => pl_r9 a b
  | 10, _ => pl_r10 a b
  | 11, _ => pl_r11 a b
  | 12, _ => pl_r12 a b
  | 13, _ => pl_r13 a b
  | 14, _ => pl_r14 a b
  | 15, _ => pl_r15 a b
  | n + 16, h => absurd h (by omega)
end
section
/-! what stands at place j of the program: op, changed, first, second, target -/
def pl_Ok (o c f s t : Int32) (j : Nat) : Prop := ∃ f' : Nat, f' < 6 ∧ f = nI f' ∧ ((∃ o' s' d' : Nat, o' < 16 ∧ s' < 6 ∧ d' < 6 ∧ o = nI o' ∧ s = nI s' ∧ c = nI d' ∧ t = nI d') ∨ (∃ s' : Nat, s' ≤ j ∧ o = nI 16 ∧ s = nI s' ∧ c = nI f'))
/-- the same registers, ops, firsts, seconds, count, ending, worked; changed and target alike where the instruction isn't a loop -/
def i_Rel (_ : Nat) (u : SX) (v : SY) : Prop := ∃ (c : Nat) (e w : Int32) (rg : Nat → Int64) (op ch fi se tg : Nat → Int32), u = (nI c, e, w, rg, op, ch, fi, se) ∧ v = (nI c, e, w, rg, op, tg, fi, se) ∧ c ≤ 16 ∧ ∀ j, j < c → pl_Ok (op j) (ch j) (fi j) (se j) (tg j) j
section
variable {s e w : Int32} {rg : Nat → Int64} {op ch fi se tg : Nat → Int32}
theorem pl_xr1 {j : Nat} (h : j < 6) {post : Int32 → Prop} (hp : post 1) : wpX_isRegister post (nI j) := br_f (nI_pos (by omega)) (br_f (nI_ge (b := 6) h (by decide)) hp)
theorem pl_xr0 {x : Int32} (h : pl_No x) {post : Int32 → Prop} (hp : post 0) : wpX_isRegister post x := by
  rcases h with h | ⟨j, h6, hj, rfl⟩
  · exact br_t h hp
  · exact br_f (nI_pos hj) (br_t (nI_le (a := 6) h6 hj) hp)
theorem pl_yr1 {j : Nat} (h : j < 6) {post : Int32 → Prop} (hp : post 1) : wpY_isRegister post (s, e, w, rg, op, tg, fi, se) (nI j) := br_f (nI_pos (by omega)) (br_f (nI_nlt (a := 5) (by omega) (by decide)) hp)
theorem pl_yr0 {x : Int32} (h : pl_No x) {post : Int32 → Prop} (hp : post 0) : wpY_isRegister post (s, e, w, rg, op, tg, fi, se) x := by
  rcases h with h | ⟨j, h6, hj, rfl⟩
  · exact br_t h hp
  · exact br_f (nI_pos hj) (br_t (nI_lt (a := 5) (by omega) hj) hp)
theorem pl_yget1 {j : Nat} (h : j < 6) {post : Int64 → Prop} (hp : post (rg j)) : wpY_get post (s, e, w, rg, op, tg, fi, se) (nI j) := by
  have hk : (nI j).toNatClampNeg = j := nI_clamp (by omega)
  unfold wpY_get
  dsimp only
  rw [hk]
  exact pl_yr1 h (br_f pl_10 ⟨vp_in_nI h (by decide), hp⟩)
theorem pl_yget0 {x : Int32} (h : pl_No x) {post : Int64 → Prop} (hp : post 0) : wpY_get post (s, e, w, rg, op, tg, fi, se) x := by
  unfold wpY_get
  dsimp only
  exact pl_yr0 h (br_t rfl hp)
theorem pl_place {c : Nat} (hc : c < 16) (p0 p1 p2 p3 : Int32) {post : Int32 → SX → Prop} (hp : post (nI c) (nI (c + 1), e, w, rg, upd op c p0, upd ch c p1, upd fi c p2, upd se c p3)) : wpX_place post (nI c, e, w, rg, op, ch, fi, se) p0 p1 p2 p3 := by
  have hi : vp_in (nI c) 16 := vp_in_nI hc (by decide)
  have hk : (nI c).toNatClampNeg = c := nI_clamp (by omega)
  refine br_t (nI_lt (b := 16) hc (by decide)) ⟨hi, fun a1 h1 => ⟨hi, fun a2 h2 => ⟨hi, fun a3 h3 => ⟨hi, fun a4 h4 n hn => ?_⟩⟩⟩⟩
  rw [hk] at h1 h2 h3 h4
  rw [nI_1] at hn
  subst h1 h2 h3 h4 hn
  rw [nI_pred]
  exact hp
theorem pl_placeF (p0 p1 p2 p3 : Int32) {post : Int32 → SX → Prop} (hp : post (-2) (nI 16, e, w, rg, op, ch, fi, se)) : wpX_place post (nI 16, e, w, rg, op, ch, fi, se) p0 p1 p2 p3 := br_f (by decide) hp
theorem pl_put {c : Nat} (hc : c < 16) (p0 p1 p2 p3 : Int32) {post : Int32 → SY → Prop} (hp : post (nI c) (nI (c + 1), e, w, rg, upd op c p0, upd tg c p1, upd fi c p2, upd se c p3)) : wpY_put post (nI c, e, w, rg, op, tg, fi, se) p0 p1 p2 p3 := by
  have hi : vp_in (nI c) 16 := vp_in_nI hc (by decide)
  have hk : (nI c).toNatClampNeg = c := nI_clamp (by omega)
  have hn16 : ¬ nI c = nI 16 := fun q => by
    have := (nI_eq (by omega) (by decide)).mp q
    omega
  refine br_f hn16 ⟨hi, fun a1 h1 => ⟨hi, fun a2 h2 => ⟨hi, fun a3 h3 => ⟨hi, fun a4 h4 n hn => ?_⟩⟩⟩⟩
  rw [hk] at h1 h2 h3 h4
  rw [nI_1] at hn
  subst h1 h2 h3 h4 hn
  rw [nI_pred]
  exact hp
theorem pl_putF (p0 p1 p2 p3 : Int32) {post : Int32 → SY → Prop} (hp : post (-2) (nI 16, e, w, rg, op, tg, fi, se)) : wpY_put post (nI 16, e, w, rg, op, tg, fi, se) p0 p1 p2 p3 := br_t rfl hp
theorem pl_new (k : Nat) {c : Nat} (hc : c < 16) (H : ∀ j, j < c → pl_Ok (op j) (ch j) (fi j) (se j) (tg j) j) {p0 p1 p2 p3 q1 : Int32} (hn : pl_Ok p0 p1 p2 p3 q1 c) : i_Rel k (nI (c + 1), e, w, rg, upd op c p0, upd ch c p1, upd fi c p2, upd se c p3) (nI (c + 1), e, w, rg, upd op c p0, upd tg c q1, upd fi c p2, upd se c p3) := by
  refine ⟨c + 1, e, w, rg, _, _, _, _, _, rfl, rfl, by omega, fun j hj => ?_⟩
  rcases Nat.lt_or_ge j c with h | h
  · have hne : j ≠ c := by omega
    rw [pk_un hne, pk_un hne, pk_un hne, pk_un hne, pk_un hne]
    exact H j h
  · obtain rfl : j = c := by omega
    rw [pk_us, pk_us, pk_us, pk_us, pk_us]
    exact hn
end
end
section
section
variable {e w : Int32} {op ch fi se tg : Nat → Int32}
theorem pl_step {c i : Nat} (hi : i < c) (hc : c ≤ 16) (rg : Nat → Int64) (Hi : pl_Ok (op i) (ch i) (fi i) (se i) (tg i) i) : ∃ (rg' : Nat → Int64) (i' : Nat), i' ≤ c ∧ (∀ (post : Int32 → SX → Prop) (e w : Int32), post (nI i') (nI c, e, w, rg', op, ch, fi, se) → wpX_workOff post (nI c, e, w, rg, op, ch, fi, se) (nI i)) ∧ (∀ (post : Int32 → SY → Prop) (e w : Int32), post (nI i') (nI c, e, w, rg', op, tg, fi, se) → wpY_step post (nI c, e, w, rg, op, tg, fi, se) (nI i)) := by
  have hin : vp_in (nI i) 16 := vp_in_nI (by omega) (by decide)
  have hk : (nI i).toNatClampNeg = i := nI_clamp (by omega)
  obtain ⟨f, hf, ef, ⟨o, s, d, ho, hs, hd, eo, es, ec, et⟩ | ⟨s, hs, eo, es, ec⟩⟩ := Hi
  · have vf : vp_in (nI f) 6 := vp_in_nI hf (by decide)
    have vs : vp_in (nI s) 6 := vp_in_nI hs (by decide)
    have vd : vp_in (nI d) 6 := vp_in_nI hd (by decide)
    have kf : (nI f).toNatClampNeg = f := nI_clamp (by omega)
    have ks : (nI s).toNatClampNeg = s := nI_clamp (by omega)
    have kd : (nI d).toNatClampNeg = d := nI_clamp (by omega)
    have h16 : ¬ nI o = nI 16 := fun q => by
      have := (nI_eq (by omega) (by decide)).mp q
      omega
    have g16 : ¬ nI 16 ≤ nI o := nI_ge ho (by decide)
    obtain ⟨z, hX, hY⟩ := pl_result (rg f) (rg s) ho
    refine ⟨vp_updL rg d z, i + 1, by omega, fun post e w hp => ?_, fun post e w hp => ?_⟩
    · rw [← nI_1] at hp
      unfold wpX_workOff
      dsimp only
      rw [hk, eo, ef, es, ec, kf, ks, kd]
      exact ⟨hin, br_f h16 ⟨hin, vf, nm_e ⟨hin, vs, nm_e ⟨hin, hin, hX _ ⟨vd, nm_e hp⟩⟩⟩⟩⟩
    · rw [← nI_1] at hp
      unfold wpY_step
      dsimp only
      rw [hk, eo, ef, es, et, ks, kd]
      refine ⟨hin, fun x ex => ?_⟩
      subst ex
      rw [kf]
      exact ⟨hin, br_f g16 ⟨vf, nm_e ⟨hin, vs, nm_e ⟨hin, hin, hY _ _ _ _ _ _ _ _ _ ⟨vd, nm_e hp⟩⟩⟩⟩⟩
  · have vf : vp_in (nI f) 6 := vp_in_nI hf (by decide)
    have kf : (nI f).toNatClampNeg = f := nI_clamp (by omega)
    by_cases z : rg f = 0
    · refine ⟨rg, i + 1, by omega, fun post e w hp => ?_, fun post e w hp => ?_⟩
      · rw [← nI_1] at hp
        unfold wpX_workOff wpX_workOffLoop
        dsimp only
        rw [hk, eo, ec]
        refine ⟨hin, br_t rfl ⟨hin, fun x ex => ?_⟩⟩
        subst ex
        rw [kf]
        exact ⟨vf, br_t z hp⟩
      · rw [← nI_1] at hp
        unfold wpY_step
        dsimp only
        rw [hk, eo, ef]
        refine ⟨hin, fun x ex => ?_⟩
        subst ex
        rw [kf]
        exact ⟨hin, br_t (by decide) ⟨vf, br_t z hp⟩⟩
    · refine ⟨vp_updL rg f (rg f - 1), s, by omega, fun post e w hp => ?_, fun post e w hp => ?_⟩
      · unfold wpX_workOff wpX_workOffLoop
        dsimp only
        rw [hk, eo, ec, es]
        refine ⟨hin, br_t rfl ⟨hin, fun x ex => ?_⟩⟩
        subst ex
        rw [kf]
        exact ⟨vf, br_f z ⟨vf, vf, nm_e ⟨hin, hp⟩⟩⟩
      · unfold wpY_step
        dsimp only
        rw [hk, eo, ef, es]
        refine ⟨hin, fun x ex => ?_⟩
        subst ex
        rw [kf]
        exact ⟨hin, br_t (by decide) ⟨vf, br_f z ⟨vf, vf, nm_e ⟨hin, hp⟩⟩⟩⟩
theorem pl_run {c : Nat} (hc : c ≤ 16) (H : ∀ j, j < c → pl_Ok (op j) (ch j) (fi j) (se j) (tg j) j) (e : Int32) : ∀ (d m i : Nat) (rg : Nat → Int64), m + d = 300 → i ≤ c → ∃ (rg' : Nat → Int64) (x w' : Int32), (∀ (post : Int32 → SX → Prop) (w : Int32), post x (nI c, x, w', rg', op, ch, fi, se) → wX_run_4 post (d + 1) (nI i) (nI m) (nI c) e w rg op ch fi se) ∧ (∀ (post : Int32 → SY → Prop), post x (nI c, x, w', rg', op, tg, fi, se) → wY_run_7 post (d + 1) (nI i) (nI c) e (nI m) rg op tg fi se) := by
  intro d
  induction d with
  | zero =>
    intro m i rg hm hi
    have h300 : nI 300 ≤ nI m := nI_le (by omega) (by omega)
    rcases Nat.lt_or_ge i c with h | h
    · have hg : ¬ nI c ≤ nI i := nI_ge h (by omega)
      exact ⟨rg, 2, nI m, fun post w hp => br_t h300 (br_f hg hp), fun post hp => br_f hg (br_t h300 (br_f hg hp))⟩
    · have hg : nI c ≤ nI i := nI_le h (by omega)
      exact ⟨rg, 1, nI m, fun post w hp => br_t h300 (br_t hg hp), fun post hp => br_t hg (br_t hg hp)⟩
  | succ d ih =>
    intro m i rg hm hi
    have h300 : ¬ nI 300 ≤ nI m := nI_ge (by omega) (by decide)
    rcases Nat.lt_or_ge i c with h | h
    · have hg : ¬ nI c ≤ nI i := nI_ge h (by omega)
      obtain ⟨rg1, i1, h1, hX1, hY1⟩ := pl_step (op := op) (ch := ch) (fi := fi) (se := se) (tg := tg) h hc rg (H i h)
      obtain ⟨rg2, x, w', hX, hY⟩ := ih (m + 1) i1 rg1 (by omega) h1
      refine ⟨rg2, x, w', fun post w hp => br_f h300 (br_f hg (hX1 _ e w ?_)), fun post hp => br_f hg (br_f h300 (hY1 _ e (nI m) ?_))⟩
      · intro y ey
        rw [nI_1] at ey
        subst ey
        exact hX post w hp
      · intro y ey
        rw [nI_1] at ey
        subst ey
        exact hY post hp
    · have hg : nI c ≤ nI i := nI_le h (by omega)
      exact ⟨rg, 1, nI m, fun post w hp => br_f h300 (br_t hg (br_t hg hp)), fun post hp => br_t hg (br_t hg hp)⟩
theorem pl_ones {c : Int32} (rg : Nat → Int64) {j : Nat} (hj : j < 6) : ∀ (d i : Nat) (x : Int32), i + d = 64 → ∃ r : Int32, (∀ post : Int32 → Prop, post r → wX_ones_13 post (nI j) c e w rg op ch fi se (d + 1) x (nI i)) ∧ (∀ post : Int32 → Prop, post r → wY_ones_12 post (rg j) c e w rg op tg fi se (d + 1) x (nI i)) := by
  have hin : vp_in (nI j) 6 := vp_in_nI hj (by decide)
  have hk : (nI j).toNatClampNeg = j := nI_clamp (by omega)
  intro d
  induction d with
  | zero =>
    intro i x hi
    have h64 : nI 64 ≤ nI i := nI_le (by omega) (by omega)
    exact ⟨x, fun post hp => br_t h64 hp, fun post hp => br_t h64 hp⟩
  | succ d ih =>
    intro i x hi
    have h64 : ¬ nI 64 ≤ nI i := nI_ge (by omega) (by decide)
    have hb := pl_bitE (rg j) (show i < 64 by omega)
    rcases pl_and1 ((rg j).toUInt64 >>> ((nI i).toInt64.toUInt64 &&& Int64.toUInt64 63)).toInt64 with b | b
    · obtain ⟨r, hX, hY⟩ := ih (i + 1) x (by omega)
      refine ⟨r, fun post hp => br_f h64 ⟨hin, fun y ey z ez => ?_⟩, fun post hp => br_f h64 (br_f ?_ (fun z ez => ?_))⟩
      · rw [hk, b, pl_i0, Int32.add_zero] at ey
        rw [nI_1] at ez
        subst ey ez
        exact hX post hp
      · rw [hb, b]
        decide
      · rw [nI_1] at ez
        subst ez
        exact hY post hp
    · obtain ⟨r, hX, hY⟩ := ih (i + 1) (x + 1) (by omega)
      refine ⟨r, fun post hp => br_f h64 ⟨hin, fun y ey z ez => ?_⟩, fun post hp => br_f h64 (br_t (hb.trans b) (fun y ey z ez => ?_))⟩
      · rw [hk, b, pl_i1] at ey
        rw [nI_1] at ez
        subst ey ez
        exact hX post hp
      · rw [nI_1] at ez
        subst ey ez
        exact hY post hp
theorem pl_ones0 {c : Int32} (rg : Nat → Int64) (post : Int32 → Prop) (x : Int32) (hp : post x) : ∀ (d i : Nat), i + d = 64 → wY_ones_12 post 0 c e w rg op tg fi se (d + 1) x (nI i) := by
  intro d
  induction d with
  | zero =>
    intro i hi
    exact br_t (nI_le (a := 64) (by omega) (by omega)) hp
  | succ d ih =>
    intro i hi
    refine br_f (nI_ge (b := 64) (by omega) (by decide)) (br_f (pl_d0 i (by omega)) (fun z ez => ?_))
    rw [nI_1] at ez
    subst ez
    exact ih (i + 1) (by omega)
theorem pl_total {c : Int32} (rg : Nat → Int64) : ∀ (d i : Nat) (x : Int64), i + d = 6 → ∃ r : Int64, (∀ post : Int64 → Prop, post r → wX_total_4 post c e w rg op ch fi se (d + 1) x (nI i)) ∧ (∀ post : Int64 → Prop, post r → wY_total_4 post c e w rg op tg fi se (d + 1) x (nI i)) := by
  intro d
  induction d with
  | zero =>
    intro i x hi
    have h6 : nI 6 ≤ nI i := nI_le (by omega) (by omega)
    exact ⟨x, fun post hp => br_t h6 hp, fun post hp => br_t h6 hp⟩
  | succ d ih =>
    intro i x hi
    have h6 : ¬ nI 6 ≤ nI i := nI_ge (by omega) (by decide)
    have hin : vp_in (nI i) 6 := vp_in_nI (by omega) (by decide)
    obtain ⟨r, hX, hY⟩ := ih (i + 1) (x + rg (nI i).toNatClampNeg) (by omega)
    refine ⟨r, fun post hp => br_f h6 ⟨hin, fun y ey z ez => ?_⟩, fun post hp => br_f h6 ⟨hin, fun y ey z ez => ?_⟩⟩
    · rw [nI_1] at ez
      subst ey ez
      exact hX post hp
    · rw [nI_1] at ez
      subst ey ez
      exact hY post hp
end
end
section
theorem i_up {k : Nat} {u : SX} {v : SY} (h : i_Rel k u v) : i_Rel (k + 5) u v := h
theorem i_vc0 : wpX_init (fun u => wpY_init (fun v => i_Rel 0 u v)) := ⟨0, 0, 0, fun _ => 0, fun _ => 0, fun _ => 0, fun _ => 0, fun _ => 0, fun _ => 0, rfl, rfl, by omega, fun j hj => absurd hj (Nat.not_lt_zero j)⟩
theorem i_vc_append {k : Nat} {u : SX} {v : SY} (I : i_Rel k u v) (hk : k + 5 ≤ 2560) (v1 : Int32) (v2 : Int32) (v3 : Int32) (v4 : Int32) : wpX_append (fun r u' => wpY_append (fun r' v' => r' = r ∧ i_Rel (k + 5) u' v') v v1 v2 v3 v4) u v1 v2 v3 v4 := by
  obtain ⟨c, e, w, rg, op, ch, fi, se, tg, rfl, rfl, hc, H⟩ := I
  have J : i_Rel (k + 5) (nI c, e, w, rg, op, ch, fi, se) (nI c, e, w, rg, op, tg, fi, se) := ⟨c, e, w, rg, op, ch, fi, se, tg, rfl, rfl, hc, H⟩
  rcases pl_ix v1 16 with h | ⟨j, h16, hj, rfl⟩ | ⟨o, ho, _, rfl⟩
  · exact br_t h (br_t h ⟨rfl, J⟩)
  · exact br_f (nI_pos hj) (br_f (nI_ge (a := 15) (by omega) hj) (br_f (nI_pos hj) (br_t (nI_lt (a := 15) (by omega) hj) ⟨rfl, J⟩)))
  have o0 : ¬ nI o < 0 := nI_pos (by omega)
  have o1 : nI o ≤ nI 15 := nI_le (by omega) (by decide)
  have o2 : ¬ nI 15 < nI o := nI_nlt (by omega) (by decide)
  rcases pl_reg v2 with n2 | ⟨d, hd, rfl⟩
  · exact br_f o0 (br_t o1 (pl_xr0 n2 (br_t rfl (br_f o0 (br_f o2 (pl_yr0 n2 (br_t rfl ⟨rfl, J⟩)))))))
  rcases pl_reg v3 with n3 | ⟨a, ha, rfl⟩
  · exact br_f o0 (br_t o1 (pl_xr1 hd (br_f pl_10 (pl_xr0 n3 (br_t rfl (br_f o0 (br_f o2 (pl_yr1 hd (br_f pl_10 (pl_yr0 n3 (br_t rfl ⟨rfl, J⟩)))))))))))
  rcases pl_reg v4 with n4 | ⟨b, hb, rfl⟩
  · exact br_f o0 (br_t o1 (pl_xr1 hd (br_f pl_10 (pl_xr1 ha (br_f pl_10 (pl_xr0 n4 (br_t rfl (br_f o0 (br_f o2 (pl_yr1 hd (br_f pl_10 (pl_yr1 ha (br_f pl_10 (pl_yr0 n4 (br_t rfl ⟨rfl, J⟩)))))))))))))))
  refine br_f o0 (br_t o1 (pl_xr1 hd (br_f pl_10 (pl_xr1 ha (br_f pl_10 (pl_xr1 hb (br_f pl_10 ?_)))))))
  rcases Nat.lt_or_ge c 16 with h | h
  · refine pl_place h _ _ _ _ ?_
    refine br_f o0 (br_f o2 (pl_yr1 hd (br_f pl_10 (pl_yr1 ha (br_f pl_10 (pl_yr1 hb (br_f pl_10 (pl_put h _ _ _ _ ?_))))))))
    exact ⟨rfl, pl_new (k + 5) h H ⟨a, ha, rfl, Or.inl ⟨o, b, d, ho, hb, hd, rfl, rfl, rfl, rfl⟩⟩⟩
  · obtain rfl : c = 16 := by omega
    refine pl_placeF _ _ _ _ ?_
    refine br_f o0 (br_f o2 (pl_yr1 hd (br_f pl_10 (pl_yr1 ha (br_f pl_10 (pl_yr1 hb (br_f pl_10 (pl_putF _ _ _ _ ?_))))))))
    exact ⟨rfl, J⟩
theorem i_vc_loop {k : Nat} {u : SX} {v : SY} (I : i_Rel k u v) (hk : k + 5 ≤ 2560) (v1 : Int32) (v2 : Int32) : wpX_loop (fun r u' => wpY_loop (fun r' v' => r' = r ∧ i_Rel (k + 5) u' v') v v1 v2) u v1 v2 := by
  obtain ⟨c, e, w, rg, op, ch, fi, se, tg, rfl, rfl, hc, H⟩ := I
  have J : i_Rel (k + 5) (nI c, e, w, rg, op, ch, fi, se) (nI c, e, w, rg, op, tg, fi, se) := ⟨c, e, w, rg, op, ch, fi, se, tg, rfl, rfl, hc, H⟩
  unfold wpX_loop wpY_loop
  dsimp only
  rcases pl_reg v1 with n1 | ⟨a, ha, rfl⟩
  · exact pl_xr0 n1 (br_t rfl (pl_yr0 n1 (br_t rfl ⟨rfl, J⟩)))
  refine pl_xr1 ha (br_f pl_10 ?_)
  rcases pl_ix v2 (c + 1) with h | ⟨j, hc1, hj, rfl⟩ | ⟨s, hs, hs2, rfl⟩
  · exact br_t h (pl_yr1 ha (br_f pl_10 (br_t h ⟨rfl, J⟩)))
  · have q : ¬ nI j ≤ nI c := nI_ge (by omega) hj
    exact br_f (nI_pos hj) (br_f q (pl_yr1 ha (br_f pl_10 (br_f (nI_pos hj) (br_f q ⟨rfl, J⟩)))))
  have s0 : ¬ nI s < 0 := nI_pos hs2
  have s1 : nI s ≤ nI c := nI_le (by omega) (by omega)
  refine br_f s0 (br_t s1 ?_)
  rcases Nat.lt_or_ge c 16 with h | h
  · refine pl_place h _ _ _ _ ?_
    refine pl_yr1 ha (br_f pl_10 (br_f s0 (br_t s1 (pl_put h _ _ _ _ ?_))))
    exact ⟨rfl, pl_new (k + 5) h H ⟨a, ha, rfl, Or.inr ⟨s, by omega, rfl, rfl, rfl⟩⟩⟩
  · obtain rfl : c = 16 := by omega
    refine pl_placeF _ _ _ _ ?_
    refine pl_yr1 ha (br_f pl_10 (br_f s0 (br_t s1 (pl_putF _ _ _ _ ?_))))
    exact ⟨rfl, J⟩
theorem i_vc_size {k : Nat} {u : SX} {v : SY} (I : i_Rel k u v) (hk : k + 5 ≤ 2560) : wpX_size (fun r => wpY_size (fun r' => r' = r ∧ i_Rel (k + 5) u v) v) u := by
  obtain ⟨c, e, w, rg, op, ch, fi, se, tg, rfl, rfl, hc, H⟩ := I
  exact ⟨rfl, c, e, w, rg, op, ch, fi, se, tg, rfl, rfl, hc, H⟩
theorem i_vc_unappend {k : Nat} {u : SX} {v : SY} (I : i_Rel k u v) (hk : k + 5 ≤ 2560) : wpX_unappend (fun r u' => wpY_unappend (fun r' v' => r' = r ∧ i_Rel (k + 5) u' v') v) u := by
  obtain ⟨c, e, w, rg, op, ch, fi, se, tg, rfl, rfl, hc, H⟩ := I
  cases c with
  | zero => exact br_t nI_0 (br_t nI_0 ⟨rfl, 0, e, w, rg, op, ch, fi, se, tg, rfl, rfl, hc, H⟩)
  | succ n =>
    have h0 : ¬ nI (n + 1) = 0 := nI_ne0 (by omega) (by omega)
    refine br_f h0 (nm_r (nI_pred n) (br_f h0 (nm_r (nI_pred n) ?_)))
    exact ⟨rfl, n, e, w, rg, op, ch, fi, se, tg, rfl, rfl, by omega, fun j hj => H j (by omega)⟩
theorem i_vc_clear {k : Nat} {u : SX} {v : SY} (I : i_Rel k u v) (hk : k + 5 ≤ 2560) : wpX_clear (fun u' => wpY_clear (fun v' => i_Rel (k + 5) u' v') v) u := by
  obtain ⟨c, e, w, rg, op, ch, fi, se, tg, rfl, rfl, hc, H⟩ := I
  exact ⟨0, e, w, rg, op, ch, fi, se, tg, rfl, rfl, by omega, fun j hj => absurd hj (Nat.not_lt_zero j)⟩
theorem i_vc_set {k : Nat} {u : SX} {v : SY} (I : i_Rel k u v) (hk : k + 5 ≤ 2560) (v1 : Int32) (a1 : Int64) : wpX_set (fun r u' => wpY_set (fun r' v' => r' = r ∧ i_Rel (k + 5) u' v') v v1 a1) u v1 a1 := by
  obtain ⟨c, e, w, rg, op, ch, fi, se, tg, rfl, rfl, hc, H⟩ := I
  unfold wpX_set wpY_set
  dsimp only
  rcases pl_reg v1 with n1 | ⟨a, ha, rfl⟩
  · exact pl_xr0 n1 (br_t rfl (pl_yr0 n1 (br_t rfl ⟨rfl, c, e, w, rg, op, ch, fi, se, tg, rfl, rfl, hc, H⟩)))
  · have va : vp_in (nI a) 6 := vp_in_nI ha (by decide)
    refine pl_xr1 ha (br_f pl_10 ⟨va, nm_e ?_⟩)
    refine pl_yr1 ha (br_f pl_10 ⟨va, nm_e ?_⟩)
    exact ⟨rfl, c, e, w, _, op, ch, fi, se, tg, rfl, rfl, hc, H⟩
theorem i_vc_get {k : Nat} {u : SX} {v : SY} (I : i_Rel k u v) (hk : k + 5 ≤ 2560) (v1 : Int32) : wpX_get (fun r => wpY_get (fun r' => r' = r ∧ i_Rel (k + 5) u v) v v1) u v1 := by
  obtain ⟨c, e, w, rg, op, ch, fi, se, tg, rfl, rfl, hc, H⟩ := I
  have J : i_Rel (k + 5) (nI c, e, w, rg, op, ch, fi, se) (nI c, e, w, rg, op, tg, fi, se) := ⟨c, e, w, rg, op, ch, fi, se, tg, rfl, rfl, hc, H⟩
  unfold wpX_get
  dsimp only
  rcases pl_reg v1 with n1 | ⟨a, ha, rfl⟩
  · exact pl_xr0 n1 (br_t rfl (pl_yget0 n1 ⟨rfl, J⟩))
  · have q : (nI a).toNatClampNeg = a := nI_clamp (by omega)
    rw [q]
    exact pl_xr1 ha (br_f pl_10 ⟨vp_in_nI ha (by decide), pl_yget1 ha ⟨rfl, J⟩⟩)
theorem i_vc_sign {k : Nat} {u : SX} {v : SY} (I : i_Rel k u v) (hk : k + 5 ≤ 2560) (v1 : Int32) : wpX_sign (fun r => wpY_sign (fun r' => r' = r ∧ i_Rel (k + 5) u v) v v1) u v1 := by
  obtain ⟨c, e, w, rg, op, ch, fi, se, tg, rfl, rfl, hc, H⟩ := I
  have J : i_Rel (k + 5) (nI c, e, w, rg, op, ch, fi, se) (nI c, e, w, rg, op, tg, fi, se) := ⟨c, e, w, rg, op, ch, fi, se, tg, rfl, rfl, hc, H⟩
  unfold wpX_sign wpY_sign
  dsimp only
  rcases pl_reg v1 with n1 | ⟨a, ha, rfl⟩
  · exact pl_xr0 n1 (br_t rfl (pl_yget0 n1 (br_t (by decide) (br_t (by decide) ⟨rfl, J⟩))))
  · have q : (nI a).toNatClampNeg = a := nI_clamp (by omega)
    have va : vp_in (nI a) 6 := vp_in_nI ha (by decide)
    rw [q]
    refine pl_xr1 ha (br_f pl_10 ⟨va, ?_⟩)
    by_cases z : rg a = 0
    · have z1 : 0 ≤ rg a := by rw [z]; decide
      have z2 : rg a ≤ 0 := by rw [z]; decide
      exact br_t z (pl_yget1 ha (br_t z1 (br_t z2 ⟨rfl, J⟩)))
    · refine br_f z ⟨va, ?_⟩
      by_cases p : 0 ≤ rg a
      · have p2 : ¬ rg a ≤ 0 := fun y => z (Int64.le_antisymm_iff.mpr ⟨y, p⟩)
        exact br_t p (pl_yget1 ha (br_t p (br_f p2 ⟨rfl, J⟩)))
      · exact br_f p (pl_yget1 ha (br_f p ⟨rfl, J⟩))
theorem i_vc_run {k : Nat} {u : SX} {v : SY} (I : i_Rel k u v) (hk : k + 5 ≤ 2560) : wpX_run (fun r u' => wpY_run (fun r' v' => r' = r ∧ i_Rel (k + 5) u' v') v) u := by
  obtain ⟨c, e, w, rg, op, ch, fi, se, tg, rfl, rfl, hc, H⟩ := I
  obtain ⟨rg', x, w', hX, hY⟩ := pl_run hc H e 300 0 0 rg rfl (Nat.zero_le c)
  rw [nI_0] at hX hY
  unfold wpX_run wpY_run
  dsimp only
  exact ⟨301, hX _ w ⟨301, hY _ ⟨rfl, c, x, w', rg', op, ch, fi, se, tg, rfl, rfl, hc, H⟩⟩⟩
theorem i_vc_ending {k : Nat} {u : SX} {v : SY} (I : i_Rel k u v) (hk : k + 5 ≤ 2560) : wpX_ending (fun r => wpY_ending (fun r' => r' = r ∧ i_Rel (k + 5) u v) v) u := by
  obtain ⟨c, e, w, rg, op, ch, fi, se, tg, rfl, rfl, hc, H⟩ := I
  exact ⟨rfl, c, e, w, rg, op, ch, fi, se, tg, rfl, rfl, hc, H⟩
theorem i_vc_worked {k : Nat} {u : SX} {v : SY} (I : i_Rel k u v) (hk : k + 5 ≤ 2560) : wpX_worked (fun r => wpY_worked (fun r' => r' = r ∧ i_Rel (k + 5) u v) v) u := by
  obtain ⟨c, e, w, rg, op, ch, fi, se, tg, rfl, rfl, hc, H⟩ := I
  exact ⟨rfl, c, e, w, rg, op, ch, fi, se, tg, rfl, rfl, hc, H⟩
theorem i_vc_ones {k : Nat} {u : SX} {v : SY} (I : i_Rel k u v) (hk : k + 5 ≤ 2560) (v1 : Int32) : wpX_ones (fun r => wpY_ones (fun r' => r' = r ∧ i_Rel (k + 5) u v) v v1) u v1 := by
  obtain ⟨c, e, w, rg, op, ch, fi, se, tg, rfl, rfl, hc, H⟩ := I
  have J : i_Rel (k + 5) (nI c, e, w, rg, op, ch, fi, se) (nI c, e, w, rg, op, tg, fi, se) := ⟨c, e, w, rg, op, ch, fi, se, tg, rfl, rfl, hc, H⟩
  unfold wpX_ones wpY_ones
  dsimp only
  rcases pl_reg v1 with n1 | ⟨a, ha, rfl⟩
  · refine pl_xr0 n1 (br_t rfl (pl_yget0 n1 ⟨65, ?_⟩))
    exact pl_ones0 rg _ 0 ⟨rfl, J⟩ 64 0 rfl
  · obtain ⟨r, hX, hY⟩ := pl_ones (c := nI c) (e := e) (w := w) (op := op) (ch := ch) (fi := fi) (se := se) (tg := tg) rg ha 64 0 0 rfl
    rw [nI_0] at hX hY
    exact pl_xr1 ha (br_f pl_10 ⟨65, hX _ (pl_yget1 ha ⟨65, hY _ ⟨rfl, J⟩⟩)⟩)
theorem i_vc_total {k : Nat} {u : SX} {v : SY} (I : i_Rel k u v) (hk : k + 5 ≤ 2560) : wpX_total (fun r => wpY_total (fun r' => r' = r ∧ i_Rel (k + 5) u v) v) u := by
  obtain ⟨c, e, w, rg, op, ch, fi, se, tg, rfl, rfl, hc, H⟩ := I
  obtain ⟨r, hX, hY⟩ := pl_total (c := nI c) (e := e) (w := w) (op := op) (ch := ch) (fi := fi) (se := se) (tg := tg) rg 6 0 0 rfl
  rw [nI_0] at hX hY
  unfold wpX_total wpY_total
  dsimp only
  exact ⟨7, hX _ ⟨7, hY _ ⟨rfl, c, e, w, rg, op, ch, fi, se, tg, rfl, rfl, hc, H⟩⟩⟩
end
