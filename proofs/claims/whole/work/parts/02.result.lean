/-! what the class's result and the reference's answer for the instructions 0 to 15 -/
def pl_RR (o : Nat) (a b : Int64) : Prop := ∃ z : Int64, (∀ post : Int64 → Prop, post z → wpX_result post (nI o) a b) ∧ (∀ (post : Int64 → Prop) (s e w : Int32) (rg : Nat → Int64) (ki ta fi se : Nat → Int32), post z → wpY_result post (s, e, w, rg, ki, ta, fi, se) (nI o) a b)
section
variable {s e w : Int32} {rg : Nat → Int64} {ki ta fi se : Nat → Int32}
theorem pl_below0 {a b : Int64} (h : uN b ≤ uN a) {post : Int32 → Prop} (hp : post 0) : wpY_isBelow post (s, e, w, rg, ki, ta, fi, se) a b := by
  by_cases ha : 0 ≤ a
  · have ka := (pl_sg a).mp ha
    by_cases hb : 0 ≤ b
    · have kb := (pl_sg b).mp hb
      exact br_t ha (br_t hb (br_t rfl (br_t ((pl_le a b ⟨fun _ => kb, fun _ => ka⟩).mpr h) hp)))
    · have kb : ¬ uN b < 9223372036854775808 := fun q => hb ((pl_sg b).mpr q)
      exact absurd h (by omega)
  · have ka : ¬ uN a < 9223372036854775808 := fun q => ha ((pl_sg a).mpr q)
    by_cases hb : 0 ≤ b
    · exact br_f ha (br_t hb (br_f pl_10 (br_t hb hp)))
    · have kb : ¬ uN b < 9223372036854775808 := fun q => hb ((pl_sg b).mpr q)
      exact br_f ha (br_f hb (br_t rfl (br_t ((pl_le a b ⟨fun q => absurd q ka, fun q => absurd q kb⟩).mpr h) hp)))
theorem pl_below1 {a b : Int64} (h : ¬ uN b ≤ uN a) {post : Int32 → Prop} (hp : post 1) : wpY_isBelow post (s, e, w, rg, ki, ta, fi, se) a b := by
  by_cases ha : 0 ≤ a
  · have ka := (pl_sg a).mp ha
    by_cases hb : 0 ≤ b
    · have kb := (pl_sg b).mp hb
      exact br_t ha (br_t hb (br_t rfl (br_f (fun q => h ((pl_le a b ⟨fun _ => kb, fun _ => ka⟩).mp q)) hp)))
    · exact br_t ha (br_f hb (br_f (by decide) (br_f hb hp)))
  · have ka : ¬ uN a < 9223372036854775808 := fun q => ha ((pl_sg a).mpr q)
    by_cases hb : 0 ≤ b
    · have kb := (pl_sg b).mp hb
      exact absurd (show uN b ≤ uN a by omega) h
    · have kb : ¬ uN b < 9223372036854775808 := fun q => hb ((pl_sg b).mpr q)
      exact br_f ha (br_f hb (br_t rfl (br_f (fun q => h ((pl_le a b ⟨fun q => absurd q ka, fun q => absurd q kb⟩).mp q)) hp)))
end
theorem pl_r0 (a b : Int64) : pl_RR 0 a b := ⟨_, fun post hp => br_t (by decide) hp, fun post s e w rg ki ta fi se hp => br_f (by decide) (br_t rfl hp)⟩
theorem pl_r1 (a b : Int64) : pl_RR 1 a b := ⟨_, fun post hp => br_f (by decide) (br_f (by decide) (br_t rfl hp)), fun post s e w rg ki ta fi se hp => br_f (by decide) (br_f (by decide) (br_t rfl hp))⟩
theorem pl_r2 (a b : Int64) : pl_RR 2 a b := ⟨_, fun post hp => br_f (by decide) (br_f (by decide) (br_f (by decide) (br_t rfl hp))), fun post s e w rg ki ta fi se hp => br_f (by decide) (br_f (by decide) (br_f (by decide) (br_t rfl hp)))⟩
theorem pl_r3 (a b : Int64) : pl_RR 3 a b := ⟨_, fun post hp => br_f (by decide) (br_f (by decide) (br_f (by decide) (br_f (by decide) (br_t rfl hp)))), fun post s e w rg ki ta fi se hp => br_f (by decide) (br_f (by decide) (br_f (by decide) (br_f (by decide) (br_t rfl hp))))⟩
theorem pl_r4 (a b : Int64) : pl_RR 4 a b := ⟨_, fun post hp => br_f (by decide) (br_f (by decide) (br_f (by decide) (br_f (by decide) (br_f (by decide) (br_t rfl hp))))), fun post s e w rg ki ta fi se hp => br_f (by decide) (br_f (by decide) (br_f (by decide) (br_f (by decide) (br_f (by decide) (br_t rfl hp)))))⟩
theorem pl_r5 (a b : Int64) : pl_RR 5 a b := ⟨_, fun post hp => br_f (by decide) (br_f (by decide) (br_f (by decide) (br_f (by decide) (br_f (by decide) (br_f (by decide) (br_t rfl hp)))))), fun post s e w rg ki ta fi se hp => br_f (by decide) (br_f (by decide) (br_f (by decide) (br_f (by decide) (br_f (by decide) (br_f (by decide) (br_t rfl hp))))))⟩
theorem pl_r6 (a b : Int64) : pl_RR 6 a b := ⟨_, fun post hp => br_f (by decide) (br_f (by decide) (br_f (by decide) (br_f (by decide) (br_f (by decide) (br_f (by decide) (br_f (by decide) (br_t rfl hp))))))), fun post s e w rg ki ta fi se hp => br_f (by decide) (br_f (by decide) (br_f (by decide) (br_f (by decide) (br_f (by decide) (br_f (by decide) (br_f (by decide) hp))))))⟩
theorem pl_r7 (a b : Int64) : pl_RR 7 a b := ⟨_, fun post hp => br_f (by decide) (br_f (by decide) (br_f (by decide) (br_f (by decide) (br_f (by decide) (br_f (by decide) (br_f (by decide) (br_f (by decide) (br_t rfl hp)))))))), fun post s e w rg ki ta fi se hp => br_t (by decide) (br_f (by decide) (nm_e (br_t rfl hp)))⟩
theorem pl_r8 (a b : Int64) : pl_RR 8 a b := ⟨_, fun post hp => br_f (by decide) (br_f (by decide) (br_f (by decide) (br_f (by decide) (br_f (by decide) (br_f (by decide) (br_f (by decide) (br_f (by decide) (br_f (by decide) (br_t rfl hp))))))))), fun post s e w rg ki ta fi se hp => br_t (by decide) (br_f (by decide) (nm_e (br_f (by decide) (br_t rfl hp))))⟩
theorem pl_r9 (a b : Int64) : pl_RR 9 a b := ⟨_, fun post hp => br_f (by decide) (br_f (by decide) (br_f (by decide) (br_f (by decide) (br_f (by decide) (br_f (by decide) (br_f (by decide) (br_f (by decide) (br_f (by decide) (br_f (by decide) (br_t rfl hp)))))))))), fun post s e w rg ki ta fi se hp => br_t (by decide) (br_f (by decide) (nm_e (br_f (by decide) (br_f (by decide) hp))))⟩
theorem pl_r10 (a b : Int64) : pl_RR 10 a b := by
  by_cases h : b ≤ a
  · exact ⟨0, fun post hp => br_f (by decide) (br_f (by decide) (br_f (by decide) (br_f (by decide) (br_f (by decide) (br_f (by decide) (br_f (by decide) (br_f (by decide) (br_f (by decide) (br_f (by decide) (br_f (by decide) (br_t rfl (br_t h hp)))))))))))), fun post s e w rg ki ta fi se hp => br_t (by decide) (br_t (by decide) (br_f (by decide) (br_t rfl (br_t h (br_t rfl hp)))))⟩
  · exact ⟨1, fun post hp => br_f (by decide) (br_f (by decide) (br_f (by decide) (br_f (by decide) (br_f (by decide) (br_f (by decide) (br_f (by decide) (br_f (by decide) (br_f (by decide) (br_f (by decide) (br_f (by decide) (br_t rfl (br_f h hp)))))))))))), fun post s e w rg ki ta fi se hp => br_t (by decide) (br_t (by decide) (br_f (by decide) (br_t rfl (br_f h (br_f pl_10 hp)))))⟩
theorem pl_r11 (a b : Int64) : pl_RR 11 a b := by
  by_cases h : uN b ≤ uN a
  · exact ⟨0, fun post hp => br_f (by decide) (br_f (by decide) (br_f (by decide) (br_f (by decide) (br_f (by decide) (br_f (by decide) (br_f (by decide) (br_f (by decide) (br_f (by decide) (br_f (by decide) (br_f (by decide) (br_f (by decide) (br_t rfl (br_t ((uN_le b a).mpr h) hp))))))))))))), fun post s e w rg ki ta fi se hp => br_t (by decide) (br_t (by decide) (br_f (by decide) (br_f (by decide) (br_t rfl (pl_below0 h (br_t rfl hp))))))⟩
  · exact ⟨1, fun post hp => br_f (by decide) (br_f (by decide) (br_f (by decide) (br_f (by decide) (br_f (by decide) (br_f (by decide) (br_f (by decide) (br_f (by decide) (br_f (by decide) (br_f (by decide) (br_f (by decide) (br_f (by decide) (br_t rfl (br_f (fun q => h ((uN_le b a).mp q)) hp))))))))))))), fun post s e w rg ki ta fi se hp => br_t (by decide) (br_t (by decide) (br_f (by decide) (br_f (by decide) (br_t rfl (pl_below1 h (br_f pl_10 hp))))))⟩
theorem pl_r12 (a b : Int64) : pl_RR 12 a b := by
  by_cases h : a = b
  · exact ⟨1, fun post hp => br_f (by decide) (br_f (by decide) (br_f (by decide) (br_f (by decide) (br_f (by decide) (br_f (by decide) (br_f (by decide) (br_f (by decide) (br_f (by decide) (br_f (by decide) (br_f (by decide) (br_f (by decide) (br_f (by decide) (br_t rfl (br_t h hp)))))))))))))), fun post s e w rg ki ta fi se hp => br_t (by decide) (br_t (by decide) (br_f (by decide) (br_f (by decide) (br_f (by decide) (br_t h (br_f pl_10 hp))))))⟩
  · exact ⟨0, fun post hp => br_f (by decide) (br_f (by decide) (br_f (by decide) (br_f (by decide) (br_f (by decide) (br_f (by decide) (br_f (by decide) (br_f (by decide) (br_f (by decide) (br_f (by decide) (br_f (by decide) (br_f (by decide) (br_f (by decide) (br_t rfl (br_f h hp)))))))))))))), fun post s e w rg ki ta fi se hp => br_t (by decide) (br_t (by decide) (br_f (by decide) (br_f (by decide) (br_f (by decide) (br_f h (br_t rfl hp))))))⟩
theorem pl_r13 (a b : Int64) : pl_RR 13 a b := ⟨_, fun post hp => br_f (by decide) (br_f (by decide) (br_f (by decide) (br_f (by decide) (br_f (by decide) (br_f (by decide) (br_f (by decide) (br_f (by decide) (br_f (by decide) (br_f (by decide) (br_f (by decide) (br_f (by decide) (br_f (by decide) (br_f (by decide) (br_t rfl hp)))))))))))))), fun post s e w rg ki ta fi se hp => br_t (by decide) (br_t (by decide) (br_t (by decide) (br_t rfl hp)))⟩
theorem pl_r14 (a b : Int64) : pl_RR 14 a b := ⟨_, fun post hp => br_f (by decide) (br_f (by decide) (br_f (by decide) (br_f (by decide) (br_f (by decide) (br_f (by decide) (br_f (by decide) (br_f (by decide) (br_f (by decide) (br_f (by decide) (br_f (by decide) (br_f (by decide) (br_f (by decide) (br_f (by decide) (br_f (by decide) (br_t rfl hp))))))))))))))), fun post s e w rg ki ta fi se hp => br_t (by decide) (br_t (by decide) (br_t (by decide) (br_f (by decide) (br_t rfl hp))))⟩
theorem pl_r15 (a b : Int64) : pl_RR 15 a b := ⟨_, fun post hp => br_f (by decide) (br_f (by decide) (br_f (by decide) (br_f (by decide) (br_f (by decide) (br_f (by decide) (br_f (by decide) (br_f (by decide) (br_f (by decide) (br_f (by decide) (br_f (by decide) (br_f (by decide) (br_f (by decide) (br_f (by decide) (br_f (by decide) (br_f (by decide) (br_t rfl hp)))))))))))))))), fun post s e w rg ki ta fi se hp => br_t (by decide) (br_t (by decide) (br_t (by decide) (br_f (by decide) (br_f (by decide) hp))))⟩
theorem pl_result (a b : Int64) {o : Nat} (ho : o < 16) : pl_RR o a b :=
  match o, ho with
  | 0, _ => pl_r0 a b
  | 1, _ => pl_r1 a b
  | 2, _ => pl_r2 a b
  | 3, _ => pl_r3 a b
  | 4, _ => pl_r4 a b
  | 5, _ => pl_r5 a b
  | 6, _ => pl_r6 a b
  | 7, _ => pl_r7 a b
  | 8, _ => pl_r8 a b
  | 9, _ => pl_r9 a b
  | 10, _ => pl_r10 a b
  | 11, _ => pl_r11 a b
  | 12, _ => pl_r12 a b
  | 13, _ => pl_r13 a b
  | 14, _ => pl_r14 a b
  | 15, _ => pl_r15 a b
  | n + 16, h => absurd h (by omega)
