section
variable {e w : Int32} {op ch fi se tg : Nat → Int32}
theorem pl_step {c i : Nat} (hi : i < c) (hc : c ≤ 16) (rg : Nat → Int64) (Hi : pl_Ok (op i) (ch i) (fi i) (se i) (tg i) i) : ∃ (rg' : Nat → Int64) (i' : Nat), i' ≤ c ∧ (∀ (post : Int32 → SX → Prop) (e w : Int32), post (nI i') (nI c, e, w, rg', op, ch, fi, se) → wpX_workOff post (nI c, e, w, rg, op, ch, fi, se) (nI i)) ∧ (∀ (post : Int32 → SY → Prop) (e w : Int32), post (nI i') (nI c, e, w, rg', op, tg, fi, se) → wpY_step post (nI c, e, w, rg, op, tg, fi, se) (nI i)) := by
  have hin : vp_in (nI i) 16 := vp_in_nI (by omega) (by decide)
  have hk : (nI i).toNatClampNeg = i := nI_clamp (by omega)
  obtain ⟨f, hf, ef, ⟨o, s, d, ho, hs, hd, eo, es, ec, et⟩ | ⟨s, hs, eo, es, ec⟩⟩ := Hi
  · have vf : vp_in (nI f) 6 := vp_in_nI hf (by decide)
    have vs : vp_in (nI s) 6 := vp_in_nI hs (by decide)
    have vd : vp_in (nI d) 6 := vp_in_nI hd (by decide)
    have kf : (nI f).toNatClampNeg = f := nI_clamp (by omega)
    have ks : (nI s).toNatClampNeg = s := nI_clamp (by omega)
    have kd : (nI d).toNatClampNeg = d := nI_clamp (by omega)
    have h16 : ¬ nI o = nI 16 := fun q => by
      have := (nI_eq (by omega) (by decide)).mp q
      omega
    have g16 : ¬ nI 16 ≤ nI o := nI_ge ho (by decide)
    obtain ⟨z, hX, hY⟩ := pl_result (rg f) (rg s) ho
    refine ⟨vp_updL rg d z, i + 1, by omega, fun post e w hp => ?_, fun post e w hp => ?_⟩
    · rw [← nI_1] at hp
      unfold wpX_workOff
      dsimp only
      rw [hk, eo, ef, es, ec, kf, ks, kd]
      exact ⟨hin, br_f h16 ⟨hin, vf, nm_e ⟨hin, vs, nm_e ⟨hin, hin, hX _ ⟨vd, nm_e hp⟩⟩⟩⟩⟩
    · rw [← nI_1] at hp
      unfold wpY_step
      dsimp only
      rw [hk, eo, ef, es, et, ks, kd]
      refine ⟨hin, fun x ex => ?_⟩
      subst ex
      rw [kf]
      exact ⟨hin, br_f g16 ⟨vf, nm_e ⟨hin, vs, nm_e ⟨hin, hin, hY _ _ _ _ _ _ _ _ _ ⟨vd, nm_e hp⟩⟩⟩⟩⟩
  · have vf : vp_in (nI f) 6 := vp_in_nI hf (by decide)
    have kf : (nI f).toNatClampNeg = f := nI_clamp (by omega)
    by_cases z : rg f = 0
    · refine ⟨rg, i + 1, by omega, fun post e w hp => ?_, fun post e w hp => ?_⟩
      · rw [← nI_1] at hp
        unfold wpX_workOff wpX_workOffLoop
        dsimp only
        rw [hk, eo, ec]
        refine ⟨hin, br_t rfl ⟨hin, fun x ex => ?_⟩⟩
        subst ex
        rw [kf]
        exact ⟨vf, br_t z hp⟩
      · rw [← nI_1] at hp
        unfold wpY_step
        dsimp only
        rw [hk, eo, ef]
        refine ⟨hin, fun x ex => ?_⟩
        subst ex
        rw [kf]
        exact ⟨hin, br_t (by decide) ⟨vf, br_t z hp⟩⟩
    · refine ⟨vp_updL rg f (rg f - 1), s, by omega, fun post e w hp => ?_, fun post e w hp => ?_⟩
      · unfold wpX_workOff wpX_workOffLoop
        dsimp only
        rw [hk, eo, ec, es]
        refine ⟨hin, br_t rfl ⟨hin, fun x ex => ?_⟩⟩
        subst ex
        rw [kf]
        exact ⟨vf, br_f z ⟨vf, vf, nm_e ⟨hin, hp⟩⟩⟩
      · unfold wpY_step
        dsimp only
        rw [hk, eo, ef, es]
        refine ⟨hin, fun x ex => ?_⟩
        subst ex
        rw [kf]
        exact ⟨hin, br_t (by decide) ⟨vf, br_f z ⟨vf, vf, nm_e ⟨hin, hp⟩⟩⟩⟩
theorem pl_run {c : Nat} (hc : c ≤ 16) (H : ∀ j, j < c → pl_Ok (op j) (ch j) (fi j) (se j) (tg j) j) (e : Int32) : ∀ (d m i : Nat) (rg : Nat → Int64), m + d = 300 → i ≤ c → ∃ (rg' : Nat → Int64) (x w' : Int32), (∀ (post : Int32 → SX → Prop) (w : Int32), post x (nI c, x, w', rg', op, ch, fi, se) → wX_run_4 post (d + 1) (nI i) (nI m) (nI c) e w rg op ch fi se) ∧ (∀ (post : Int32 → SY → Prop), post x (nI c, x, w', rg', op, tg, fi, se) → wY_run_7 post (d + 1) (nI i) (nI c) e (nI m) rg op tg fi se) := by
  intro d
  induction d with
  | zero =>
    intro m i rg hm hi
    have h300 : nI 300 ≤ nI m := nI_le (by omega) (by omega)
    rcases Nat.lt_or_ge i c with h | h
    · have hg : ¬ nI c ≤ nI i := nI_ge h (by omega)
      exact ⟨rg, 2, nI m, fun post w hp => br_t h300 (br_f hg hp), fun post hp => br_f hg (br_t h300 (br_f hg hp))⟩
    · have hg : nI c ≤ nI i := nI_le h (by omega)
      exact ⟨rg, 1, nI m, fun post w hp => br_t h300 (br_t hg hp), fun post hp => br_t hg (br_t hg hp)⟩
  | succ d ih =>
    intro m i rg hm hi
    have h300 : ¬ nI 300 ≤ nI m := nI_ge (by omega) (by decide)
    rcases Nat.lt_or_ge i c with h | h
    · have hg : ¬ nI c ≤ nI i := nI_ge h (by omega)
      obtain ⟨rg1, i1, h1, hX1, hY1⟩ := pl_step (op := op) (ch := ch) (fi := fi) (se := se) (tg := tg) h hc rg (H i h)
      obtain ⟨rg2, x, w', hX, hY⟩ := ih (m + 1) i1 rg1 (by omega) h1
      refine ⟨rg2, x, w', fun post w hp => br_f h300 (br_f hg (hX1 _ e w ?_)), fun post hp => br_f hg (br_f h300 (hY1 _ e (nI m) ?_))⟩
      · intro y ey
        rw [nI_1] at ey
        subst ey
        exact hX post w hp
      · intro y ey
        rw [nI_1] at ey
        subst ey
        exact hY post hp
    · have hg : nI c ≤ nI i := nI_le h (by omega)
      exact ⟨rg, 1, nI m, fun post w hp => br_f h300 (br_t hg (br_t hg hp)), fun post hp => br_t hg (br_t hg hp)⟩
theorem pl_ones {c : Int32} (rg : Nat → Int64) {j : Nat} (hj : j < 6) : ∀ (d i : Nat) (x : Int32), i + d = 64 → ∃ r : Int32, (∀ post : Int32 → Prop, post r → wX_ones_13 post (nI j) c e w rg op ch fi se (d + 1) x (nI i)) ∧ (∀ post : Int32 → Prop, post r → wY_ones_12 post (rg j) c e w rg op tg fi se (d + 1) x (nI i)) := by
  have hin : vp_in (nI j) 6 := vp_in_nI hj (by decide)
  have hk : (nI j).toNatClampNeg = j := nI_clamp (by omega)
  intro d
  induction d with
  | zero =>
    intro i x hi
    have h64 : nI 64 ≤ nI i := nI_le (by omega) (by omega)
    exact ⟨x, fun post hp => br_t h64 hp, fun post hp => br_t h64 hp⟩
  | succ d ih =>
    intro i x hi
    have h64 : ¬ nI 64 ≤ nI i := nI_ge (by omega) (by decide)
    have hb := pl_bitE (rg j) (show i < 64 by omega)
    rcases pl_and1 ((rg j).toUInt64 >>> ((nI i).toInt64.toUInt64 &&& Int64.toUInt64 63)).toInt64 with b | b
    · obtain ⟨r, hX, hY⟩ := ih (i + 1) x (by omega)
      refine ⟨r, fun post hp => br_f h64 ⟨hin, fun y ey z ez => ?_⟩, fun post hp => br_f h64 (br_f ?_ (fun z ez => ?_))⟩
      · rw [hk, b, pl_i0, Int32.add_zero] at ey
        rw [nI_1] at ez
        subst ey ez
        exact hX post hp
      · rw [hb, b]
        decide
      · rw [nI_1] at ez
        subst ez
        exact hY post hp
    · obtain ⟨r, hX, hY⟩ := ih (i + 1) (x + 1) (by omega)
      refine ⟨r, fun post hp => br_f h64 ⟨hin, fun y ey z ez => ?_⟩, fun post hp => br_f h64 (br_t (hb.trans b) (fun y ey z ez => ?_))⟩
      · rw [hk, b, pl_i1] at ey
        rw [nI_1] at ez
        subst ey ez
        exact hX post hp
      · rw [nI_1] at ez
        subst ey ez
        exact hY post hp
theorem pl_ones0 {c : Int32} (rg : Nat → Int64) (post : Int32 → Prop) (x : Int32) (hp : post x) : ∀ (d i : Nat), i + d = 64 → wY_ones_12 post 0 c e w rg op tg fi se (d + 1) x (nI i) := by
  intro d
  induction d with
  | zero =>
    intro i hi
    exact br_t (nI_le (a := 64) (by omega) (by omega)) hp
  | succ d ih =>
    intro i hi
    refine br_f (nI_ge (b := 64) (by omega) (by decide)) (br_f (pl_d0 i (by omega)) (fun z ez => ?_))
    rw [nI_1] at ez
    subst ez
    exact ih (i + 1) (by omega)
theorem pl_total {c : Int32} (rg : Nat → Int64) : ∀ (d i : Nat) (x : Int64), i + d = 6 → ∃ r : Int64, (∀ post : Int64 → Prop, post r → wX_total_4 post c e w rg op ch fi se (d + 1) x (nI i)) ∧ (∀ post : Int64 → Prop, post r → wY_total_4 post c e w rg op tg fi se (d + 1) x (nI i)) := by
  intro d
  induction d with
  | zero =>
    intro i x hi
    have h6 : nI 6 ≤ nI i := nI_le (by omega) (by omega)
    exact ⟨x, fun post hp => br_t h6 hp, fun post hp => br_t h6 hp⟩
  | succ d ih =>
    intro i x hi
    have h6 : ¬ nI 6 ≤ nI i := nI_ge (by omega) (by decide)
    have hin : vp_in (nI i) 6 := vp_in_nI (by omega) (by decide)
    obtain ⟨r, hX, hY⟩ := ih (i + 1) (x + rg (nI i).toNatClampNeg) (by omega)
    refine ⟨r, fun post hp => br_f h6 ⟨hin, fun y ey z ez => ?_⟩, fun post hp => br_f h6 ⟨hin, fun y ey z ez => ?_⟩⟩
    · rw [nI_1] at ez
      subst ey ez
      exact hX post hp
    · rw [nI_1] at ez
      subst ey ez
      exact hY post hp
end
