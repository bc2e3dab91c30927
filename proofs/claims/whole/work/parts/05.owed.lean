theorem i_up {k : Nat} {u : SX} {v : SY} (h : i_Rel k u v) : i_Rel (k + 5) u v := h
theorem i_vc0 : wpX_init (fun u => wpY_init (fun v => i_Rel 0 u v)) := ⟨0, 0, 0, fun _ => 0, fun _ => 0, fun _ => 0, fun _ => 0, fun _ => 0, fun _ => 0, rfl, rfl, by omega, fun j hj => absurd hj (Nat.not_lt_zero j)⟩
theorem i_vc_append {k : Nat} {u : SX} {v : SY} (I : i_Rel k u v) (hk : k + 5 ≤ 2560) (v1 : Int32) (v2 : Int32) (v3 : Int32) (v4 : Int32) : wpX_append (fun r u' => wpY_append (fun r' v' => r' = r ∧ i_Rel (k + 5) u' v') v v1 v2 v3 v4) u v1 v2 v3 v4 := by
  obtain ⟨c, e, w, rg, op, ch, fi, se, tg, rfl, rfl, hc, H⟩ := I
  have J : i_Rel (k + 5) (nI c, e, w, rg, op, ch, fi, se) (nI c, e, w, rg, op, tg, fi, se) := ⟨c, e, w, rg, op, ch, fi, se, tg, rfl, rfl, hc, H⟩
  rcases pl_ix v1 16 with h | ⟨j, h16, hj, rfl⟩ | ⟨o, ho, _, rfl⟩
  · exact br_t h (br_t h ⟨rfl, J⟩)
  · exact br_f (nI_pos hj) (br_f (nI_ge (a := 15) (by omega) hj) (br_f (nI_pos hj) (br_t (nI_lt (a := 15) (by omega) hj) ⟨rfl, J⟩)))
  have o0 : ¬ nI o < 0 := nI_pos (by omega)
  have o1 : nI o ≤ nI 15 := nI_le (by omega) (by decide)
  have o2 : ¬ nI 15 < nI o := nI_nlt (by omega) (by decide)
  rcases pl_reg v2 with n2 | ⟨d, hd, rfl⟩
  · exact br_f o0 (br_t o1 (pl_xr0 n2 (br_t rfl (br_f o0 (br_f o2 (pl_yr0 n2 (br_t rfl ⟨rfl, J⟩)))))))
  rcases pl_reg v3 with n3 | ⟨a, ha, rfl⟩
  · exact br_f o0 (br_t o1 (pl_xr1 hd (br_f pl_10 (pl_xr0 n3 (br_t rfl (br_f o0 (br_f o2 (pl_yr1 hd (br_f pl_10 (pl_yr0 n3 (br_t rfl ⟨rfl, J⟩)))))))))))
  rcases pl_reg v4 with n4 | ⟨b, hb, rfl⟩
  · exact br_f o0 (br_t o1 (pl_xr1 hd (br_f pl_10 (pl_xr1 ha (br_f pl_10 (pl_xr0 n4 (br_t rfl (br_f o0 (br_f o2 (pl_yr1 hd (br_f pl_10 (pl_yr1 ha (br_f pl_10 (pl_yr0 n4 (br_t rfl ⟨rfl, J⟩)))))))))))))))
  refine br_f o0 (br_t o1 (pl_xr1 hd (br_f pl_10 (pl_xr1 ha (br_f pl_10 (pl_xr1 hb (br_f pl_10 ?_)))))))
  rcases Nat.lt_or_ge c 16 with h | h
  · refine pl_place h _ _ _ _ ?_
    refine br_f o0 (br_f o2 (pl_yr1 hd (br_f pl_10 (pl_yr1 ha (br_f pl_10 (pl_yr1 hb (br_f pl_10 (pl_put h _ _ _ _ ?_))))))))
    exact ⟨rfl, pl_new (k + 5) h H ⟨a, ha, rfl, Or.inl ⟨o, b, d, ho, hb, hd, rfl, rfl, rfl, rfl⟩⟩⟩
  · obtain rfl : c = 16 := by omega
    refine pl_placeF _ _ _ _ ?_
    refine br_f o0 (br_f o2 (pl_yr1 hd (br_f pl_10 (pl_yr1 ha (br_f pl_10 (pl_yr1 hb (br_f pl_10 (pl_putF _ _ _ _ ?_))))))))
    exact ⟨rfl, J⟩
theorem i_vc_loop {k : Nat} {u : SX} {v : SY} (I : i_Rel k u v) (hk : k + 5 ≤ 2560) (v1 : Int32) (v2 : Int32) : wpX_loop (fun r u' => wpY_loop (fun r' v' => r' = r ∧ i_Rel (k + 5) u' v') v v1 v2) u v1 v2 := by
  obtain ⟨c, e, w, rg, op, ch, fi, se, tg, rfl, rfl, hc, H⟩ := I
  have J : i_Rel (k + 5) (nI c, e, w, rg, op, ch, fi, se) (nI c, e, w, rg, op, tg, fi, se) := ⟨c, e, w, rg, op, ch, fi, se, tg, rfl, rfl, hc, H⟩
  unfold wpX_loop wpY_loop
  dsimp only
  rcases pl_reg v1 with n1 | ⟨a, ha, rfl⟩
  · exact pl_xr0 n1 (br_t rfl (pl_yr0 n1 (br_t rfl ⟨rfl, J⟩)))
  refine pl_xr1 ha (br_f pl_10 ?_)
  rcases pl_ix v2 (c + 1) with h | ⟨j, hc1, hj, rfl⟩ | ⟨s, hs, hs2, rfl⟩
  · exact br_t h (pl_yr1 ha (br_f pl_10 (br_t h ⟨rfl, J⟩)))
  · have q : ¬ nI j ≤ nI c := nI_ge (by omega) hj
    exact br_f (nI_pos hj) (br_f q (pl_yr1 ha (br_f pl_10 (br_f (nI_pos hj) (br_f q ⟨rfl, J⟩)))))
  have s0 : ¬ nI s < 0 := nI_pos hs2
  have s1 : nI s ≤ nI c := nI_le (by omega) (by omega)
  refine br_f s0 (br_t s1 ?_)
  rcases Nat.lt_or_ge c 16 with h | h
  · refine pl_place h _ _ _ _ ?_
    refine pl_yr1 ha (br_f pl_10 (br_f s0 (br_t s1 (pl_put h _ _ _ _ ?_))))
    exact ⟨rfl, pl_new (k + 5) h H ⟨a, ha, rfl, Or.inr ⟨s, by omega, rfl, rfl, rfl⟩⟩⟩
  · obtain rfl : c = 16 := by omega
    refine pl_placeF _ _ _ _ ?_
    refine pl_yr1 ha (br_f pl_10 (br_f s0 (br_t s1 (pl_putF _ _ _ _ ?_))))
    exact ⟨rfl, J⟩
theorem i_vc_size {k : Nat} {u : SX} {v : SY} (I : i_Rel k u v) (hk : k + 5 ≤ 2560) : wpX_size (fun r => wpY_size (fun r' => r' = r ∧ i_Rel (k + 5) u v) v) u := by
  obtain ⟨c, e, w, rg, op, ch, fi, se, tg, rfl, rfl, hc, H⟩ := I
  exact ⟨rfl, c, e, w, rg, op, ch, fi, se, tg, rfl, rfl, hc, H⟩
theorem i_vc_unappend {k : Nat} {u : SX} {v : SY} (I : i_Rel k u v) (hk : k + 5 ≤ 2560) : wpX_unappend (fun r u' => wpY_unappend (fun r' v' => r' = r ∧ i_Rel (k + 5) u' v') v) u := by
  obtain ⟨c, e, w, rg, op, ch, fi, se, tg, rfl, rfl, hc, H⟩ := I
  cases c with
  | zero => exact br_t nI_0 (br_t nI_0 ⟨rfl, 0, e, w, rg, op, ch, fi, se, tg, rfl, rfl, hc, H⟩)
  | succ n =>
    have h0 : ¬ nI (n + 1) = 0 := nI_ne0 (by omega) (by omega)
    refine br_f h0 (nm_r (nI_pred n) (br_f h0 (nm_r (nI_pred n) ?_)))
    exact ⟨rfl, n, e, w, rg, op, ch, fi, se, tg, rfl, rfl, by omega, fun j hj => H j (by omega)⟩
theorem i_vc_clear {k : Nat} {u : SX} {v : SY} (I : i_Rel k u v) (hk : k + 5 ≤ 2560) : wpX_clear (fun u' => wpY_clear (fun v' => i_Rel (k + 5) u' v') v) u := by
  obtain ⟨c, e, w, rg, op, ch, fi, se, tg, rfl, rfl, hc, H⟩ := I
  exact ⟨0, e, w, rg, op, ch, fi, se, tg, rfl, rfl, by omega, fun j hj => absurd hj (Nat.not_lt_zero j)⟩
theorem i_vc_set {k : Nat} {u : SX} {v : SY} (I : i_Rel k u v) (hk : k + 5 ≤ 2560) (v1 : Int32) (a1 : Int64) : wpX_set (fun r u' => wpY_set (fun r' v' => r' = r ∧ i_Rel (k + 5) u' v') v v1 a1) u v1 a1 := by
  obtain ⟨c, e, w, rg, op, ch, fi, se, tg, rfl, rfl, hc, H⟩ := I
  unfold wpX_set wpY_set
  dsimp only
  rcases pl_reg v1 with n1 | ⟨a, ha, rfl⟩
  · exact pl_xr0 n1 (br_t rfl (pl_yr0 n1 (br_t rfl ⟨rfl, c, e, w, rg, op, ch, fi, se, tg, rfl, rfl, hc, H⟩)))
  · have va : vp_in (nI a) 6 := vp_in_nI ha (by decide)
    refine pl_xr1 ha (br_f pl_10 ⟨va, nm_e ?_⟩)
    refine pl_yr1 ha (br_f pl_10 ⟨va, nm_e ?_⟩)
    exact ⟨rfl, c, e, w, _, op, ch, fi, se, tg, rfl, rfl, hc, H⟩
theorem i_vc_get {k : Nat} {u : SX} {v : SY} (I : i_Rel k u v) (hk : k + 5 ≤ 2560) (v1 : Int32) : wpX_get (fun r => wpY_get (fun r' => r' = r ∧ i_Rel (k + 5) u v) v v1) u v1 := by
  obtain ⟨c, e, w, rg, op, ch, fi, se, tg, rfl, rfl, hc, H⟩ := I
  have J : i_Rel (k + 5) (nI c, e, w, rg, op, ch, fi, se) (nI c, e, w, rg, op, tg, fi, se) := ⟨c, e, w, rg, op, ch, fi, se, tg, rfl, rfl, hc, H⟩
  unfold wpX_get
  dsimp only
  rcases pl_reg v1 with n1 | ⟨a, ha, rfl⟩
  · exact pl_xr0 n1 (br_t rfl (pl_yget0 n1 ⟨rfl, J⟩))
  · have q : (nI a).toNatClampNeg = a := nI_clamp (by omega)
    rw [q]
    exact pl_xr1 ha (br_f pl_10 ⟨vp_in_nI ha (by decide), pl_yget1 ha ⟨rfl, J⟩⟩)
theorem i_vc_sign {k : Nat} {u : SX} {v : SY} (I : i_Rel k u v) (hk : k + 5 ≤ 2560) (v1 : Int32) : wpX_sign (fun r => wpY_sign (fun r' => r' = r ∧ i_Rel (k + 5) u v) v v1) u v1 := by
  obtain ⟨c, e, w, rg, op, ch, fi, se, tg, rfl, rfl, hc, H⟩ := I
  have J : i_Rel (k + 5) (nI c, e, w, rg, op, ch, fi, se) (nI c, e, w, rg, op, tg, fi, se) := ⟨c, e, w, rg, op, ch, fi, se, tg, rfl, rfl, hc, H⟩
  unfold wpX_sign wpY_sign
  dsimp only
  rcases pl_reg v1 with n1 | ⟨a, ha, rfl⟩
  · exact pl_xr0 n1 (br_t rfl (pl_yget0 n1 (br_t (by decide) (br_t (by decide) ⟨rfl, J⟩))))
  · have q : (nI a).toNatClampNeg = a := nI_clamp (by omega)
    have va : vp_in (nI a) 6 := vp_in_nI ha (by decide)
    rw [q]
    refine pl_xr1 ha (br_f pl_10 ⟨va, ?_⟩)
    by_cases z : rg a = 0
    · have z1 : 0 ≤ rg a := by rw [z]; decide
      have z2 : rg a ≤ 0 := by rw [z]; decide
      exact br_t z (pl_yget1 ha (br_t z1 (br_t z2 ⟨rfl, J⟩)))
    · refine br_f z ⟨va, ?_⟩
      by_cases p : 0 ≤ rg a
      · have p2 : ¬ rg a ≤ 0 := fun y => z (Int64.le_antisymm_iff.mpr ⟨y, p⟩)
        exact br_t p (pl_yget1 ha (br_t p (br_f p2 ⟨rfl, J⟩)))
      · exact br_f p (pl_yget1 ha (br_f p ⟨rfl, J⟩))
theorem i_vc_run {k : Nat} {u : SX} {v : SY} (I : i_Rel k u v) (hk : k + 5 ≤ 2560) : wpX_run (fun r u' => wpY_run (fun r' v' => r' = r ∧ i_Rel (k + 5) u' v') v) u := by
  obtain ⟨c, e, w, rg, op, ch, fi, se, tg, rfl, rfl, hc, H⟩ := I
  obtain ⟨rg', x, w', hX, hY⟩ := pl_run hc H e 300 0 0 rg rfl (Nat.zero_le c)
  rw [nI_0] at hX hY
  unfold wpX_run wpY_run
  dsimp only
  exact ⟨301, hX _ w ⟨301, hY _ ⟨rfl, c, x, w', rg', op, ch, fi, se, tg, rfl, rfl, hc, H⟩⟩⟩
theorem i_vc_ending {k : Nat} {u : SX} {v : SY} (I : i_Rel k u v) (hk : k + 5 ≤ 2560) : wpX_ending (fun r => wpY_ending (fun r' => r' = r ∧ i_Rel (k + 5) u v) v) u := by
  obtain ⟨c, e, w, rg, op, ch, fi, se, tg, rfl, rfl, hc, H⟩ := I
  exact ⟨rfl, c, e, w, rg, op, ch, fi, se, tg, rfl, rfl, hc, H⟩
theorem i_vc_worked {k : Nat} {u : SX} {v : SY} (I : i_Rel k u v) (hk : k + 5 ≤ 2560) : wpX_worked (fun r => wpY_worked (fun r' => r' = r ∧ i_Rel (k + 5) u v) v) u := by
  obtain ⟨c, e, w, rg, op, ch, fi, se, tg, rfl, rfl, hc, H⟩ := I
  exact ⟨rfl, c, e, w, rg, op, ch, fi, se, tg, rfl, rfl, hc, H⟩
theorem i_vc_ones {k : Nat} {u : SX} {v : SY} (I : i_Rel k u v) (hk : k + 5 ≤ 2560) (v1 : Int32) : wpX_ones (fun r => wpY_ones (fun r' => r' = r ∧ i_Rel (k + 5) u v) v v1) u v1 := by
  obtain ⟨c, e, w, rg, op, ch, fi, se, tg, rfl, rfl, hc, H⟩ := I
  have J : i_Rel (k + 5) (nI c, e, w, rg, op, ch, fi, se) (nI c, e, w, rg, op, tg, fi, se) := ⟨c, e, w, rg, op, ch, fi, se, tg, rfl, rfl, hc, H⟩
  unfold wpX_ones wpY_ones
  dsimp only
  rcases pl_reg v1 with n1 | ⟨a, ha, rfl⟩
  · refine pl_xr0 n1 (br_t rfl (pl_yget0 n1 ⟨65, ?_⟩))
    exact pl_ones0 rg _ 0 ⟨rfl, J⟩ 64 0 rfl
  · obtain ⟨r, hX, hY⟩ := pl_ones (c := nI c) (e := e) (w := w) (op := op) (ch := ch) (fi := fi) (se := se) (tg := tg) rg ha 64 0 0 rfl
    rw [nI_0] at hX hY
    exact pl_xr1 ha (br_f pl_10 ⟨65, hX _ (pl_yget1 ha ⟨65, hY _ ⟨rfl, J⟩⟩)⟩)
theorem i_vc_total {k : Nat} {u : SX} {v : SY} (I : i_Rel k u v) (hk : k + 5 ≤ 2560) : wpX_total (fun r => wpY_total (fun r' => r' = r ∧ i_Rel (k + 5) u v) v) u := by
  obtain ⟨c, e, w, rg, op, ch, fi, se, tg, rfl, rfl, hc, H⟩ := I
  obtain ⟨r, hX, hY⟩ := pl_total (c := nI c) (e := e) (w := w) (op := op) (ch := ch) (fi := fi) (se := se) (tg := tg) rg 6 0 0 rfl
  rw [nI_0] at hX hY
  unfold wpX_total wpY_total
  dsimp only
  exact ⟨7, hX _ ⟨7, hY _ ⟨rfl, c, e, w, rg, op, ch, fi, se, tg, rfl, rfl, hc, H⟩⟩⟩
