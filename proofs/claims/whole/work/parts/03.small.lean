/-! what stands at place j of the program: op, changed, first, second, target -/
def pl_Ok (o c f s t : Int32) (j : Nat) : Prop := ∃ f' : Nat, f' < 6 ∧ f = nI f' ∧ ((∃ o' s' d' : Nat, o' < 16 ∧ s' < 6 ∧ d' < 6 ∧ o = nI o' ∧ s = nI s' ∧ c = nI d' ∧ t = nI d') ∨ (∃ s' : Nat, s' ≤ j ∧ o = nI 16 ∧ s = nI s' ∧ c = nI f'))
/-- the same registers, ops, firsts, seconds, count, ending, worked; changed and target alike where the instruction isn't a loop -/
def i_Rel (_ : Nat) (u : SX) (v : SY) : Prop := ∃ (c : Nat) (e w : Int32) (rg : Nat → Int64) (op ch fi se tg : Nat → Int32), u = (nI c, e, w, rg, op, ch, fi, se) ∧ v = (nI c, e, w, rg, op, tg, fi, se) ∧ c ≤ 16 ∧ ∀ j, j < c → pl_Ok (op j) (ch j) (fi j) (se j) (tg j) j
section
variable {s e w : Int32} {rg : Nat → Int64} {op ch fi se tg : Nat → Int32}
theorem pl_xr1 {j : Nat} (h : j < 6) {post : Int32 → Prop} (hp : post 1) : wpX_isRegister post (nI j) := br_f (nI_pos (by omega)) (br_f (nI_ge (b := 6) h (by decide)) hp)
theorem pl_xr0 {x : Int32} (h : pl_No x) {post : Int32 → Prop} (hp : post 0) : wpX_isRegister post x := by
  rcases h with h | ⟨j, h6, hj, rfl⟩
  · exact br_t h hp
  · exact br_f (nI_pos hj) (br_t (nI_le (a := 6) h6 hj) hp)
theorem pl_yr1 {j : Nat} (h : j < 6) {post : Int32 → Prop} (hp : post 1) : wpY_isRegister post (s, e, w, rg, op, tg, fi, se) (nI j) := br_f (nI_pos (by omega)) (br_f (nI_nlt (a := 5) (by omega) (by decide)) hp)
theorem pl_yr0 {x : Int32} (h : pl_No x) {post : Int32 → Prop} (hp : post 0) : wpY_isRegister post (s, e, w, rg, op, tg, fi, se) x := by
  rcases h with h | ⟨j, h6, hj, rfl⟩
  · exact br_t h hp
  · exact br_f (nI_pos hj) (br_t (nI_lt (a := 5) (by omega) hj) hp)
theorem pl_yget1 {j : Nat} (h : j < 6) {post : Int64 → Prop} (hp : post (rg j)) : wpY_get post (s, e, w, rg, op, tg, fi, se) (nI j) := by
  have hk : (nI j).toNatClampNeg = j := nI_clamp (by omega)
  unfold wpY_get
  dsimp only
  rw [hk]
  exact pl_yr1 h (br_f pl_10 ⟨vp_in_nI h (by decide), hp⟩)
theorem pl_yget0 {x : Int32} (h : pl_No x) {post : Int64 → Prop} (hp : post 0) : wpY_get post (s, e, w, rg, op, tg, fi, se) x := by
  unfold wpY_get
  dsimp only
  exact pl_yr0 h (br_t rfl hp)
theorem pl_place {c : Nat} (hc : c < 16) (p0 p1 p2 p3 : Int32) {post : Int32 → SX → Prop} (hp : post (nI c) (nI (c + 1), e, w, rg, upd op c p0, upd ch c p1, upd fi c p2, upd se c p3)) : wpX_place post (nI c, e, w, rg, op, ch, fi, se) p0 p1 p2 p3 := by
  have hi : vp_in (nI c) 16 := vp_in_nI hc (by decide)
  have hk : (nI c).toNatClampNeg = c := nI_clamp (by omega)
  refine br_t (nI_lt (b := 16) hc (by decide)) ⟨hi, fun a1 h1 => ⟨hi, fun a2 h2 => ⟨hi, fun a3 h3 => ⟨hi, fun a4 h4 n hn => ?_⟩⟩⟩⟩
  rw [hk] at h1 h2 h3 h4
  rw [nI_1] at hn
  subst h1 h2 h3 h4 hn
  rw [nI_pred]
  exact hp
theorem pl_placeF (p0 p1 p2 p3 : Int32) {post : Int32 → SX → Prop} (hp : post (-2) (nI 16, e, w, rg, op, ch, fi, se)) : wpX_place post (nI 16, e, w, rg, op, ch, fi, se) p0 p1 p2 p3 := br_f (by decide) hp
theorem pl_put {c : Nat} (hc : c < 16) (p0 p1 p2 p3 : Int32) {post : Int32 → SY → Prop} (hp : post (nI c) (nI (c + 1), e, w, rg, upd op c p0, upd tg c p1, upd fi c p2, upd se c p3)) : wpY_put post (nI c, e, w, rg, op, tg, fi, se) p0 p1 p2 p3 := by
  have hi : vp_in (nI c) 16 := vp_in_nI hc (by decide)
  have hk : (nI c).toNatClampNeg = c := nI_clamp (by omega)
  have hn16 : ¬ nI c = nI 16 := fun q => by
    have := (nI_eq (by omega) (by decide)).mp q
    omega
  refine br_f hn16 ⟨hi, fun a1 h1 => ⟨hi, fun a2 h2 => ⟨hi, fun a3 h3 => ⟨hi, fun a4 h4 n hn => ?_⟩⟩⟩⟩
  rw [hk] at h1 h2 h3 h4
  rw [nI_1] at hn
  subst h1 h2 h3 h4 hn
  rw [nI_pred]
  exact hp
theorem pl_putF (p0 p1 p2 p3 : Int32) {post : Int32 → SY → Prop} (hp : post (-2) (nI 16, e, w, rg, op, tg, fi, se)) : wpY_put post (nI 16, e, w, rg, op, tg, fi, se) p0 p1 p2 p3 := br_t rfl hp
theorem pl_new (k : Nat) {c : Nat} (hc : c < 16) (H : ∀ j, j < c → pl_Ok (op j) (ch j) (fi j) (se j) (tg j) j) {p0 p1 p2 p3 q1 : Int32} (hn : pl_Ok p0 p1 p2 p3 q1 c) : i_Rel k (nI (c + 1), e, w, rg, upd op c p0, upd ch c p1, upd fi c p2, upd se c p3) (nI (c + 1), e, w, rg, upd op c p0, upd tg c q1, upd fi c p2, upd se c p3) := by
  refine ⟨c + 1, e, w, rg, _, _, _, _, _, rfl, rfl, by omega, fun j hj => ?_⟩
  rcases Nat.lt_or_ge j c with h | h
  · have hne : j ≠ c := by omega
    rw [pk_un hne, pk_un hne, pk_un hne, pk_un hne, pk_un hne]
    exact H j h
  · obtain rfl : j = c := by omega
    rw [pk_us, pk_us, pk_us, pk_us, pk_us]
    exact hn
end
