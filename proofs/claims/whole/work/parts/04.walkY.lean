/-! Y's walks -/
theorem qb_yh {post : Int32 → Prop} (x : Int32) (p : Nat) (h : post (qb_I (qb_ho x p))) : ∀ d v, v + d = 8 → (∀ u, u < v → ¬ ((x >>> (qb_lit p u &&& 31)) &&& 1) = 1) → wY_holds_2 post x (nI p) (d + 1) (nI v) := by
  intro d
  induction d with
  | zero =>
    intro v hv hu
    have e : v = 8 := by omega
    subst e
    rw [qb_ho_f ((qb_so_iff x p 8).mpr hu)] at h
    exact br_t (by decide) h
  | succ d ih =>
    intro v hv hu
    have h8 : ¬ (8 : Int32) ≤ nI v := nI_ge (b := 8) (by omega) (by decide)
    refine br_f h8 (nm_r (e' := qb_lit p v) rfl ?_)
    by_cases z : ((x >>> (qb_lit p v &&& 31)) &&& 1) = 1
    · rw [qb_ho_t (fun a => (qb_so_iff x p 8).mp a v (by omega) z)] at h
      exact br_t z h
    · refine br_f z (nm_r (nI_1 v) (ih (v + 1) (by omega) fun u a => ?_))
      by_cases y : u = v
      · subst y; exact z
      · exact hu u (by omega)
theorem qb_yho {post : Int32 → Prop} (x : Int32) (p : Nat) (h : post (qb_I (qb_ho x p))) : wpY_holds post x (nI p) := ⟨9, qb_yh x p h 8 0 rfl (fun u a => absurd a (by omega))⟩
theorem qb_yall {post : Int32 → Prop} (m : Nat) (hm : m ≤ 20) (lo : Int32) (br c w : Nat → Int32) (p : Nat) : ∀ d i, i + d = m → post (qb_I (qb_al c lo p d i)) → wY_allHold_2 post (nI p) lo (nI m) br c w (d + 1) (nI i) := by
  intro d
  induction d with
  | zero =>
    intro i hi hp
    have h : nI m ≤ nI i := nI_le (by omega) (by omega)
    exact br_t h hp
  | succ d ih =>
    intro i hi hp
    have h : ¬ nI m ≤ nI i := nI_ge (by omega) (by omega)
    refine br_f h ?_
    by_cases e : nI i = lo
    · rw [qb_al_o e] at hp
      exact br_t e (nm_r (nI_1 i) (ih (i + 1) (by omega) hp))
    · refine br_f e ⟨vp_in_nI (by omega) (by decide), ?_⟩
      have ec : (nI i).toNatClampNeg = i := nI_clamp (by omega)
      rw [ec]
      refine qb_yho (c i) p ?_
      cases z : qb_ho (c i) p
      · rw [qb_al_f e z] at hp
        exact br_t rfl hp
      · rw [qb_al_t z] at hp
        exact br_f (by decide) (nm_r (nI_1 i) (ih (i + 1) (by omega) hp))
theorem qb_yah {post : Int32 → Prop} (m : Nat) (hm : m ≤ 20) (lo : Int32) (br c w : Nat → Int32) (p : Nat) (h : post (qb_I (qb_F c m lo p))) : wpY_allHold post (nI m, br, c, w) (nI p) lo :=
  ⟨m + 1, qb_yall m hm lo br c w p m 0 (by omega) h⟩
theorem qb_ylg {post : Int32 → Prop} (p : Nat) (hp : p < 2 ^ 31) (h : post (nI (qb_lg p))) : ∀ d k, k + d = 8 → k ≤ qb_lg p → wY_length_2 post (nI p) (d + 1) (nI k) := by
  intro d
  induction d with
  | zero =>
    intro k hk hl
    have e : k = 8 := by omega
    subst e
    have e : qb_lg p = 8 := by have := qb_lg_8 p; omega
    rw [e] at h
    exact br_t (by decide) h
  | succ d ih =>
    intro k hk hl
    have h8 : ¬ (8 : Int32) ≤ nI k := nI_ge (b := 8) (by omega) (by decide)
    have hw := qb_pw7 k (by omega)
    refine br_f h8 (pk_lt p (2 * 2 ^ k) (fun z => ?_) (fun z => ?_) rfl (qb_2k k (by omega)) hp (by omega))
    · have e : qb_lg p = k := by have := (qb_lg_iff p k (by omega)).mpr z; omega
      rw [e] at h
      exact h
    · have e : k + 1 ≤ qb_lg p := by have := not_congr (qb_lg_iff p k (by omega)); omega
      exact nm_r (nI_1 k) (ih (k + 1) (by omega) e)
theorem qb_ylen {post : Int32 → Prop} (p : Nat) (hp : p < 2 ^ 31) (h : post (nI (qb_lg p))) : wpY_length post (nI p) := ⟨9, qb_ylg p hp h 8 0 rfl (Nat.zero_le _)⟩
/-! work: one position -/
theorem qb_y63 {post : SY → Prop} {J : Int32 → (Nat → Int32) → (Nat → Int32) → (Nat → Int32) → Prop} (lo sw f : Int32) (br c w : Nat → Int32) (q : Nat) (hq : q < 256) (o x y : Bool) (hx : w (2 * q) = qb_I x) (hy : w (2 * q + 1) = qb_I y) (hJ : J (nI q + (-1)) br c (upd w q (qb_I (if o = true then x && y else x || y)))) : wY_work_63 post J lo sw (nI q) (qb_I o) f br c w := by
  have i0 : vp_in (2 * nI q) 512 := pk_in (2 * q) 512 (by omega) (qb_mul2 q)
  have i1 : vp_in (2 * nI q + 1) 512 := pk_in (2 * q + 1) 512 (by omega) (qb_mul21 q)
  have i2 : vp_in (nI q) 512 := vp_in_nI (by omega) (by decide)
  have e0 : w (2 * nI q).toNatClampNeg = qb_I x := by rw [pk_cl (2 * q) (qb_mul2 q) (by omega)]; exact hx
  have e1 : w (2 * nI q + 1).toNatClampNeg = qb_I y := by rw [pk_cl (2 * q + 1) (qb_mul21 q) (by omega)]; exact hy
  have ec : (nI q).toNatClampNeg = q := nI_clamp (by omega)
  refine ⟨i0, nm_r e0 ⟨i1, nm_r e1 ?_⟩⟩
  rw [ec]
  have n : ¬ (1 : Int32) = 0 := by decide
  cases o
  · cases x
    · cases y
      · exact br_t rfl (br_t rfl (br_t rfl ⟨i2, nm_r rfl (nm_e hJ)⟩))
      · exact br_t rfl (br_t rfl (br_f n ⟨i2, nm_r rfl (nm_e hJ)⟩))
    · cases y
      · exact br_t rfl (br_f n ⟨i2, nm_r rfl (nm_e hJ)⟩)
      · exact br_t rfl (br_f n ⟨i2, nm_r rfl (nm_e hJ)⟩)
  · cases x
    · cases y
      · exact br_f n (br_t rfl ⟨i2, nm_r rfl (nm_e hJ)⟩)
      · exact br_f n (br_t rfl ⟨i2, nm_r rfl (nm_e hJ)⟩)
    · cases y
      · exact br_f n (br_f n (br_t rfl ⟨i2, nm_r rfl (nm_e hJ)⟩))
      · exact br_f n (br_f n (br_f n ⟨i2, nm_r rfl (nm_e hJ)⟩))
theorem qb_y55 {post : SY → Prop} {J : Int32 → (Nat → Int32) → (Nat → Int32) → (Nat → Int32) → Prop} (lo sw f : Int32) (br c w : Nat → Int32) (x3 : Int32) (o s : Bool) (z : Int32) (hz : z = qb_I (o ^^ s)) (h : wY_work_63 post J lo sw x3 (qb_I o) f br c w) : wY_work_55 post J lo sw x3 (qb_I s) z f br c w := by
  subst hz
  cases o
  · cases s
    · exact br_t rfl h
    · exact br_t rfl h
  · cases s
    · exact br_f (by decide) h
    · exact br_f (by decide) h
theorem qb_y4 {post : SY → Prop} (m : Nat) (hm : m ≤ 20) (lo sw : Int32) (br c : Nat → Int32) (o : Nat → Bool) (ho : ∀ k, k < 8 → br k = qb_I (o k ^^ decide (nI k = sw))) (hp : ∀ w : Nat → Int32, (∀ q, 1 ≤ q → q < 512 → w q = qb_I (qb_W o (qb_F c m lo) q)) → post (nI m, br, c, w)) : ∀ (p : Nat) (w : Nat → Int32), p < 512 → (∀ q, p < q → q < 512 → w q = qb_I (qb_W o (qb_F c m lo) q)) → wY_work_4 post lo sw (nI m) (p + 1) (nI p) br c w := by
  intro p
  induction p with
  | zero =>
    intro w _ h
    exact br_t (by decide) (hp w (fun q a z => h q (by omega) z))
  | succ p ih =>
    intro w hlt h
    have h1 : ¬ nI (p + 1) < 1 := nI_nlt (b := 1) (by omega) (by omega)
    have i2 : vp_in (nI (p + 1)) 512 := vp_in_nI (by omega) (by decide)
    have ec : (nI (p + 1)).toNatClampNeg = p + 1 := nI_clamp (by omega)
    have go : ∀ v : Int32, v = qb_I (qb_W o (qb_F c m lo) (p + 1)) → wY_work_4 post lo sw (nI m) (p + 1) (nI p) br c (upd w (p + 1) v) := by
      intro v ev
      refine ih _ (by omega) (fun q a z => ?_)
      by_cases y : q = p + 1
      · subst y; rw [pk_us]; exact ev
      · rw [pk_un y]; exact h q (by omega) z
    refine br_f h1 (qb_ylen (p + 1) (by omega) ?_)
    have l8 := qb_lg_8 (p + 1)
    refine pk_eq (qb_lg (p + 1)) 8 (fun e => ?_) (fun e => ?_)
    · have h2 := qb_lg_full.mp e
      refine qb_yah m hm lo br c w (p + 1) ⟨i2, ?_⟩
      rw [ec]
      exact nm_r (by rw [qb_nar]) (nm_r (pk_m1 p) (go _ (by rw [qb_W_full _ _ h2])))
    · have hk : qb_lg (p + 1) < 8 := by omega
      have h2 : p + 1 < 256 := by have := not_congr (qb_lg_full (p := p + 1)); omega
      have el : (nI (qb_lg (p + 1))).toNatClampNeg = qb_lg (p + 1) := nI_clamp (by omega)
      have g := qb_y63 (post := post) (J := wY_work_4 post lo sw (nI m) (p + 1)) lo sw (nI m) br c w (p + 1) h2 (o (qb_lg (p + 1))) _ _ (h (2 * (p + 1)) (by omega) (by omega)) (h (2 * (p + 1) + 1) (by omega) (by omega)) (by rw [pk_m1]; exact go _ (by rw [qb_W_in o (qb_F c m lo) (p := p + 1) (by omega) h2]))
      refine ⟨vp_in_nI hk (by decide), ?_⟩
      rw [el]
      have hb := ho (qb_lg (p + 1)) hk
      by_cases z : nI (qb_lg (p + 1)) = sw
      · rw [decide_eq_true z] at hb
        exact br_t z (qb_y55 lo sw (nI m) br c w (nI (p + 1)) _ true _ hb g)
      · rw [decide_eq_false z] at hb
        exact br_f z (qb_y55 lo sw (nI m) br c w (nI (p + 1)) _ false _ hb g)
theorem qb_work {post : SY → Prop} (m : Nat) (hm : m ≤ 20) (lo sw : Int32) (br c w : Nat → Int32) (o : Nat → Bool) (ho : ∀ k, k < 8 → br k = qb_I (o k ^^ decide (nI k = sw))) (hp : ∀ w' : Nat → Int32, (∀ q, 1 ≤ q → q < 512 → w' q = qb_I (qb_W o (qb_F c m lo) q)) → post (nI m, br, c, w')) : wpY_work post (nI m, br, c, w) lo sw :=
  ⟨512, qb_y4 m hm lo sw br c o ho hp 511 w (by omega) (fun q a z => absurd a (by omega))⟩
