/-! what the methods need beside solve and work -/
theorem qb_ne1 {k : Nat} (hk : k < 2 ^ 31) : ¬ nI k = -1 := fun e => absurd (nI_pos hk) (by rw [e]; decide)
theorem qb_hom {br : Nat → Int32} {b : Int32} (hb : ∀ j, j < 8 → br j = qb_I (bt b j)) : ∀ k, k < 8 → br k = qb_I (bt b k ^^ decide (nI k = -1)) := by
  intro k hk
  rw [decide_eq_false (qb_ne1 (by omega)), Bool.xor_false]
  exact hb k hk
theorem qb_gv1 {br : Nat → Int32} {b : Int32} (hb : ∀ j, j < 8 → br j = qb_I (bt b j)) {j : Nat} (hj : j < 8) : ∀ i, i < 8 → upd br (nI j).toNatClampNeg (vp_nar .boolean 1) i = qb_I (bt (b ||| ((1 : Int32) <<< (nI j &&& 31))) i) := by
  intro i hi
  rw [nI_clamp (by omega), qb_n1, b_or, qb_b1s j (by omega) i (by omega)]
  by_cases h : i = j
  · subst h; rw [pk_us, decide_eq_true rfl, Bool.or_true]
  · rw [pk_un h, hb i hi, decide_eq_false h, Bool.or_false]
theorem qb_gv0 {br : Nat → Int32} {b : Int32} (hb : ∀ j, j < 8 → br j = qb_I (bt b j)) {j : Nat} (hj : j < 8) : ∀ i, i < 8 → upd br (nI j).toNatClampNeg (vp_nar .boolean 0) i = qb_I (bt (b &&& (((1 : Int32) <<< (nI j &&& 31)) ^^^ (-1))) i) := by
  intro i hi
  rw [nI_clamp (by omega), qb_n0, b_and, b_xor, b_m1 i (by omega), qb_b1s j (by omega) i (by omega)]
  by_cases h : i = j
  · subst h; rw [pk_us, decide_eq_true rfl]
    exact congrArg qb_I (by simp)
  · rw [pk_un h, hb i hi, decide_eq_false h]
    exact congrArg qb_I (by simp)
theorem qb_sw {br : Nat → Int32} {b : Int32} (hb : ∀ j, j < 8 → br j = qb_I (bt b j)) {s : Nat} (hs : s < 8) : ∀ k, k < 8 → br k = qb_I (bt (b ^^^ ((1 : Int32) <<< (nI s &&& 31))) k ^^ decide (nI k = nI s)) := by
  intro k hk
  rw [hb k hk, b_xor, qb_b1s s (by omega) k (by omega)]
  by_cases h : k = s
  · subst h; rw [decide_eq_true rfl, decide_eq_true rfl]
    exact congrArg qb_I (by simp)
  · rw [decide_eq_false h, decide_eq_false (fun e => h ((nI_eq (by omega) (by omega)).mp e))]
    exact congrArg qb_I (by simp)
theorem qb_dropL (M : Nat) (hM : M < 20) (b : Int32) (w br wn : Nat → Int32) : ∀ (d i : Nat) (c : Nat → Int32), i + d = M → ∃ c' : Nat → Int32, (∀ post : Int32 → SX → Prop, post (nI M) (nI M, b, c', w) → wX_drop_12 post (nI (M + 1)) b (d + 1) (nI i) c w) ∧ (∀ post : Int32 → SY → Prop, post (nI M) (nI M, br, c', wn) → wY_drop_26 post (nI M) (d + 1) (nI i) br c wn) := by
  intro d
  induction d with
  | zero =>
    intro i c hi
    have h : nI M ≤ nI i := nI_le (by omega) (by omega)
    have h' : nI (M + 1) - 1 ≤ nI i := by rw [nI_pred]; exact h
    exact ⟨c, fun post hp => br_t h' (nm_r (nI_pred M) hp), fun post hp => br_t h hp⟩
  | succ d ih =>
    intro i c hi
    have h : ¬ nI M ≤ nI i := nI_ge (by omega) (by omega)
    have h' : ¬ nI (M + 1) - 1 ≤ nI i := by rw [nI_pred]; exact h
    have i1 : vp_in (nI i + 1) 20 := pk_in (i + 1) 20 (by omega) (nI_1 i)
    have i0 : vp_in (nI i) 20 := vp_in_nI (by omega) (by decide)
    have e : upd c (nI i).toNatClampNeg (c (nI i + 1).toNatClampNeg) = upd c i (c (i + 1)) := by
      rw [nI_1, nI_clamp (by omega), nI_clamp (by omega)]
    obtain ⟨c', hX, hY⟩ := ih (i + 1) (upd c i (c (i + 1))) (by omega)
    exact ⟨c', fun post hp => br_f h' ⟨i1, i0, nm_r e (nm_r (nI_1 i) (hX post hp))⟩, fun post hp => br_f h ⟨i1, i0, nm_r e (nm_r (nI_1 i) (hY post hp))⟩⟩
theorem qb_isn {post : Int32 → Prop} {f b : Int32} {c w : Nat → Int32} {x : Int32} (h : x < 0) (hp : post 0) : wpX_isHeld post (f, b, c, w) x := br_t h hp
theorem qb_iso {post : Int32 → Prop} {b : Int32} {c w : Nat → Int32} {m p : Nat} (hp : p < 2 ^ 31) (h : m ≤ p) (h0 : post 0) : wpX_isHeld post (nI m, b, c, w) (nI p) := br_f (nI_pos hp) (br_t (nI_le h hp) h0)
theorem qb_isi {post : Int32 → Prop} {b : Int32} {c w : Nat → Int32} {m p : Nat} (hm : m < 2 ^ 31) (h : p < m) (h1 : post 1) : wpX_isHeld post (nI m, b, c, w) (nI p) := br_f (nI_pos (by omega)) (br_f (nI_ge h hm) h1)
def qb_ch (e x y : Bool) : Int32 := if x = e then (if y = e then 2 else 1) else 0
theorem qb_xch {post : Int32 → SX → Prop} (f b : Int32) (c w : Nat → Int32) (p : Nat) (hp : p < 256) (e x y : Bool) (hx : w (2 * p) = qb_I x) (hy : w (2 * p + 1) = qb_I y) (h : post (qb_ch e x y) (f, b, c, w)) : wX_choice_44 post (nI p) (qb_I (!e)) f b c w := by
  have i0 : vp_in (2 * nI p) 512 := pk_in (2 * p) 512 (by omega) (qb_mul2 p)
  have i1 : vp_in (2 * nI p + 1) 512 := pk_in (2 * p + 1) 512 (by omega) (qb_mul21 p)
  have e0 : w (2 * nI p).toNatClampNeg = qb_I x := by rw [pk_cl (2 * p) (qb_mul2 p) (by omega)]; exact hx
  have e1 : w (2 * nI p + 1).toNatClampNeg = qb_I y := by rw [pk_cl (2 * p + 1) (qb_mul21 p) (by omega)]; exact hy
  refine ⟨i0, ?_⟩
  rw [e0, e1]
  have n : ¬ (1 : Int32) = 0 := by decide
  have n' : ¬ (0 : Int32) = 1 := by decide
  cases e
  · cases x
    · cases y
      · exact br_f n' ⟨i1, br_f n' h⟩
      · exact br_f n' ⟨i1, br_t rfl h⟩
    · exact br_t rfl h
  · cases x
    · exact br_t rfl h
    · cases y
      · exact br_f n ⟨i1, br_t rfl h⟩
      · exact br_f n ⟨i1, br_f n h⟩
theorem qb_ych {post : Int32 → SY → Prop} (f : Int32) (br c w : Nat → Int32) (p : Nat) (hp : p < 256) (k : Nat) (hk : k < 8) (e x y : Bool) (hb : br k = qb_I e) (hx : w (2 * p) = qb_I x) (hy : w (2 * p + 1) = qb_I y) (h : post (qb_ch e x y) (f, br, c, w)) : wY_choice_27 post (nI p) (nI k) f br c w 3 0 := by
  have a0 : 2 * nI p + 0 = nI (2 * p) := by rw [qb_mul2, Int32.add_zero]
  have i0 : vp_in (2 * nI p + 0) 512 := pk_in (2 * p) 512 (by omega) a0
  have i1 : vp_in (2 * nI p + 1) 512 := pk_in (2 * p + 1) 512 (by omega) (qb_mul21 p)
  have ik : vp_in (nI k) 8 := vp_in_nI hk (by decide)
  have e0 : w (2 * nI p + 0).toNatClampNeg = qb_I x := by rw [pk_cl (2 * p) a0 (by omega)]; exact hx
  have e1 : w (2 * nI p + 1).toNatClampNeg = qb_I y := by rw [pk_cl (2 * p + 1) (qb_mul21 p) (by omega)]; exact hy
  have eb : br (nI k).toNatClampNeg = qb_I e := by rw [nI_clamp (by omega)]; exact hb
  by_cases q : x = e
  · have z0 : w (2 * nI p + 0).toNatClampNeg = br (nI k).toNatClampNeg := by rw [e0, eb, q]
    by_cases r : y = e
    · have z1 : w (2 * nI p + 1).toNatClampNeg = br (nI k).toNatClampNeg := by rw [e1, eb, r]
      rw [qb_ch, if_pos q, if_pos r] at h
      exact br_f (by decide) ⟨i0, ik, br_t z0 (nm_r (e' := 1) rfl (br_f (by decide) ⟨i1, ik, br_t z1 (nm_r (e' := 2) rfl (br_t (by decide) h))⟩))⟩
    · have z1 : ¬ w (2 * nI p + 1).toNatClampNeg = br (nI k).toNatClampNeg := by rw [e1, eb]; exact fun t => r (qb_I_inj t)
      rw [qb_ch, if_pos q, if_neg r] at h
      exact br_f (by decide) ⟨i0, ik, br_t z0 (nm_r (e' := 1) rfl (br_f (by decide) ⟨i1, ik, br_f z1 h⟩))⟩
  · have z0 : ¬ w (2 * nI p + 0).toNatClampNeg = br (nI k).toNatClampNeg := by rw [e0, eb]; exact fun t => q (qb_I_inj t)
    rw [qb_ch, if_neg q] at h
    exact br_f (by decide) ⟨i0, ik, br_f z0 h⟩
theorem qb_cnt (W : Nat → Bool) (k : Nat) (hk : k < 9) (f b f' : Int32) (c c' br : Nat → Int32) : ∀ (d p : Nat) (s : Int32), p + d = 2 * 2 ^ k → 2 ^ k ≤ p → ∃ r : Int32, (∀ w : Nat → Int32, (∀ q, 1 ≤ q → q < 512 → w q = qb_I (W q)) → ∀ post : Int32 → SX → Prop, post r (f, b, c, w) → wX_count_27 post (nI k) f b c w (d + 1) s (nI p)) ∧ (∀ w : Nat → Int32, (∀ q, 1 ≤ q → q < 512 → w q = qb_I (W q)) → ∀ post : Int32 → SY → Prop, post r (f', br, c', w) → wY_count_24 post (nI k) f' br c' w (d + 1) s (nI p)) := by
  have h2 := qb_pw k hk
  intro d
  induction d with
  | zero =>
    intro p s hd hp
    have h : (2 : Int32) <<< (nI k &&& 31) ≤ nI p := by rw [qb_2k k hk]; exact nI_le (by omega) (by omega)
    exact ⟨s, fun w hw post a => br_t h a, fun w hw post a => br_t h a⟩
  | succ d ih =>
    intro p s hd hp
    have h : ¬ (2 : Int32) <<< (nI k &&& 31) ≤ nI p := by rw [qb_2k k hk]; exact nI_ge (by omega) (by omega)
    have i0 : vp_in (nI p) 512 := vp_in_nI (by omega) (by decide)
    have ec : (nI p).toNatClampNeg = p := nI_clamp (by omega)
    cases e : W p
    · obtain ⟨r, hX, hY⟩ := ih (p + 1) s (by omega) (by omega)
      refine ⟨r, fun w hw post a => ?_, fun w hw post a => ?_⟩
      · have ew := hw p (by omega) (by omega)
        rw [e] at ew
        exact br_f h ⟨i0, nm_r (by rw [ec, ew, qb_I_f, Int32.add_zero]) (nm_r (nI_1 p) (hX w hw post a))⟩
      · have ew := hw p (by omega) (by omega)
        rw [e] at ew
        have z : w (nI p).toNatClampNeg = 0 := by rw [ec, ew]; rfl
        exact br_f h ⟨i0, br_t z (nm_r (nI_1 p) (hY w hw post a))⟩
    · obtain ⟨r, hX, hY⟩ := ih (p + 1) (s + 1) (by omega) (by omega)
      refine ⟨r, fun w hw post a => ?_, fun w hw post a => ?_⟩
      · have ew := hw p (by omega) (by omega)
        rw [e] at ew
        exact br_f h ⟨i0, nm_r (by rw [ec, ew, qb_I_t]) (nm_r (nI_1 p) (hX w hw post a))⟩
      · have ew := hw p (by omega) (by omega)
        rw [e] at ew
        have z : ¬ w (nI p).toNatClampNeg = 0 := by rw [ec, ew]; decide
        exact br_f h ⟨i0, br_f z (nm_e (nm_r (nI_1 p) (hY w hw post a)))⟩
