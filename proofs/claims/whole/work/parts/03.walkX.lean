/-! X's walks -/
theorem qb_xlit {post : Int32 → Prop} (p : Nat) (h : post (qb_so p 8)) : ∀ d v, v + d = 8 → wX_literalsThatAreSo_4 post (nI p) (d + 1) (qb_so p v) (nI v) := by
  intro d
  induction d with
  | zero =>
    intro v hv
    have e : v = 8 := by omega
    subst e
    exact br_t (by decide) h
  | succ d ih =>
    intro v hv
    have h8 : ¬ (8 : Int32) ≤ nI v := nI_ge (b := 8) (by omega) (by decide)
    exact br_f h8 (nm_e (nm_e (nm_r (nI_1 v) (ih (v + 1) (by omega)))))
theorem qb_xso {post : Int32 → Prop} (p : Nat) (h : post (qb_so p 8)) : wpX_literalsThatAreSo post (nI p) := ⟨9, qb_xlit p h 8 0 rfl⟩
theorem qb_ho_t {x : Int32} {p : Nat} (h : ¬ x &&& qb_so p 8 = 0) : qb_ho x p = true := decide_eq_true h
theorem qb_ho_f {x : Int32} {p : Nat} (h : x &&& qb_so p 8 = 0) : qb_ho x p = false := decide_eq_false (fun z => z h)
theorem qb_xall {post : Int32 → Prop} (m : Nat) (hm : m ≤ 20) (b lo : Int32) (c w : Nat → Int32) (p : Nat) : ∀ d i, i + d = m → post (qb_I (qb_al c lo p d i)) → wX_allHold_8 post lo (qb_so p 8) (nI m) b c w (d + 1) (nI i) := by
  intro d
  induction d with
  | zero =>
    intro i hi hp
    have h : nI m ≤ nI i := nI_le (by omega) (by omega)
    exact br_t h hp
  | succ d ih =>
    intro i hi hp
    have h : ¬ nI m ≤ nI i := nI_ge (by omega) (by omega)
    refine br_f h ?_
    by_cases e : nI i = lo
    · rw [qb_al_o e] at hp
      exact br_t e (nm_r (nI_1 i) (ih (i + 1) (by omega) hp))
    · refine br_f e ⟨vp_in_nI (by omega) (by decide), ?_⟩
      have ec : (nI i).toNatClampNeg = i := nI_clamp (by omega)
      rw [ec]
      by_cases z : c i &&& qb_so p 8 = 0
      · rw [qb_al_f e (qb_ho_f z)] at hp
        exact br_t z hp
      · rw [qb_al_t (qb_ho_t z)] at hp
        exact br_f z (nm_r (nI_1 i) (ih (i + 1) (by omega) hp))
theorem qb_xah {post : Int32 → Prop} (m : Nat) (hm : m ≤ 20) (b lo : Int32) (c w : Nat → Int32) (p : Nat) (h : post (qb_I (qb_F c m lo p))) : wpX_allHold post (nI m, b, c, w) (nI p) lo :=
  qb_xso p ⟨m + 1, qb_xall m hm b lo c w p m 0 (by omega) h⟩
theorem qb_xisb {post : Int32 → Prop} (ow : Int32) (k : Nat) (hk : k < 32) (h : post (qb_I (bt ow k))) : wpX_isBreakers post ow (nI k) := by
  unfold wpX_isBreakers
  rw [qb_sh1 ow k hk]
  cases e : bt ow k
  · rw [e] at h
    exact br_f (by decide) h
  · rw [e] at h
    exact br_t rfl h
theorem qb_xlg {post : Int32 → Prop} (p : Nat) (hp : p < 2 ^ 31) (h : post (nI (qb_lg p))) : ∀ d k, k + d = 8 → k ≤ qb_lg p → wX_valuesIn_2 post (nI p) (d + 1) (nI k) := by
  intro d
  induction d with
  | zero =>
    intro k hk hl
    have e : k = 8 := by omega
    subst e
    have e : qb_lg p = 8 := by have := qb_lg_8 p; omega
    rw [e] at h
    exact br_t (by decide) h
  | succ d ih =>
    intro k hk hl
    have h8 : ¬ (8 : Int32) ≤ nI k := nI_ge (b := 8) (by omega) (by decide)
    have hw := qb_pw7 k (by omega)
    refine br_f h8 (pk_lt p (2 * 2 ^ k) (fun z => ?_) (fun z => ?_) rfl (qb_2k k (by omega)) hp (by omega))
    · have e : qb_lg p = k := by have := (qb_lg_iff p k (by omega)).mpr z; omega
      rw [e] at h
      exact h
    · have e : k + 1 ≤ qb_lg p := by have := not_congr (qb_lg_iff p k (by omega)); omega
      exact nm_r (nI_1 k) (ih (k + 1) (by omega) e)
theorem qb_xval {post : Int32 → Prop} (p : Nat) (hp : p < 2 ^ 31) (h : post (nI (qb_lg p))) : wpX_valuesIn post (nI p) := ⟨9, qb_xlg p hp h 8 0 rfl (Nat.zero_le _)⟩
/-! solve: the innermost loop, one position after the other on one level -/
theorem qb_mul2 (p : Nat) : 2 * nI p = nI (2 * p) := pk_mul 2 p
theorem qb_mul21 (p : Nat) : 2 * nI p + 1 = nI (2 * p + 1) := by rw [qb_mul2, nI_1]
theorem qb_x56 {post : SX → Prop} {J : Int32 → (Nat → Int32) → (Nat → Int32) → Prop} (ow f b : Int32) (F : Nat → Bool) (k : Nat) (hk : k < 8) (c : Nat → Int32) (hJ : ∀ w : Nat → Int32, (∀ q, 2 ^ k ≤ q → q < 512 → w q = qb_I (qb_W (bt ow) F q)) → J (nI k + (-1)) c w) : ∀ (d p : Nat) (w : Nat → Int32), p + d = 2 * 2 ^ k → 2 ^ k ≤ p → (∀ q, 2 ^ k ≤ q → q < p → w q = qb_I (qb_W (bt ow) F q)) → (∀ q, 2 * 2 ^ k ≤ q → q < 512 → w q = qb_I (qb_W (bt ow) F q)) → wX_solve_56 post J ow (nI k) (qb_I (bt ow k)) f b (d + 1) (nI p) c w := by
  have hw := qb_pw7 k hk
  intro d
  induction d with
  | zero =>
    intro p w hd hp h1 h2
    have h : (2 : Int32) <<< (nI k &&& 31) ≤ nI p := by rw [qb_2k k (by omega)]; exact nI_le (by omega) (by omega)
    refine br_t h (nm_e (hJ w fun q a b => ?_))
    by_cases z : q < p
    · exact h1 q a z
    · exact h2 q (by omega) b
  | succ d ih =>
    intro p w hd hp h1 h2
    have h : ¬ (2 : Int32) <<< (nI k &&& 31) ≤ nI p := by rw [qb_2k k (by omega)]; exact nI_ge (by omega) (by omega)
    have i0 : vp_in (2 * nI p) 512 := pk_in (2 * p) 512 (by omega) (qb_mul2 p)
    have i1 : vp_in (2 * nI p + 1) 512 := pk_in (2 * p + 1) 512 (by omega) (qb_mul21 p)
    have i2 : vp_in (nI p) 512 := vp_in_nI (by omega) (by decide)
    have e0 : w (2 * nI p).toNatClampNeg = qb_I (qb_W (bt ow) F (2 * p)) := by
      rw [pk_cl (2 * p) (qb_mul2 p) (by omega)]
      exact h2 (2 * p) (by omega) (by omega)
    have e1 : w (2 * nI p + 1).toNatClampNeg = qb_I (qb_W (bt ow) F (2 * p + 1)) := by
      rw [pk_cl (2 * p + 1) (qb_mul21 p) (by omega)]
      exact h2 (2 * p + 1) (by omega) (by omega)
    have ec : (nI p).toNatClampNeg = p := nI_clamp (by omega)
    have el : qb_lg p = k := qb_lg_eq p k hk hp (by omega)
    have eW := qb_W_in (bt ow) F (p := p) (by omega) (by omega)
    rw [el] at eW
    have go : ∀ v : Int32, v = qb_I (qb_W (bt ow) F p) → wX_solve_56 post J ow (nI k) (qb_I (bt ow k)) f b (d + 1) (nI (p + 1)) c (upd w (nI p).toNatClampNeg v) := by
      intro v ev
      rw [ec]
      refine ih (p + 1) _ (by omega) (by omega) (fun q a z => ?_) (fun q a z => ?_)
      · by_cases y : q = p
        · subst y; rw [pk_us]; exact ev
        · rw [pk_un y]; exact h1 q a (by omega)
      · rw [pk_un (by omega)]; exact h2 q a z
    refine br_f h ⟨i0, nm_r e0 ⟨i1, nm_r e1 ?_⟩⟩
    cases eo : bt ow k
    · rw [eo, if_neg (by decide)] at eW
      rw [eo] at go
      exact br_t rfl ⟨i2, nm_e (nm_r (nI_1 p) (go _ (by rw [qb_I_or, eW])))⟩
    · rw [eo, if_pos rfl] at eW
      rw [eo] at go
      exact br_f (by decide) ⟨i2, nm_e (nm_r (nI_1 p) (go _ (by rw [qb_I_and, eW])))⟩
theorem qb_x40 {post : SX → Prop} (ow b f : Int32) (F : Nat → Bool) (c : Nat → Int32) (hp : ∀ w : Nat → Int32, (∀ q, 1 ≤ q → q < 512 → w q = qb_I (qb_W (bt ow) F q)) → post (f, b, c, w)) : ∀ (j : Nat) (w : Nat → Int32), j ≤ 8 → (∀ q, 2 ^ j ≤ q → q < 512 → w q = qb_I (qb_W (bt ow) F q)) → wX_solve_40 post ow f b (j + 1) (nI j + (-1)) c w := by
  intro j
  induction j with
  | zero =>
    intro w _ h
    exact br_t (by decide) (hp w h)
  | succ k ih =>
    intro w hk h
    rw [pk_m1]
    have hw := qb_pw7 k (by omega)
    have hn : ¬ nI k < 0 := nI_pos (by omega)
    have e2 : 2 ^ (k + 1) = 2 * 2 ^ k := by rw [Nat.pow_succ, Nat.mul_comm]
    rw [e2] at h
    refine br_f hn (qb_xisb ow k (by omega) (nm_r (qb_1k k (by omega)) ⟨2 ^ k + 1, ?_⟩))
    exact qb_x56 ow f b F k (by omega) c (fun w' h' => ih w' (by omega) h') (2 ^ k) (2 ^ k) w (by omega) (Nat.le_refl _) (fun q a z => absurd a (by omega)) h
theorem qb_x4 {post : SX → Prop} (m : Nat) (hm : m ≤ 20) (ow lo b : Int32) (c : Nat → Int32) (K : ∀ w : Nat → Int32, (∀ q, 256 ≤ q → q < 512 → w q = qb_I (qb_F c m lo q)) → ∃ n, wX_solve_40 post ow (nI m) b n 7 c w) : ∀ (d p : Nat) (w : Nat → Int32), p + d = 512 → 256 ≤ p → (∀ q, 256 ≤ q → q < p → w q = qb_I (qb_F c m lo q)) → wX_solve_4 post ow lo (nI m) b (d + 1) (nI p) c w := by
  intro d
  induction d with
  | zero =>
    intro p w hd hp h
    have e : p = 512 := by omega
    subst e
    exact br_t (by decide) (K w h)
  | succ d ih =>
    intro p w hd hp h
    have h5 : ¬ (512 : Int32) ≤ nI p := nI_ge (b := 512) (by omega) (by decide)
    have ec : (nI p).toNatClampNeg = p := nI_clamp (by omega)
    have i2 : vp_in (nI p) 512 := vp_in_nI (by omega) (by decide)
    have go : ∀ v : Int32, v = qb_I (qb_F c m lo p) → wX_solve_4 post ow lo (nI m) b (d + 1) (nI (p + 1)) c (upd w (nI p).toNatClampNeg v) := by
      intro v ev
      rw [ec]
      refine ih (p + 1) _ (by omega) (by omega) (fun q a z => ?_)
      by_cases y : q = p
      · subst y; rw [pk_us]; exact ev
      · rw [pk_un y]; exact h q a (by omega)
    refine br_f h5 (qb_xah m hm b lo c w p ?_)
    cases eF : qb_F c m lo p
    · rw [eF] at go
      exact br_t rfl ⟨i2, nm_e (nm_r (nI_1 p) (go _ rfl))⟩
    · rw [eF] at go
      exact br_f (by decide) ⟨i2, nm_e (nm_r (nI_1 p) (go _ rfl))⟩
theorem qb_solve {post : SX → Prop} (m : Nat) (hm : m ≤ 20) (ow lo b : Int32) (c w : Nat → Int32) (hp : ∀ w' : Nat → Int32, (∀ q, 1 ≤ q → q < 512 → w' q = qb_I (qb_W (bt ow) (qb_F c m lo) q)) → post (nI m, b, c, w')) : wpX_solve post (nI m, b, c, w) ow lo :=
  ⟨257, qb_x4 m hm ow lo b c (fun w' h' => ⟨9, qb_x40 ow b (nI m) (qb_F c m lo) c hp 8 w' (by omega) (fun q a z => by rw [h' q a z, qb_W_full _ _ a])⟩) 256 256 w rfl (by omega) (fun q a z => absurd a (by omega))⟩
