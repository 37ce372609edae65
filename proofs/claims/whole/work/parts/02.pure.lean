/-! a truth value as an int -/
def qb_I (b : Bool) : Int32 := if b = true then 1 else 0
theorem qb_I_t : qb_I true = 1 := rfl
theorem qb_I_f : qb_I false = 0 := rfl
theorem qb_I_or (x y : Bool) : qb_I x ||| qb_I y = qb_I (x || y) := by cases x <;> cases y <;> decide
theorem qb_I_and (x y : Bool) : qb_I x &&& qb_I y = qb_I (x && y) := by cases x <;> cases y <;> decide
theorem qb_nar (x : Bool) : vp_nar .boolean (qb_I x) = qb_I x := by cases x <;> rfl
theorem qb_n0 : vp_nar .boolean 0 = qb_I false := rfl
theorem qb_n1 : vp_nar .boolean 1 = qb_I true := rfl
theorem qb_I_inj {x y : Bool} (h : qb_I x = qb_I y) : x = y := by
  revert h; cases x <;> cases y <;> decide
/-! bits -/
theorem qb_31 : ∀ j, j < 32 → nI j &&& 31 = nI j := by decide +kernel
theorem qb_b1 : ∀ i, i < 32 → bt 1 i = decide (i = 0) := by decide +kernel
theorem qb_bI (b : Bool) (i : Nat) (hi : i < 32) : bt (qb_I b) i = (b && decide (i = 0)) := by
  cases b
  · exact b_0 i
  · show bt 1 i = _
    rw [qb_b1 i hi]; rfl
theorem qb_sh1 (x : Int32) (j : Nat) (hj : j < 32) : (x >>> (nI j &&& 31)) &&& 1 = qb_I (bt x j) := b_ext fun i hi => by
  rw [b_and, b_sshr j hj x hi, qb_b1 i hi, qb_bI _ _ hi]
  by_cases h : i = 0
  · subst h; simp [hj]
  · simp [h]
theorem qb_b1s (j : Nat) (hj : j < 32) (i : Nat) (hi : i < 32) : bt ((1 : Int32) <<< (nI j &&& 31)) i = decide (i = j) := by
  rw [b_shl j hj 1 hi, qb_b1 (i - j) (by omega)]
  by_cases h : i = j
  · subst h; simp
  · rw [decide_eq_false h]
    by_cases h2 : j ≤ i
    · rw [decide_eq_false (p := i - j = 0) (by omega)]; simp
    · rw [decide_eq_false h2]; rfl
theorem qb_z (x : Int32) : x = 0 ↔ ∀ i, i < 32 → bt x i = false :=
  ⟨fun h i _ => by rw [h]; exact b_0 i, fun h => b_ext fun i hi => by rw [h i hi, b_0]⟩
theorem qb_andor (x s t : Int32) : x &&& (s ||| t) = 0 ↔ x &&& s = 0 ∧ x &&& t = 0 := by
  rw [qb_z, qb_z, qb_z]
  constructor
  · intro h
    refine ⟨fun i hi => ?_, fun i hi => ?_⟩
    · have a := h i hi
      rw [b_and, b_or] at a
      rw [b_and]
      revert a
      cases bt x i <;> cases bt s i <;> cases bt t i <;> decide
    · have a := h i hi
      rw [b_and, b_or] at a
      rw [b_and]
      revert a
      cases bt x i <;> cases bt s i <;> cases bt t i <;> decide
  · intro h i hi
    have a := h.1 i hi
    have b := h.2 i hi
    rw [b_and] at a b
    rw [b_and, b_or]
    revert a b
    cases bt x i <;> cases bt s i <;> cases bt t i <;> decide
theorem qb_and1 (x : Int32) (j : Nat) (hj : j < 32) : x &&& ((1 : Int32) <<< (nI j &&& 31)) = 0 ↔ bt x j = false := by
  rw [qb_z]
  constructor
  · intro h
    have a := h j hj
    rw [b_and, qb_b1s j hj j hj, decide_eq_true rfl, Bool.and_true] at a
    exact a
  · intro h i hi
    rw [b_and, qb_b1s j hj i hi]
    by_cases e : i = j
    · subst e; rw [h]; rfl
    · rw [decide_eq_false e, Bool.and_false]
theorem qb_bit (x l : Int32) : x &&& ((1 : Int32) <<< (l &&& 31)) = 0 ↔ ¬ ((x >>> (l &&& 31)) &&& 1) = 1 := by
  obtain ⟨j, hj, e⟩ := pk_andE l (m := 31) 5 (by decide)
  have hj : j < 32 := hj
  have e2 : l &&& 31 = nI j &&& 31 := by rw [e, qb_31 j hj]
  rw [e2, qb_sh1 x j hj, qb_and1 x j hj]
  cases bt x j <;> decide
/-! what a full position makes so, and whether the clauses hold there -/
def qb_lit (p v : Nat) : Int32 := ((2 * nI v) + 1) - ((nI p >>> ((7 - nI v) &&& 31)) &&& 1)
def qb_so (p : Nat) : Nat → Int32
  | 0 => 0
  | v + 1 => qb_so p v ||| ((1 : Int32) <<< (qb_lit p v &&& 31))
theorem qb_so_iff (x : Int32) (p : Nat) : ∀ v, x &&& qb_so p v = 0 ↔ ∀ u, u < v → ¬ ((x >>> (qb_lit p u &&& 31)) &&& 1) = 1 := by
  intro v
  induction v with
  | zero => exact ⟨fun _ u hu => absurd hu (by omega), fun _ => (qb_z _).mpr fun i hi => by rw [b_and]; show (bt x i && bt 0 i) = false; rw [b_0, Bool.and_false]⟩
  | succ v ih =>
    show x &&& (qb_so p v ||| ((1 : Int32) <<< (qb_lit p v &&& 31))) = 0 ↔ _
    rw [qb_andor, ih, qb_bit]
    constructor
    · intro h u hu
      by_cases e : u = v
      · subst e; exact h.2
      · exact h.1 u (by omega)
    · intro h
      exact ⟨fun u hu => h u (by omega), h v (by omega)⟩
def qb_ho (x : Int32) (p : Nat) : Bool := decide (¬ x &&& qb_so p 8 = 0)
def qb_al (c : Nat → Int32) (lo : Int32) (p : Nat) : Nat → Nat → Bool
  | 0, _ => true
  | d + 1, i => (decide (nI i = lo) || qb_ho (c i) p) && qb_al c lo p d (i + 1)
theorem qb_al_o {c : Nat → Int32} {lo : Int32} {p d i : Nat} (h : nI i = lo) : qb_al c lo p (d + 1) i = qb_al c lo p d (i + 1) := by
  rw [qb_al, decide_eq_true h, Bool.true_or, Bool.true_and]
theorem qb_al_t {c : Nat → Int32} {lo : Int32} {p d i : Nat} (h : qb_ho (c i) p = true) : qb_al c lo p (d + 1) i = qb_al c lo p d (i + 1) := by
  rw [qb_al, h, Bool.or_true, Bool.true_and]
theorem qb_al_f {c : Nat → Int32} {lo : Int32} {p d i : Nat} (h : ¬ nI i = lo) (h2 : qb_ho (c i) p = false) : qb_al c lo p (d + 1) i = false := by
  rw [qb_al, h2, decide_eq_false h]; rfl
theorem qb_al_mono {c : Nat → Int32} {lo : Int32} {p : Nat} : ∀ d i, i + d < 2 ^ 31 → qb_al c (-1) p d i = true → qb_al c lo p d i = true := by
  intro d
  induction d with
  | zero => intro i _ h; exact h
  | succ d ih =>
    intro i hi h
    have n1 : ¬ nI i = -1 := fun e => absurd (nI_pos (n := i) (by omega)) (by rw [e]; decide)
    rw [qb_al, decide_eq_false n1, Bool.false_or, Bool.and_eq_true] at h
    rw [qb_al_t h.1]
    exact ih (i + 1) (by omega) h.2
def qb_F (c : Nat → Int32) (m : Nat) (lo : Int32) (p : Nat) : Bool := qb_al c lo p m 0
/-! the length of a position -/
def qb_lg (p : Nat) : Nat := if p < 2 then 0 else if p < 4 then 1 else if p < 8 then 2 else if p < 16 then 3 else if p < 32 then 4 else if p < 64 then 5 else if p < 128 then 6 else if p < 256 then 7 else 8
theorem qb_lg_8 (p : Nat) : qb_lg p ≤ 8 := by
  unfold qb_lg
  (repeat' split) <;> omega
theorem qb_lg_full {p : Nat} : qb_lg p = 8 ↔ 256 ≤ p := by
  unfold qb_lg
  (repeat' split) <;> omega
theorem qb_lg_iff (p k : Nat) (hk : k < 8) : qb_lg p ≤ k ↔ p < 2 * 2 ^ k := by
  have h : k = 0 ∨ k = 1 ∨ k = 2 ∨ k = 3 ∨ k = 4 ∨ k = 5 ∨ k = 6 ∨ k = 7 := by omega
  rcases h with rfl | rfl | rfl | rfl | rfl | rfl | rfl | rfl <;> unfold qb_lg <;> (repeat' split) <;> omega
theorem qb_lg_eq (p k : Nat) (hk : k < 8) (h1 : 2 ^ k ≤ p) (h2 : p < 2 * 2 ^ k) : qb_lg p = k := by
  have a := (qb_lg_iff p k hk).mpr h2
  rcases Nat.eq_zero_or_pos k with z | z
  · omega
  · have b := not_congr (qb_lg_iff p (k - 1) (by omega))
    have e : 2 ^ k = 2 * 2 ^ (k - 1) := by
      rw [Nat.mul_comm, ← Nat.pow_succ]
      exact congrArg (2 ^ ·) (by omega)
    have := b.mpr (by omega)
    omega
theorem qb_2k : ∀ k, k < 9 → (2 : Int32) <<< (nI k &&& 31) = nI (2 * 2 ^ k) := by decide +kernel
theorem qb_1k : ∀ k, k < 9 → (1 : Int32) <<< (nI k &&& 31) = nI (2 ^ k) := by decide +kernel
theorem qb_pw : ∀ k, k < 9 → 1 ≤ 2 ^ k ∧ 2 ^ k ≤ 256 := by decide
theorem qb_pw7 : ∀ k, k < 8 → 1 ≤ 2 ^ k ∧ 2 ^ k ≤ 128 := by decide
/-! the game: whether a position is won -/
def qb_V (o F : Nat → Bool) : Nat → Nat → Bool
  | 0, p => F p
  | n + 1, p => if p < 256 then (if o (qb_lg p) = true then qb_V o F n (2 * p) && qb_V o F n (2 * p + 1) else qb_V o F n (2 * p) || qb_V o F n (2 * p + 1)) else F p
theorem qb_V_s (o F : Nat → Bool) (n p : Nat) : qb_V o F (n + 1) p = if p < 256 then (if o (qb_lg p) = true then qb_V o F n (2 * p) && qb_V o F n (2 * p + 1) else qb_V o F n (2 * p) || qb_V o F n (2 * p + 1)) else F p := rfl
theorem qb_V_st (o F : Nat → Bool) : ∀ n p, 256 ≤ p * 2 ^ n → qb_V o F (n + 1) p = qb_V o F n p := by
  intro n
  induction n with
  | zero =>
    intro p h
    have h2 : ¬ p < 256 := by omega
    rw [qb_V_s, if_neg h2]; rfl
  | succ n ih =>
    intro p h
    have e : 2 * p * 2 ^ n = p * 2 ^ (n + 1) := by
      rw [Nat.pow_succ, Nat.mul_comm 2 p, Nat.mul_assoc, Nat.mul_comm 2 (2 ^ n)]
    have h1 := ih (2 * p) (by rw [e]; exact h)
    have h2 := ih (2 * p + 1) (Nat.le_trans (by rw [e]; exact h) (Nat.mul_le_mul_right (2 ^ n) (by omega : 2 * p ≤ 2 * p + 1)))
    rw [qb_V_s o F (n + 1) p, h1, h2, ← qb_V_s]
def qb_W (o F : Nat → Bool) (p : Nat) : Bool := qb_V o F 8 p
theorem qb_W_full (o F : Nat → Bool) {p : Nat} (h : 256 ≤ p) : qb_W o F p = F p := by
  rw [qb_W, qb_V_s, if_neg (by omega)]
theorem qb_W_in (o F : Nat → Bool) {p : Nat} (h : 1 ≤ p) (h2 : p < 256) : qb_W o F p = if o (qb_lg p) = true then qb_W o F (2 * p) && qb_W o F (2 * p + 1) else qb_W o F (2 * p) || qb_W o F (2 * p + 1) := by
  have a := qb_V_st o F 8 p (by omega)
  rw [qb_W, ← a, qb_V_s, if_pos h2]; rfl
theorem qb_V_mono (o F G : Nat → Bool) (h : ∀ p, F p = true → G p = true) : ∀ n p, qb_V o F n p = true → qb_V o G n p = true := by
  intro n
  induction n with
  | zero => intro p; exact h p
  | succ n ih =>
    intro p hp
    have a := ih (2 * p)
    have b := ih (2 * p + 1)
    rw [qb_V_s] at hp ⊢
    by_cases h1 : p < 256
    · rw [if_pos h1] at hp ⊢
      by_cases h2 : o (qb_lg p) = true
      · rw [if_pos h2, Bool.and_eq_true] at hp ⊢
        exact ⟨a hp.1, b hp.2⟩
      · rw [if_neg h2, Bool.or_eq_true] at hp ⊢
        exact hp.imp a b
    · rw [if_neg h1] at hp ⊢
      exact h p hp
theorem qb_W_mono (o : Nat → Bool) (c : Nat → Int32) (m : Nat) (hm : m ≤ 20) (lo : Int32) (p : Nat) (h : qb_W o (qb_F c m (-1)) p = true) : qb_W o (qb_F c m lo) p = true :=
  qb_V_mono o _ _ (fun _ hq => qb_al_mono m 0 (by omega) hq) 8 p h
theorem qb_ix (x : Int32) : x < 0 ∨ ∃ p : Nat, p < 2 ^ 31 ∧ x = nI p := by
  by_cases h : x < 0
  · exact Or.inl h
  · exact Or.inr (nI_of h)
theorem qb_lt1 {x : Int32} (h : x < 0) : x < 1 := Int32.lt_trans h (by decide)
