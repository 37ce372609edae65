section
theorem pk_us {f : Nat → Int32} {k : Nat} {x : Int32} : upd f k x k = x := if_pos rfl
theorem pk_un {f : Nat → Int32} {k j : Nat} {x : Int32} (h : j ≠ k) : upd f k x j = f j := if_neg h
theorem pk_sub {a b : Nat} (h : b ≤ a) : nI a - nI b = nI (a - b) := by
  obtain ⟨c, rfl⟩ : ∃ c, a = c + b := ⟨a - b, by omega⟩
  rw [← nI_add, Int32.add_sub_cancel, Nat.add_sub_cancel]
theorem pk_m1 (n : Nat) : nI (n + 1) + (-1) = nI n := by
  rw [← nI_1, Int32.add_assoc, show (1 : Int32) + (-1) = 0 from rfl, Int32.add_zero]
theorem pk_mul (a b : Nat) : nI a * nI b = nI (a * b) := (Int32.ofNat_mul a b).symm
theorem pk_ix (x : Int32) {n : Nat} (hn : n < 2 ^ 31) : x < 0 ∨ nI n ≤ x ∨ ∃ j : Nat, j < n ∧ x = nI j := by
  by_cases h : x < 0
  · exact Or.inl h
  · obtain ⟨j, hj, rfl⟩ := nI_of h
    by_cases h2 : j < n
    · exact Or.inr (Or.inr ⟨j, h2, rfl⟩)
    · exact Or.inr (Or.inl (nI_le (by omega) hj))
theorem pk_le {x y : Int32} {A B : Prop} (a b : Nat) (f : a ≤ b → A) (g : b < a → B) (hx : x = nI a := by rfl) (hy : y = nI b := by rfl) (ha : a < 2 ^ 31 := by omega) (hb : b < 2 ^ 31 := by omega) : (x ≤ y → A) ∧ (¬ x ≤ y → B) := by
  subst hx hy
  rw [nI_leI ha hb]
  exact ⟨f, fun z => g (by omega)⟩
theorem pk_lt {x y : Int32} {A B : Prop} (a b : Nat) (f : a < b → A) (g : b ≤ a → B) (hx : x = nI a := by rfl) (hy : y = nI b := by rfl) (ha : a < 2 ^ 31 := by omega) (hb : b < 2 ^ 31 := by omega) : (x < y → A) ∧ (¬ x < y → B) := by
  subst hx hy
  rw [nI_ltI ha hb]
  exact ⟨f, fun z => g (by omega)⟩
theorem pk_eq {x y : Int32} {A B : Prop} (a b : Nat) (f : a = b → A) (g : a ≠ b → B) (hx : x = nI a := by rfl) (hy : y = nI b := by rfl) (ha : a < 2 ^ 31 := by omega) (hb : b < 2 ^ 31 := by omega) : (x = y → A) ∧ (¬ x = y → B) := by
  subst hx hy
  rw [nI_eq ha hb]
  exact ⟨f, g⟩
theorem pk_in {x : Int32} (n N : Nat) (h : n < N) (hx : x = nI n := by rfl) (hN : N < 2 ^ 31 := by omega) : vp_in x N := by
  subst hx
  exact vp_in_nI h hN
theorem pk_cl {x : Int32} (n : Nat) (hx : x = nI n := by rfl) (h : n < 2 ^ 31 := by omega) : x.toNatClampNeg = n := by
  subst hx
  exact nI_clamp h
theorem pk_tn {n : Nat} (h : n < 2 ^ 32) : (nI n).toBitVec.toNat = n := Nat.mod_eq_of_lt h
theorem pk_and (x : Int32) {m : Int32} (k : Nat) (hm : m.toBitVec.toNat = 2 ^ k - 1) : x &&& m = nI (x.toBitVec.toNat % 2 ^ k) := by
  apply Int32.toBitVec_inj.mp
  apply BitVec.eq_of_toNat_eq
  rw [Int32.toBitVec_and, BitVec.toNat_and, hm, Nat.and_two_pow_sub_one_eq_mod]
  show _ = (BitVec.ofNat 32 _).toNat
  rw [BitVec.toNat_ofNat]
  exact (Nat.mod_eq_of_lt (Nat.lt_of_le_of_lt (Nat.mod_le _ _) x.toBitVec.isLt)).symm
theorem pk_andE (x : Int32) {m : Int32} (k : Nat) (hm : m.toBitVec.toNat = 2 ^ k - 1) : ∃ j : Nat, j < 2 ^ k ∧ x &&& m = nI j := ⟨_, Nat.mod_lt _ (Nat.two_pow_pos k), pk_and x k hm⟩
theorem pk_andIn (x : Int32) {m : Int32} (k : Nat) (hm : m.toBitVec.toNat = 2 ^ k - 1) (hk : k ≤ 30) : vp_in (x &&& m) (2 ^ k) := by
  obtain ⟨j, hj, e⟩ := pk_andE x k hm
  rw [e]
  exact vp_in_nI hj (Nat.lt_of_le_of_lt (Nat.pow_le_pow_right (by decide) hk) (by decide))
theorem pk_shl (a s : Int32) (k : Nat) (hs : (s.toBitVec.smod 32).toNat = k) : (a <<< s).toBitVec.toNat = a.toBitVec.toNat * 2 ^ k % 2 ^ 32 := by
  show (a.toBitVec <<< (s.toBitVec.smod 32).toNat).toNat = _
  rw [hs, BitVec.toNat_shiftLeft, Nat.shiftLeft_eq]
theorem pk_shlN {n : Nat} (s : Int32) (k : Nat) (hs : (s.toBitVec.smod 32).toNat = k) (h : n * 2 ^ k < 2 ^ 32) : nI n <<< s = nI (n * 2 ^ k) := by
  apply Int32.toBitVec_inj.mp
  apply BitVec.eq_of_toNat_eq
  have hn : n < 2 ^ 32 := Nat.lt_of_le_of_lt (Nat.le_mul_of_pos_right n (Nat.two_pow_pos k)) h
  rw [pk_shl _ _ k hs, pk_tn hn, pk_tn h, Nat.mod_eq_of_lt h]
def bt (x : Int32) (i : Nat) : Bool := x.toBitVec.getLsbD i
theorem b_ext {x y : Int32} (h : ∀ i, i < 32 → bt x i = bt y i) : x = y := Int32.toBitVec_inj.mp (BitVec.eq_of_getLsbD_eq (fun i hi => h i hi))
theorem b_or (x y : Int32) (i : Nat) : bt (x ||| y) i = (bt x i || bt y i) := by unfold bt; rw [Int32.toBitVec_or, BitVec.getLsbD_or]
theorem b_and (x y : Int32) (i : Nat) : bt (x &&& y) i = (bt x i && bt y i) := by unfold bt; rw [Int32.toBitVec_and, BitVec.getLsbD_and]
theorem b_xor (x y : Int32) (i : Nat) : bt (x ^^^ y) i = (bt x i ^^ bt y i) := by unfold bt; rw [Int32.toBitVec_xor, BitVec.getLsbD_xor]
theorem b_big {x : Int32} {i : Nat} (h : 32 ≤ i) : bt x i = false := BitVec.getLsbD_of_ge _ _ h
theorem b_m1 : ∀ i, i < 32 → bt (-1) i = true := by decide +kernel
theorem b_0 (i : Nat) : bt 0 i = false := BitVec.getLsbD_zero
theorem s_l : ∀ n, n < 32 → ((nI n &&& 31).toBitVec.smod 32).toNat = n := by decide +kernel
theorem b_shl (n : Nat) (hn : n < 32) (x : Int32) {i : Nat} (hi : i < 32) : bt (x <<< (nI n &&& 31)) i = (decide (n ≤ i) && bt x (i - n)) := by
  unfold bt
  rw [Int32.toBitVec_shiftLeft]
  show (x.toBitVec <<< ((nI n &&& 31).toBitVec.smod 32).toNat).getLsbD i = _
  rw [s_l n hn, BitVec.getLsbD_shiftLeft]
  rcases Nat.lt_or_ge i n with h | h
  · simp [h, Nat.not_le.mpr h]
  · simp [hi, h, Nat.not_lt.mpr h]
theorem b_sshr (n : Nat) (hn : n < 32) (x : Int32) {i : Nat} (hi : i < 32) : bt (x >>> (nI n &&& 31)) i = if n + i < 32 then bt x (n + i) else bt x 31 := by
  unfold bt
  rw [Int32.toBitVec_shiftRight]
  show (x.toBitVec.sshiftRight ((nI n &&& 31).toBitVec.smod 32).toNat).getLsbD i = _
  rw [s_l n hn, BitVec.getLsbD_sshiftRight, BitVec.msb_eq_getLsbD_last]
  simp [hi]
end
section
/-! a truth value as an int -/
def qb_I (b : Bool) : Int32 := if b = true then 1 else 0
theorem qb_I_t : qb_I true = 1 := rfl
theorem qb_I_f : qb_I false = 0 := rfl
theorem qb_I_or (x y : Bool) : qb_I x ||| qb_I y = qb_I (x || y) := by cases x <;> cases y <;> decide
theorem qb_I_and (x y : Bool) : qb_I x &&& qb_I y = qb_I (x && y) := by cases x <;> cases y <;> decide
theorem qb_nar (x : Bool) : vp_nar .boolean (qb_I x) = qb_I x := by cases x <;> rfl
theorem qb_n0 : vp_nar .boolean 0 = qb_I false := rfl
theorem qb_n1 : vp_nar .boolean 1 = qb_I true := rfl
theorem qb_I_inj {x y : Bool} (h : qb_I x = qb_I y) : x = y := by
  revert h; cases x <;> cases y <;> decide
/-! bits -/
theorem qb_31 : ∀ j, j < 32 → nI j &&& 31 = nI j := by decide +kernel
theorem qb_b1 : ∀ i, i < 32 → bt 1 i = decide (i = 0) := by decide +kernel
theorem qb_bI (b : Bool) (i : Nat) (hi : i < 32) : bt (qb_I b) i = (b && decide (i = 0)) := by
  cases b
  · exact b_0 i
  · show bt 1 i = _
    rw [qb_b1 i hi]; rfl
theorem qb_sh1 (x : Int32) (j : Nat) (hj : j < 32) : (x >>> (nI j &&& 31)) &&& 1 = qb_I (bt x j) := b_ext fun i hi => by
  rw [b_and, b_sshr j hj x hi, qb_b1 i hi, qb_bI _ _ hi]
  by_cases h : i = 0
  · subst h; simp [hj]
  · simp [h]
theorem qb_b1s (j : Nat) (hj : j < 32) (i : Nat) (hi : i < 32) : bt ((1 : Int32) <<< (nI j &&& 31)) i = decide (i = j) := by
  rw [b_shl j hj 1 hi, qb_b1 (i - j) (by omega)]
  by_cases h : i = j
  · subst h; simp
  · rw [decide_eq_false h]
    by_cases h2 : j ≤ i
    · rw [decide_eq_false (p := i - j = 0) (by omega)]; simp
    · rw [decide_eq_false h2]; rfl
theorem qb_z (x : Int32) : x = 0 ↔ ∀ i, i < 32 → bt x i = false :=
  ⟨fun h i _ => by rw [h]; exact b_0 i, fun h => b_ext fun i hi => by rw [h i hi, b_0]⟩
theorem qb_andor (x s t : Int32) : x &&& (s ||| t) = 0 ↔ x &&& s = 0 ∧ x &&& t = 0 := by
  rw [qb_z, qb_z, qb_z]
  constructor
  · intro h
    refine ⟨fun i hi => ?_, fun i hi => ?_⟩
    · have a := h i hi
      rw [b_and, b_or] at a
      rw [b_and]
      revert a
      cases bt x i <;> cases bt s i <;> cases bt t i <;> decide
    · have a := h i hi
      rw [b_and, b_or] at a
      rw [b_and]
      revert a
      cases bt x i <;> cases bt s i <;> cases bt t i <;> decide
  · intro h i hi
    have a := h.1 i hi
    have b := h.2 i hi
    rw [b_and] at a b
    rw [b_and, b_or]
    revert a b
    cases bt x i <;> cases bt s i <;> cases bt t i <;> decide
theorem qb_and1 (x : Int32) (j : Nat) (hj : j < 32) : x &&& ((1 : Int32) <<< (nI j &&& 31)) = 0 ↔ bt x j = false := by
  rw [qb_z]
  constructor
  · intro h
    have a := h j hj
    rw [b_and, qb_b1s j hj j hj, decide_eq_true rfl, Bool.and_true] at a
    exact a
  · intro h i hi
    rw [b_and, qb_b1s j hj i hi]
    by_cases e : i = j
    · subst e; rw [h]; rfl
    · rw [decide_eq_false e, Bool.and_false]
theorem qb_bit (x l : Int32) : x &&& ((1 : Int32) <<< (l &&& 31)) = 0 ↔ ¬ ((x >>> (l &&& 31)) &&& 1) = 1 := by
  obtain ⟨j, hj, e⟩ := pk_andE l (m := 31) 5 (by decide)
  have hj : j < 32 := hj
  have e2 : l &&& 31 = nI j &&& 31 := by rw [e, qb_31 j hj]
  rw [e2, qb_sh1 x j hj, qb_and1 x j hj]
  cases bt x j <;> decide
/-! what a full position makes so, and whether the clauses hold there -/
def qb_lit (p v : Nat) : Int32 := ((2 * nI v) + 1) - ((nI p >>> ((7 - nI v) &&& 31)) &&& 1)
def qb_so (p : Nat) : Nat → Int32
  | 0 => 0
  | v + 1 => qb_so p v ||| ((1 : Int32) <<< (qb_lit p v &&& 31))
theorem qb_so_iff (x : Int32) (p : Nat) : ∀ v, x &&& qb_so p v = 0 ↔ ∀ u, u < v → ¬ ((x >>> (qb_lit p u &&& 31)) &&& 1) = 1 := by
  intro v
  induction v with
  | zero => exact ⟨fun _ u hu => absurd hu (by omega), fun _ => (qb_z _).mpr fun i hi => by rw [b_and]; show (bt x i && bt 0 i) = false; rw [b_0, Bool.and_false]⟩
  | succ v ih =>
    show x &&& (qb_so p v ||| ((1 : Int32) <<< (qb_lit p v &&& 31))) = 0 ↔ _
    rw [qb_andor, ih, qb_bit]
    constructor
    · intro h u hu
      by_cases e : u = v
      · subst e; exact h.2
      · exact h.1 u (by omega)
    · intro h
      exact ⟨fun u hu => h u (by omega), h v (by omega)⟩
def qb_ho (x : Int32) (p : Nat) : Bool := decide (¬ x &&& qb_so p 8 = 0)
def qb_al (c : Nat → Int32) (lo : Int32) (p : Nat) : Nat → Nat → Bool
  | 0, _ => true
  | d + 1, i => (decide (nI i = lo) || qb_ho (c i) p) && qb_al c lo p d (i + 1)
theorem qb_al_o {c : Nat → Int32} {lo : Int32} {p d i : Nat} (h : nI i = lo) : qb_al c lo p (d + 1) i = qb_al c lo p d (i + 1) := by
  rw [qb_al, decide_eq_true h, Bool.true_or, Bool.true_and]
theorem qb_al_t {c : Nat → Int32} {lo : Int32} {p d i : Nat} (h : qb_ho (c i) p = true) : qb_al c lo p (d + 1) i = qb_al c lo p d (i + 1) := by
  rw [qb_al, h, Bool.or_true, Bool.true_and]
theorem qb_al_f {c : Nat → Int32} {lo : Int32} {p d i : Nat} (h : ¬ nI i = lo) (h2 : qb_ho (c i) p = false) : qb_al c lo p (d + 1) i = false := by
  rw [qb_al, h2, decide_eq_false h]; rfl
theorem qb_al_mono {c : Nat → Int32} {lo : Int32} {p : Nat} : ∀ d i, i + d < 2 ^ 31 → qb_al c (-1) p d i = true → qb_al c lo p d i = true := by
  intro d
  induction d with
  | zero => intro i _ h; exact h
  | succ d ih =>
    intro i hi h
    have n1 : ¬ nI i = -1 := fun e => absurd (nI_pos (n := i) (by omega)) (by rw [e]; decide)
    rw [qb_al, decide_eq_false n1, Bool.false_or, Bool.and_eq_true] at h
    rw [qb_al_t h.1]
    exact ih (i + 1) (by omega) h.2
def qb_F (c : Nat → Int32) (m : Nat) (lo : Int32) (p : Nat) : Bool := qb_al c lo p m 0
/-! the length of a position -/
def qb_lg (p : Nat) : Nat := if p < 2 then 0 else if p < 4 then 1 else if p < 8 then 2 else if p < 16 then 3 else if p < 32 then 4 else if p < 64 then 5 else if p < 128 then 6 else if p < 256 then 7 else 8
theorem qb_lg_8 (p : Nat) : qb_lg p ≤ 8 := by
  unfold qb_lg
  (repeat' split) <;> omega
theorem qb_lg_full {p : Nat} : qb_lg p = 8 ↔ 256 ≤ p := by
  unfold qb_lg
  (repeat' split) <;> omega
theorem qb_lg_iff (p k : Nat) (hk : k < 8) : qb_lg p ≤ k ↔ p < 2 * 2 ^ k := by
  have h : k = 0 ∨ k = 1 ∨ k = 2 ∨ k = 3 ∨ k = 4 ∨ k = 5 ∨ k = 6 ∨ k = 7 := by omega
  rcases h with rfl | rfl | rfl | rfl | rfl | rfl | rfl | rfl <;> unfold qb_lg <;> (repeat' split) <;> omega
theorem qb_lg_eq (p k : Nat) (hk : k < 8) (h1 : 2 ^ k ≤ p) (h2 : p < 2 * 2 ^ k) : qb_lg p = k := by
  have a := (qb_lg_iff p k hk).mpr h2
  rcases Nat.eq_zero_or_pos k with z | z
  · omega
  · have b := not_congr (qb_lg_iff p (k - 1) (by omega))
    have e : 2 ^ k = 2 * 2 ^ (k - 1) := by
      rw [Nat.mul_comm, ← Nat.pow_succ]
      exact congrArg (2 ^ ·) (by omega)
    have := b.mpr (by omega)
    omega
theorem qb_2k : ∀ k, k < 9 → (2 : Int32) <<< (nI k &&& 31) = nI (2 * 2 ^ k) := by decide +kernel
theorem qb_1k : ∀ k, k < 9 → (1 : Int32) <<< (nI k &&& 31) = nI (2 ^ k) := by decide +kernel
theorem qb_pw : ∀ k, k < 9 → 1 ≤ 2 ^ k ∧ 2 ^ k ≤ 256 := by decide
theorem qb_pw7 : ∀ k, k < 8 → 1 ≤ 2 ^ k ∧ 2 ^ k ≤ 128 := by decide
/-! the game: whether a position is won -/
def qb_V (o F : Nat → Bool) : Nat → Nat → Bool
  | 0, p => F p
  | n + 1, p => if p < 256 then (if o (qb_lg p) = true then qb_V o F n (2 * p) && qb_V o F n (2 * p + 1) else qb_V o F n (2 * p) || qb_V o F n (2 * p + 1)) else F p
theorem qb_V_s (o F : Nat → Bool) (n p : Nat) : qb_V o F (n + 1) p = if p < 256 then (if o (qb_lg p) = true then qb_V o F n (2 * p) && qb_V o F n (2 * p + 1) else qb_V o F n (2 * p) || qb_V o F n (2 * p + 1)) else F p := rfl
theorem qb_V_st (o F : Nat → Bool) : ∀ n p, 256 ≤ p * 2 ^ n → qb_V o F (n + 1) p = qb_V o F n p := by
  intro n
  induction n with
  | zero =>
    intro p h
    have h2 : ¬ p < 256 := by omega
    rw [qb_V_s, if_neg h2]; rfl
  | succ n ih =>
    intro p h
    have e : 2 * p * 2 ^ n = p * 2 ^ (n + 1) := by
      rw [Nat.pow_succ, Nat.mul_comm 2 p, Nat.mul_assoc, Nat.mul_comm 2 (2 ^ n)]
    have h1 := ih (2 * p) (by rw [e]; exact h)
    have h2 := ih (2 * p + 1) (Nat.le_trans (by rw [e]; exact h) (Nat.mul_le_mul_right (2 ^ n) (by omega : 2 * p ≤ 2 * p + 1)))
    rw [qb_V_s o F (n + 1) p, h1, h2, ← qb_V_s]
def qb_W (o F : Nat → Bool) (p : Nat) : Bool := qb_V o F 8 p
theorem qb_W_full (o F : Nat → Bool) {p : Nat} (h : 256 ≤ p) : qb_W o F p = F p := by
  rw [qb_W, qb_V_s, if_neg (by omega)]
theorem qb_W_in (o F : Nat → Bool) {p : Nat} (h : 1 ≤ p) (h2 : p < 256) : qb_W o F p = if o (qb_lg p) = true then qb_W o F (2 * p) && qb_W o F (2 * p + 1) else qb_W o F (2 * p) || qb_W o F (2 * p + 1) := by
  have a := qb_V_st o F 8 p (by omega)
  rw [qb_W, ← a, qb_V_s, if_pos h2]; rfl
theorem qb_V_mono (o F G : Nat → Bool) (h : ∀ p, F p = true → G p = true) : ∀ n p, qb_V o F n p = true → qb_V o G n p = true := by
  intro n
  induction n with
  | zero => intro p; exact h p
  | succ n ih =>
    intro p hp
    have a := ih (2 * p)
    have b := ih (2 * p + 1)
    rw [qb_V_s] at hp ⊢
    by_cases h1 : p < 256
    · rw [if_pos h1] at hp ⊢
      by_cases h2 : o (qb_lg p) = true
      · rw [if_pos h2, Bool.and_eq_true] at hp ⊢
        exact ⟨a hp.1, b hp.2⟩
      · rw [if_neg h2, Bool.or_eq_true] at hp ⊢
        exact hp.imp a b
    · rw [if_neg h1] at hp ⊢
      exact h p hp
theorem qb_W_mono (o : Nat → Bool) (c : Nat → Int32) (m : Nat) (hm : m ≤ 20) (lo : Int32) (p : Nat) (h : qb_W o (qb_F c m (-1)) p = true) : qb_W o (qb_F c m lo) p = true :=
  qb_V_mono o _ _ (fun _ hq => qb_al_mono m 0 (by omega) hq) 8 p h
theorem qb_ix (x : Int32) : x < 0 ∨ ∃ p : Nat, p < 2 ^ 31 ∧ x = nI p := by
  by_cases h : x < 0
  · exact Or.inl h
  · exact Or.inr (nI_of h)
theorem qb_lt1 {x : Int32} (h : x < 0) : x < 1 := Int32.lt_trans h (by decide)
end
section
/-! X's walks -/
theorem qb_xlit {post : Int32 → Prop} (p : Nat) (h : post (qb_so p 8)) : ∀ d v, v + d = 8 → wX_literalsThatAreSo_4 post (nI p) (d + 1) (qb_so p v) (nI v) := by
  intro d
  induction d with
  | zero =>
    intro v hv
    have e : v = 8 := by omega
    subst e
    exact br_t (by decide) h
  | succ d ih =>
    intro v hv
    have h8 : ¬ (8 : Int32) ≤ nI v := nI_ge (b := 8) (by omega) (by decide)
    exact br_f h8 (nm_e (nm_e (nm_r (nI_1 v) (ih (v + 1) (by omega)))))
theorem qb_xso {post : Int32 → Prop} (p : Nat) (h : post (qb_so p 8)) : wpX_literalsThatAreSo post (nI p) := ⟨9, qb_xlit p h 8 0 rfl⟩
theorem qb_ho_t {x : Int32} {p : Nat} (h : ¬ x &&& qb_so p 8 = 0) : qb_ho x p = true := decide_eq_true h
theorem qb_ho_f {x : Int32} {p : Nat} (h : x &&& qb_so p 8 = 0) : qb_ho x p = false := decide_eq_false (fun z => z h)
theorem qb_xall {post : Int32 → Prop} (m : Nat) (hm : m ≤ 20) (b lo : Int32) (c w : Nat → Int32) (p : Nat) : ∀ d i, i + d = m → post (qb_I (qb_al c lo p d i)) → wX_allHold_8 post lo (qb_so p 8) (nI m) b c w (d + 1) (nI i) := by
  intro d
  induction d with
  | zero =>
    intro i hi hp
    have h : nI m ≤ nI i := nI_le (by omega) (by omega)
    exact br_t h hp
  | succ d ih =>
    intro i hi hp
    have h : ¬ nI m ≤ nI i := nI_ge (by omega) (by omega)
    refine br_f h ?_
    by_cases e : nI i = lo
    · rw [qb_al_o e] at hp
      exact br_t e (nm_r (nI_1 i) (ih (i + 1) (by omega) hp))
    · refine br_f e ⟨vp_in_nI (by omega) (by decide), ?_⟩
      have ec : (nI i).toNatClampNeg = i := nI_clamp (by omega)
      rw [ec]
      by_cases z : c i &&& qb_so p 8 = 0
      · rw [qb_al_f e (qb_ho_f z)] at hp
        exact br_t z hp
      · rw [qb_al_t (qb_ho_t z)] at hp
        exact br_f z (nm_r (nI_1 i) (ih (i + 1) (by omega) hp))
theorem qb_xah {post : Int32 → Prop} (m : Nat) (hm : m ≤ 20) (b lo : Int32) (c w : Nat → Int32) (p : Nat) (h : post (qb_I (qb_F c m lo p))) : wpX_allHold post (nI m, b, c, w) (nI p) lo :=
  qb_xso p ⟨m + 1, qb_xall m hm b lo c w p m 0 (by omega) h⟩
theorem qb_xisb {post : Int32 → Prop} (ow : Int32) (k : Nat) (hk : k < 32) (h : post (qb_I (bt ow k))) : wpX_isBreakers post ow (nI k) := by
  unfold wpX_isBreakers
  rw [qb_sh1 ow k hk]
  cases e : bt ow k
  · rw [e] at h
    exact br_f (by decide) h
  · rw [e] at h
    exact br_t rfl h
theorem qb_xlg {post : Int32 → Prop} (p : Nat) (hp : p < 2 ^ 31) (h : post (nI (qb_lg p))) : ∀ d k, k + d = 8 → k ≤ qb_lg p → wX_valuesIn_2 post (nI p) (d + 1) (nI k) := by
  intro d
  induction d with
  | zero =>
    intro k hk hl
    have e : k = 8 := by omega
    subst e
    have e : qb_lg p = 8 := by have := qb_lg_8 p; omega
    rw [e] at h
    exact br_t (by decide) h
  | succ d ih =>
    intro k hk hl
    have h8 : ¬ (8 : Int32) ≤ nI k := nI_ge (b := 8) (by omega) (by decide)
    have hw := qb_pw7 k (by omega)
    refine br_f h8 (pk_lt p (2 * 2 ^ k) (fun z => ?_) (fun z => ?_) rfl (qb_2k k (by omega)) hp (by omega))
    · have e : qb_lg p = k := by have := (qb_lg_iff p k (by omega)).mpr z; omega
      rw [e] at h
      exact h
    · have e : k + 1 ≤ qb_lg p := by have := not_congr (qb_lg_iff p k (by omega)); omega
      exact nm_r (nI_1 k) (ih (k + 1) (by omega) e)
theorem qb_xval {post : Int32 → Prop} (p : Nat) (hp : p < 2 ^ 31) (h : post (nI (qb_lg p))) : wpX_valuesIn post (nI p) := ⟨9, qb_xlg p hp h 8 0 rfl (Nat.zero_le _)⟩
/-! solve: the innermost loop, one position after the other on one level -/
theorem qb_mul2 (p : Nat) : 2 * nI p = nI (2 * p) := pk_mul 2 p
theorem qb_mul21 (p : Nat) : 2 * nI p + 1 = nI (2 * p + 1) := by rw [qb_mul2, nI_1]
theorem qb_x56 {post : SX → Prop} {J : Int32 → (Nat → Int32) → (Nat → Int32) → Prop} (ow f b : Int32) (F : Nat → Bool) (k : Nat) (hk : k < 8) (c : Nat → Int32) (hJ : ∀ w : Nat → Int32, (∀ q, 2 ^ k ≤ q → q < 512 → w q = qb_I (qb_W (bt ow) F q)) → J (nI k + (-1)) c w) : ∀ (d p : Nat) (w : Nat → Int32), p + d = 2 * 2 ^ k → 2 ^ k ≤ p → (∀ q, 2 ^ k ≤ q → q < p → w q = qb_I (qb_W (bt ow) F q)) → (∀ q, 2 * 2 ^ k ≤ q → q < 512 → w q = qb_I (qb_W (bt ow) F q)) → wX_solve_56 post J ow (nI k) (qb_I (bt ow k)) f b (d + 1) (nI p) c w := by
  have hw := qb_pw7 k hk
  intro d
  induction d with
  | zero =>
    intro p w hd hp h1 h2
    have h : (2 : Int32) <<< (nI k &&& 31) ≤ nI p := by rw [qb_2k k (by omega)]; exact nI_le (by omega) (by omega)
    refine br_t h (nm_e (hJ w fun q a b => ?_))
    by_cases z : q < p
    · exact h1 q a z
    · exact h2 q (by omega) b
  | succ d ih =>
    intro p w hd hp h1 h2
    have h : ¬ (2 : Int32) <<< (nI k &&& 31) ≤ nI p := by rw [qb_2k k (by omega)]; exact nI_ge (by omega) (by omega)
    have i0 : vp_in (2 * nI p) 512 := pk_in (2 * p) 512 (by omega) (qb_mul2 p)
    have i1 : vp_in (2 * nI p + 1) 512 := pk_in (2 * p + 1) 512 (by omega) (qb_mul21 p)
    have i2 : vp_in (nI p) 512 := vp_in_nI (by omega) (by decide)
    have e0 : w (2 * nI p).toNatClampNeg = qb_I (qb_W (bt ow) F (2 * p)) := by
      rw [pk_cl (2 * p) (qb_mul2 p) (by omega)]
      exact h2 (2 * p) (by omega) (by omega)
    have e1 : w (2 * nI p + 1).toNatClampNeg = qb_I (qb_W (bt ow) F (2 * p + 1)) := by
      rw [pk_cl (2 * p + 1) (qb_mul21 p) (by omega)]
      exact h2 (2 * p + 1) (by omega) (by omega)
    have ec : (nI p).toNatClampNeg = p := nI_clamp (by omega)
    have el : qb_lg p = k := qb_lg_eq p k hk hp (by omega)
    have eW := qb_W_in (bt ow) F (p := p) (by omega) (by omega)
    rw [el] at eW
    have go : ∀ v : Int32, v = qb_I (qb_W (bt ow) F p) → wX_solve_56 post J ow (nI k) (qb_I (bt ow k)) f b (d + 1) (nI (p + 1)) c (upd w (nI p).toNatClampNeg v) := by
      intro v ev
      rw [ec]
      refine ih (p + 1) _ (by omega) (by omega) (fun q a z => ?_) (fun q a z => ?_)
      · by_cases y : q = p
        · subst y; rw [pk_us]; exact ev
        · rw [pk_un y]; exact h1 q a (by omega)
      · rw [pk_un (by omega)]; exact h2 q a z
    refine br_f h ⟨i0, nm_r e0 ⟨i1, nm_r e1 ?_⟩⟩
    cases eo : bt ow k
    · rw [eo, if_neg (by decide)] at eW
      rw [eo] at go
      exact br_t rfl ⟨i2, nm_e (nm_r (nI_1 p) (go _ (by rw [qb_I_or, eW])))⟩
    · rw [eo, if_pos rfl] at eW
      rw [eo] at go
      exact br_f (by decide) ⟨i2, nm_e (nm_r (nI_1 p) (go _ (by rw [qb_I_and, eW])))⟩
theorem qb_x40 {post : SX → Prop} (ow b f : Int32) (F : Nat → Bool) (c : Nat → Int32) (hp : ∀ w : Nat → Int32, (∀ q, 1 ≤ q → q < 512 → w q = qb_I (qb_W (bt ow) F q)) → post (f, b, c, w)) : ∀ (j : Nat) (w : Nat → Int32), j ≤ 8 → (∀ q, 2 ^ j ≤ q → q < 512 → w q = qb_I (qb_W (bt ow) F q)) → wX_solve_40 post ow f b (j + 1) (nI j + (-1)) c w := by
  intro j
  induction j with
  | zero =>
    intro w _ h
    exact br_t (by decide) (hp w h)
  | succ k ih =>
    intro w hk h
    rw [pk_m1]
    have hw := qb_pw7 k (by omega)
    have hn : ¬ nI k < 0 := nI_pos (by omega)
    have e2 : 2 ^ (k + 1) = 2 * 2 ^ k := by rw [Nat.pow_succ, Nat.mul_comm]
    rw [e2] at h
    refine br_f hn (qb_xisb ow k (by omega) (nm_r (qb_1k k (by omega)) ⟨2 ^ k + 1, ?_⟩))
    exact qb_x56 ow f b F k (by omega) c (fun w' h' => ih w' (by omega) h') (2 ^ k) (2 ^ k) w (by omega) (Nat.le_refl _) (fun q a z => absurd a (by omega)) h
theorem qb_x4 {post : SX → Prop} (m : Nat) (hm : m ≤ 20) (ow lo b : Int32) (c : Nat → Int32) (K : ∀ w : Nat → Int32, (∀ q, 256 ≤ q → q < 512 → w q = qb_I (qb_F c m lo q)) → ∃ n, wX_solve_40 post ow (nI m) b n 7 c w) : ∀ (d p : Nat) (w : Nat → Int32), p + d = 512 → 256 ≤ p → (∀ q, 256 ≤ q → q < p → w q = qb_I (qb_F c m lo q)) → wX_solve_4 post ow lo (nI m) b (d + 1) (nI p) c w := by
  intro d
  induction d with
  | zero =>
    intro p w hd hp h
    have e : p = 512 := by omega
    subst e
    exact br_t (by decide) (K w h)
  | succ d ih =>
    intro p w hd hp h
    have h5 : ¬ (512 : Int32) ≤ nI p := nI_ge (b := 512) (by omega) (by decide)
    have ec : (nI p).toNatClampNeg = p := nI_clamp (by omega)
    have i2 : vp_in (nI p) 512 := vp_in_nI (by omega) (by decide)
    have go : ∀ v : Int32, v = qb_I (qb_F c m lo p) → wX_solve_4 post ow lo (nI m) b (d + 1) (nI (p + 1)) c (upd w (nI p).toNatClampNeg v) := by
      intro v ev
      rw [ec]
      refine ih (p + 1) _ (by omega) (by omega) (fun q a z => ?_)
      by_cases y : q = p
      · subst y; rw [pk_us]; exact ev
      · rw [pk_un y]; exact h q a (by omega)
    refine br_f h5 (qb_xah m hm b lo c w p ?_)
    cases eF : qb_F c m lo p
    · rw [eF] at go
      exact br_t rfl ⟨i2, nm_e (nm_r (nI_1 p) (go _ rfl))⟩
    · rw [eF] at go
      exact br_f (by decide) ⟨i2, nm_e (nm_r (nI_1 p) (go _ rfl))⟩
theorem qb_solve {post : SX → Prop} (m : Nat) (hm : m ≤ 20) (ow lo b : Int32) (c w : Nat → Int32) (hp : ∀ w' : Nat → Int32, (∀ q, 1 ≤ q → q < 512 → w' q = qb_I (qb_W (bt ow) (qb_F c m lo) q)) → post (nI m, b, c, w')) : wpX_solve post (nI m, b, c, w) ow lo :=
  ⟨257, qb_x4 m hm ow lo b c (fun w' h' => ⟨9, qb_x40 ow b (nI m) (qb_F c m lo) c hp 8 w' (by omega) (fun q a z => by rw [h' q a z, qb_W_full _ _ a])⟩) 256 256 w rfl (by omega) (fun q a z => absurd a (by omega))⟩
end
section
/-! Y's walks -/
theorem qb_yh {post : Int32 → Prop} (x : Int32) (p : Nat) (h : post (qb_I (qb_ho x p))) : ∀ d v, v + d = 8 → (∀ u, u < v → ¬ ((x >>> (qb_lit p u &&& 31)) &&& 1) = 1) → wY_holds_2 post x (nI p) (d + 1) (nI v) := by
  intro d
  induction d with
  | zero =>
    intro v hv hu
    have e : v = 8 := by omega
    subst e
    rw [qb_ho_f ((qb_so_iff x p 8).mpr hu)] at h
    exact br_t (by decide) h
  | succ d ih =>
    intro v hv hu
    have h8 : ¬ (8 : Int32) ≤ nI v := nI_ge (b := 8) (by omega) (by decide)
    refine br_f h8 (nm_r (e' := qb_lit p v) rfl ?_)
    by_cases z : ((x >>> (qb_lit p v &&& 31)) &&& 1) = 1
    · rw [qb_ho_t (fun a => (qb_so_iff x p 8).mp a v (by omega) z)] at h
      exact br_t z h
    · refine br_f z (nm_r (nI_1 v) (ih (v + 1) (by omega) fun u a => ?_))
      by_cases y : u = v
      · subst y; exact z
      · exact hu u (by omega)
theorem qb_yho {post : Int32 → Prop} (x : Int32) (p : Nat) (h : post (qb_I (qb_ho x p))) : wpY_holds post x (nI p) := ⟨9, qb_yh x p h 8 0 rfl (fun u a => absurd a (by omega))⟩
theorem qb_yall {post : Int32 → Prop} (m : Nat) (hm : m ≤ 20) (lo : Int32) (br c w : Nat → Int32) (p : Nat) : ∀ d i, i + d = m → post (qb_I (qb_al c lo p d i)) → wY_allHold_2 post (nI p) lo (nI m) br c w (d + 1) (nI i) := by
  intro d
  induction d with
  | zero =>
    intro i hi hp
    have h : nI m ≤ nI i := nI_le (by omega) (by omega)
    exact br_t h hp
  | succ d ih =>
    intro i hi hp
    have h : ¬ nI m ≤ nI i := nI_ge (by omega) (by omega)
    refine br_f h ?_
    by_cases e : nI i = lo
    · rw [qb_al_o e] at hp
      exact br_t e (nm_r (nI_1 i) (ih (i + 1) (by omega) hp))
    · refine br_f e ⟨vp_in_nI (by omega) (by decide), ?_⟩
      have ec : (nI i).toNatClampNeg = i := nI_clamp (by omega)
      rw [ec]
      refine qb_yho (c i) p ?_
      cases z : qb_ho (c i) p
      · rw [qb_al_f e z] at hp
        exact br_t rfl hp
      · rw [qb_al_t z] at hp
        exact br_f (by decide) (nm_r (nI_1 i) (ih (i + 1) (by omega) hp))
theorem qb_yah {post : Int32 → Prop} (m : Nat) (hm : m ≤ 20) (lo : Int32) (br c w : Nat → Int32) (p : Nat) (h : post (qb_I (qb_F c m lo p))) : wpY_allHold post (nI m, br, c, w) (nI p) lo :=
  ⟨m + 1, qb_yall m hm lo br c w p m 0 (by omega) h⟩
theorem qb_ylg {post : Int32 → Prop} (p : Nat) (hp : p < 2 ^ 31) (h : post (nI (qb_lg p))) : ∀ d k, k + d = 8 → k ≤ qb_lg p → wY_length_2 post (nI p) (d + 1) (nI k) := by
  intro d
  induction d with
  | zero =>
    intro k hk hl
    have e : k = 8 := by omega
    subst e
    have e : qb_lg p = 8 := by have := qb_lg_8 p; omega
    rw [e] at h
    exact br_t (by decide) h
  | succ d ih =>
    intro k hk hl
    have h8 : ¬ (8 : Int32) ≤ nI k := nI_ge (b := 8) (by omega) (by decide)
    have hw := qb_pw7 k (by omega)
    refine br_f h8 (pk_lt p (2 * 2 ^ k) (fun z => ?_) (fun z => ?_) rfl (qb_2k k (by omega)) hp (by omega))
    · have e : qb_lg p = k := by have := (qb_lg_iff p k (by omega)).mpr z; omega
      rw [e] at h
      exact h
    · have e : k + 1 ≤ qb_lg p := by have := not_congr (qb_lg_iff p k (by omega)); omega
      exact nm_r (nI_1 k) (ih (k + 1) (by omega) e)
theorem qb_ylen {post : Int32 → Prop} (p : Nat) (hp : p < 2 ^ 31) (h : post (nI (qb_lg p))) : wpY_length post (nI p) := ⟨9, qb_ylg p hp h 8 0 rfl (Nat.zero_le _)⟩
/-! work: one position -/
theorem qb_y63 {post : SY → Prop} {J : Int32 → (Nat → Int32) → (Nat → Int32) → (Nat → Int32) → Prop} (lo sw f : Int32) (br c w : Nat → Int32) (q : Nat) (hq : q < 256) (o x y : Bool) (hx : w (2 * q) = qb_I x) (hy : w (2 * q + 1) = qb_I y) (hJ : J (nI q + (-1)) br c (upd w q (qb_I (if o = true then x && y else x || y)))) : wY_work_63 post J lo sw (nI q) (qb_I o) f br c w := by
  have i0 : vp_in (2 * nI q) 512 := pk_in (2 * q) 512 (by omega) (qb_mul2 q)
  have i1 : vp_in (2 * nI q + 1) 512 := pk_in (2 * q + 1) 512 (by omega) (qb_mul21 q)
  have i2 : vp_in (nI q) 512 := vp_in_nI (by omega) (by decide)
  have e0 : w (2 * nI q).toNatClampNeg = qb_I x := by rw [pk_cl (2 * q) (qb_mul2 q) (by omega)]; exact hx
  have e1 : w (2 * nI q + 1).toNatClampNeg = qb_I y := by rw [pk_cl (2 * q + 1) (qb_mul21 q) (by omega)]; exact hy
  have ec : (nI q).toNatClampNeg = q := nI_clamp (by omega)
  refine ⟨i0, nm_r e0 ⟨i1, nm_r e1 ?_⟩⟩
  rw [ec]
  have n : ¬ (1 : Int32) = 0 := by decide
  cases o
  · cases x
    · cases y
      · exact br_t rfl (br_t rfl (br_t rfl ⟨i2, nm_r rfl (nm_e hJ)⟩))
      · exact br_t rfl (br_t rfl (br_f n ⟨i2, nm_r rfl (nm_e hJ)⟩))
    · cases y
      · exact br_t rfl (br_f n ⟨i2, nm_r rfl (nm_e hJ)⟩)
      · exact br_t rfl (br_f n ⟨i2, nm_r rfl (nm_e hJ)⟩)
  · cases x
    · cases y
      · exact br_f n (br_t rfl ⟨i2, nm_r rfl (nm_e hJ)⟩)
      · exact br_f n (br_t rfl ⟨i2, nm_r rfl (nm_e hJ)⟩)
    · cases y
      · exact br_f n (br_f n (br_t rfl ⟨i2, nm_r rfl (nm_e hJ)⟩))
      · exact br_f n (br_f n (br_f n ⟨i2, nm_r rfl (nm_e hJ)⟩))
theorem qb_y55 {post : SY → Prop} {J : Int32 → (Nat → Int32) → (Nat → Int32) → (Nat → Int32) → Prop} (lo sw f : Int32) (br c w : Nat → Int32) (x3 : Int32) (o s : Bool) (z : Int32) (hz : z = qb_I (o ^^ s)) (h : wY_work_63 post J lo sw x3 (qb_I o) f br c w) : wY_work_55 post J lo sw x3 (qb_I s) z f br c w := by
  subst hz
  cases o
  · cases s
    · exact br_t rfl h
    · exact br_t rfl h
  · cases s
    · exact br_f (by decide) h
    · exact br_f (by decide) h
theorem qb_y4 {post : SY → Prop} (m : Nat) (hm : m ≤ 20) (lo sw : Int32) (br c : Nat → Int32) (o : Nat → Bool) (ho : ∀ k, k < 8 → br k = qb_I (o k ^^ decide (nI k = sw))) (hp : ∀ w : Nat → Int32, (∀ q, 1 ≤ q → q < 512 → w q = qb_I (qb_W o (qb_F c m lo) q)) → post (nI m, br, c, w)) : ∀ (p : Nat) (w : Nat → Int32), p < 512 → (∀ q, p < q → q < 512 → w q = qb_I (qb_W o (qb_F c m lo) q)) → wY_work_4 post lo sw (nI m) (p + 1) (nI p) br c w := by
  intro p
  induction p with
  | zero =>
    intro w _ h
    exact br_t (by decide) (hp w (fun q a z => h q (by omega) z))
  | succ p ih =>
    intro w hlt h
    have h1 : ¬ nI (p + 1) < 1 := nI_nlt (b := 1) (by omega) (by omega)
    have i2 : vp_in (nI (p + 1)) 512 := vp_in_nI (by omega) (by decide)
    have ec : (nI (p + 1)).toNatClampNeg = p + 1 := nI_clamp (by omega)
    have go : ∀ v : Int32, v = qb_I (qb_W o (qb_F c m lo) (p + 1)) → wY_work_4 post lo sw (nI m) (p + 1) (nI p) br c (upd w (p + 1) v) := by
      intro v ev
      refine ih _ (by omega) (fun q a z => ?_)
      by_cases y : q = p + 1
      · subst y; rw [pk_us]; exact ev
      · rw [pk_un y]; exact h q (by omega) z
    refine br_f h1 (qb_ylen (p + 1) (by omega) ?_)
    have l8 := qb_lg_8 (p + 1)
    refine pk_eq (qb_lg (p + 1)) 8 (fun e => ?_) (fun e => ?_)
    · have h2 := qb_lg_full.mp e
      refine qb_yah m hm lo br c w (p + 1) ⟨i2, ?_⟩
      rw [ec]
      exact nm_r (by rw [qb_nar]) (nm_r (pk_m1 p) (go _ (by rw [qb_W_full _ _ h2])))
    · have hk : qb_lg (p + 1) < 8 := by omega
      have h2 : p + 1 < 256 := by have := not_congr (qb_lg_full (p := p + 1)); omega
      have el : (nI (qb_lg (p + 1))).toNatClampNeg = qb_lg (p + 1) := nI_clamp (by omega)
      have g := qb_y63 (post := post) (J := wY_work_4 post lo sw (nI m) (p + 1)) lo sw (nI m) br c w (p + 1) h2 (o (qb_lg (p + 1))) _ _ (h (2 * (p + 1)) (by omega) (by omega)) (h (2 * (p + 1) + 1) (by omega) (by omega)) (by rw [pk_m1]; exact go _ (by rw [qb_W_in o (qb_F c m lo) (p := p + 1) (by omega) h2]))
      refine ⟨vp_in_nI hk (by decide), ?_⟩
      rw [el]
      have hb := ho (qb_lg (p + 1)) hk
      by_cases z : nI (qb_lg (p + 1)) = sw
      · rw [decide_eq_true z] at hb
        exact br_t z (qb_y55 lo sw (nI m) br c w (nI (p + 1)) _ true _ hb g)
      · rw [decide_eq_false z] at hb
        exact br_f z (qb_y55 lo sw (nI m) br c w (nI (p + 1)) _ false _ hb g)
theorem qb_work {post : SY → Prop} (m : Nat) (hm : m ≤ 20) (lo sw : Int32) (br c w : Nat → Int32) (o : Nat → Bool) (ho : ∀ k, k < 8 → br k = qb_I (o k ^^ decide (nI k = sw))) (hp : ∀ w' : Nat → Int32, (∀ q, 1 ≤ q → q < 512 → w' q = qb_I (qb_W o (qb_F c m lo) q)) → post (nI m, br, c, w')) : wpY_work post (nI m, br, c, w) lo sw :=
  ⟨512, qb_y4 m hm lo sw br c o ho hp 511 w (by omega) (fun q a z => absurd a (by omega))⟩
end
section
/-! what the methods need beside solve and work -/
theorem qb_ne1 {k : Nat} (hk : k < 2 ^ 31) : ¬ nI k = -1 := fun e => absurd (nI_pos hk) (by rw [e]; decide)
theorem qb_hom {br : Nat → Int32} {b : Int32} (hb : ∀ j, j < 8 → br j = qb_I (bt b j)) : ∀ k, k < 8 → br k = qb_I (bt b k ^^ decide (nI k = -1)) := by
  intro k hk
  rw [decide_eq_false (qb_ne1 (by omega)), Bool.xor_false]
  exact hb k hk
theorem qb_gv1 {br : Nat → Int32} {b : Int32} (hb : ∀ j, j < 8 → br j = qb_I (bt b j)) {j : Nat} (hj : j < 8) : ∀ i, i < 8 → upd br (nI j).toNatClampNeg (vp_nar .boolean 1) i = qb_I (bt (b ||| ((1 : Int32) <<< (nI j &&& 31))) i) := by
  intro i hi
  rw [nI_clamp (by omega), qb_n1, b_or, qb_b1s j (by omega) i (by omega)]
  by_cases h : i = j
  · subst h; rw [pk_us, decide_eq_true rfl, Bool.or_true]
  · rw [pk_un h, hb i hi, decide_eq_false h, Bool.or_false]
theorem qb_gv0 {br : Nat → Int32} {b : Int32} (hb : ∀ j, j < 8 → br j = qb_I (bt b j)) {j : Nat} (hj : j < 8) : ∀ i, i < 8 → upd br (nI j).toNatClampNeg (vp_nar .boolean 0) i = qb_I (bt (b &&& (((1 : Int32) <<< (nI j &&& 31)) ^^^ (-1))) i) := by
  intro i hi
  rw [nI_clamp (by omega), qb_n0, b_and, b_xor, b_m1 i (by omega), qb_b1s j (by omega) i (by omega)]
  by_cases h : i = j
  · subst h; rw [pk_us, decide_eq_true rfl]
    exact congrArg qb_I (by simp)
  · rw [pk_un h, hb i hi, decide_eq_false h]
    exact congrArg qb_I (by simp)
theorem qb_sw {br : Nat → Int32} {b : Int32} (hb : ∀ j, j < 8 → br j = qb_I (bt b j)) {s : Nat} (hs : s < 8) : ∀ k, k < 8 → br k = qb_I (bt (b ^^^ ((1 : Int32) <<< (nI s &&& 31))) k ^^ decide (nI k = nI s)) := by
  intro k hk
  rw [hb k hk, b_xor, qb_b1s s (by omega) k (by omega)]
  by_cases h : k = s
  · subst h; rw [decide_eq_true rfl, decide_eq_true rfl]
    exact congrArg qb_I (by simp)
  · rw [decide_eq_false h, decide_eq_false (fun e => h ((nI_eq (by omega) (by omega)).mp e))]
    exact congrArg qb_I (by simp)
theorem qb_dropL (M : Nat) (hM : M < 20) (b : Int32) (w br wn : Nat → Int32) : ∀ (d i : Nat) (c : Nat → Int32), i + d = M → ∃ c' : Nat → Int32, (∀ post : Int32 → SX → Prop, post (nI M) (nI M, b, c', w) → wX_drop_12 post (nI (M + 1)) b (d + 1) (nI i) c w) ∧ (∀ post : Int32 → SY → Prop, post (nI M) (nI M, br, c', wn) → wY_drop_26 post (nI M) (d + 1) (nI i) br c wn) := by
  intro d
  induction d with
  | zero =>
    intro i c hi
    have h : nI M ≤ nI i := nI_le (by omega) (by omega)
    have h' : nI (M + 1) - 1 ≤ nI i := by rw [nI_pred]; exact h
    exact ⟨c, fun post hp => br_t h' (nm_r (nI_pred M) hp), fun post hp => br_t h hp⟩
  | succ d ih =>
    intro i c hi
    have h : ¬ nI M ≤ nI i := nI_ge (by omega) (by omega)
    have h' : ¬ nI (M + 1) - 1 ≤ nI i := by rw [nI_pred]; exact h
    have i1 : vp_in (nI i + 1) 20 := pk_in (i + 1) 20 (by omega) (nI_1 i)
    have i0 : vp_in (nI i) 20 := vp_in_nI (by omega) (by decide)
    have e : upd c (nI i).toNatClampNeg (c (nI i + 1).toNatClampNeg) = upd c i (c (i + 1)) := by
      rw [nI_1, nI_clamp (by omega), nI_clamp (by omega)]
    obtain ⟨c', hX, hY⟩ := ih (i + 1) (upd c i (c (i + 1))) (by omega)
    exact ⟨c', fun post hp => br_f h' ⟨i1, i0, nm_r e (nm_r (nI_1 i) (hX post hp))⟩, fun post hp => br_f h ⟨i1, i0, nm_r e (nm_r (nI_1 i) (hY post hp))⟩⟩
theorem qb_isn {post : Int32 → Prop} {f b : Int32} {c w : Nat → Int32} {x : Int32} (h : x < 0) (hp : post 0) : wpX_isHeld post (f, b, c, w) x := br_t h hp
theorem qb_iso {post : Int32 → Prop} {b : Int32} {c w : Nat → Int32} {m p : Nat} (hp : p < 2 ^ 31) (h : m ≤ p) (h0 : post 0) : wpX_isHeld post (nI m, b, c, w) (nI p) := br_f (nI_pos hp) (br_t (nI_le h hp) h0)
theorem qb_isi {post : Int32 → Prop} {b : Int32} {c w : Nat → Int32} {m p : Nat} (hm : m < 2 ^ 31) (h : p < m) (h1 : post 1) : wpX_isHeld post (nI m, b, c, w) (nI p) := br_f (nI_pos (by omega)) (br_f (nI_ge h hm) h1)
def qb_ch (e x y : Bool) : Int32 := if x = e then (if y = e then 2 else 1) else 0
theorem qb_xch {post : Int32 → SX → Prop} (f b : Int32) (c w : Nat → Int32) (p : Nat) (hp : p < 256) (e x y : Bool) (hx : w (2 * p) = qb_I x) (hy : w (2 * p + 1) = qb_I y) (h : post (qb_ch e x y) (f, b, c, w)) : wX_choice_44 post (nI p) (qb_I (!e)) f b c w := by
  have i0 : vp_in (2 * nI p) 512 := pk_in (2 * p) 512 (by omega) (qb_mul2 p)
  have i1 : vp_in (2 * nI p + 1) 512 := pk_in (2 * p + 1) 512 (by omega) (qb_mul21 p)
  have e0 : w (2 * nI p).toNatClampNeg = qb_I x := by rw [pk_cl (2 * p) (qb_mul2 p) (by omega)]; exact hx
  have e1 : w (2 * nI p + 1).toNatClampNeg = qb_I y := by rw [pk_cl (2 * p + 1) (qb_mul21 p) (by omega)]; exact hy
  refine ⟨i0, ?_⟩
  rw [e0, e1]
  have n : ¬ (1 : Int32) = 0 := by decide
  have n' : ¬ (0 : Int32) = 1 := by decide
  cases e
  · cases x
    · cases y
      · exact br_f n' ⟨i1, br_f n' h⟩
      · exact br_f n' ⟨i1, br_t rfl h⟩
    · exact br_t rfl h
  · cases x
    · exact br_t rfl h
    · cases y
      · exact br_f n ⟨i1, br_t rfl h⟩
      · exact br_f n ⟨i1, br_f n h⟩
theorem qb_ych {post : Int32 → SY → Prop} (f : Int32) (br c w : Nat → Int32) (p : Nat) (hp : p < 256) (k : Nat) (hk : k < 8) (e x y : Bool) (hb : br k = qb_I e) (hx : w (2 * p) = qb_I x) (hy : w (2 * p + 1) = qb_I y) (h : post (qb_ch e x y) (f, br, c, w)) : wY_choice_27 post (nI p) (nI k) f br c w 3 0 := by
  have a0 : 2 * nI p + 0 = nI (2 * p) := by rw [qb_mul2, Int32.add_zero]
  have i0 : vp_in (2 * nI p + 0) 512 := pk_in (2 * p) 512 (by omega) a0
  have i1 : vp_in (2 * nI p + 1) 512 := pk_in (2 * p + 1) 512 (by omega) (qb_mul21 p)
  have ik : vp_in (nI k) 8 := vp_in_nI hk (by decide)
  have e0 : w (2 * nI p + 0).toNatClampNeg = qb_I x := by rw [pk_cl (2 * p) a0 (by omega)]; exact hx
  have e1 : w (2 * nI p + 1).toNatClampNeg = qb_I y := by rw [pk_cl (2 * p + 1) (qb_mul21 p) (by omega)]; exact hy
  have eb : br (nI k).toNatClampNeg = qb_I e := by rw [nI_clamp (by omega)]; exact hb
  by_cases q : x = e
  · have z0 : w (2 * nI p + 0).toNatClampNeg = br (nI k).toNatClampNeg := by rw [e0, eb, q]
    by_cases r : y = e
    · have z1 : w (2 * nI p + 1).toNatClampNeg = br (nI k).toNatClampNeg := by rw [e1, eb, r]
      rw [qb_ch, if_pos q, if_pos r] at h
      exact br_f (by decide) ⟨i0, ik, br_t z0 (nm_r (e' := 1) rfl (br_f (by decide) ⟨i1, ik, br_t z1 (nm_r (e' := 2) rfl (br_t (by decide) h))⟩))⟩
    · have z1 : ¬ w (2 * nI p + 1).toNatClampNeg = br (nI k).toNatClampNeg := by rw [e1, eb]; exact fun t => r (qb_I_inj t)
      rw [qb_ch, if_pos q, if_neg r] at h
      exact br_f (by decide) ⟨i0, ik, br_t z0 (nm_r (e' := 1) rfl (br_f (by decide) ⟨i1, ik, br_f z1 h⟩))⟩
  · have z0 : ¬ w (2 * nI p + 0).toNatClampNeg = br (nI k).toNatClampNeg := by rw [e0, eb]; exact fun t => q (qb_I_inj t)
    rw [qb_ch, if_neg q] at h
    exact br_f (by decide) ⟨i0, ik, br_f z0 h⟩
theorem qb_cnt (W : Nat → Bool) (k : Nat) (hk : k < 9) (f b f' : Int32) (c c' br : Nat → Int32) : ∀ (d p : Nat) (s : Int32), p + d = 2 * 2 ^ k → 2 ^ k ≤ p → ∃ r : Int32, (∀ w : Nat → Int32, (∀ q, 1 ≤ q → q < 512 → w q = qb_I (W q)) → ∀ post : Int32 → SX → Prop, post r (f, b, c, w) → wX_count_27 post (nI k) f b c w (d + 1) s (nI p)) ∧ (∀ w : Nat → Int32, (∀ q, 1 ≤ q → q < 512 → w q = qb_I (W q)) → ∀ post : Int32 → SY → Prop, post r (f', br, c', w) → wY_count_24 post (nI k) f' br c' w (d + 1) s (nI p)) := by
  have h2 := qb_pw k hk
  intro d
  induction d with
  | zero =>
    intro p s hd hp
    have h : (2 : Int32) <<< (nI k &&& 31) ≤ nI p := by rw [qb_2k k hk]; exact nI_le (by omega) (by omega)
    exact ⟨s, fun w hw post a => br_t h a, fun w hw post a => br_t h a⟩
  | succ d ih =>
    intro p s hd hp
    have h : ¬ (2 : Int32) <<< (nI k &&& 31) ≤ nI p := by rw [qb_2k k hk]; exact nI_ge (by omega) (by omega)
    have i0 : vp_in (nI p) 512 := vp_in_nI (by omega) (by decide)
    have ec : (nI p).toNatClampNeg = p := nI_clamp (by omega)
    cases e : W p
    · obtain ⟨r, hX, hY⟩ := ih (p + 1) s (by omega) (by omega)
      refine ⟨r, fun w hw post a => ?_, fun w hw post a => ?_⟩
      · have ew := hw p (by omega) (by omega)
        rw [e] at ew
        exact br_f h ⟨i0, nm_r (by rw [ec, ew, qb_I_f, Int32.add_zero]) (nm_r (nI_1 p) (hX w hw post a))⟩
      · have ew := hw p (by omega) (by omega)
        rw [e] at ew
        have z : w (nI p).toNatClampNeg = 0 := by rw [ec, ew]; rfl
        exact br_f h ⟨i0, br_t z (nm_r (nI_1 p) (hY w hw post a))⟩
    · obtain ⟨r, hX, hY⟩ := ih (p + 1) (s + 1) (by omega) (by omega)
      refine ⟨r, fun w hw post a => ?_, fun w hw post a => ?_⟩
      · have ew := hw p (by omega) (by omega)
        rw [e] at ew
        exact br_f h ⟨i0, nm_r (by rw [ec, ew, qb_I_t]) (nm_r (nI_1 p) (hX w hw post a))⟩
      · have ew := hw p (by omega) (by omega)
        rw [e] at ew
        have z : ¬ w (nI p).toNatClampNeg = 0 := by rw [ec, ew]; decide
        exact br_f h ⟨i0, br_f z (nm_e (nm_r (nI_1 p) (hY w hw post a)))⟩
end
section
/-- both sides hold the same clauses, as many of them, and give each variable to the same side; what either keeps of an earlier reckoning is free -/
def i_Rel (_ : Nat) (u : SX) (v : SY) : Prop := ∃ (m : Nat) (b : Int32) (c w br wn : Nat → Int32), m ≤ 20 ∧ u = (nI m, b, c, w) ∧ v = (nI m, br, c, wn) ∧ ∀ j, j < 8 → br j = qb_I (bt b j)
theorem qb_rel {k : Nat} {m : Nat} {b : Int32} {c w br wn : Nat → Int32} (hm : m ≤ 20) (hb : ∀ j, j < 8 → br j = qb_I (bt b j)) : i_Rel k (nI m, b, c, w) (nI m, br, c, wn) := ⟨m, b, c, w, br, wn, hm, rfl, rfl, hb⟩
theorem i_up {k : Nat} {u : SX} {v : SY} (h : i_Rel k u v) : i_Rel (k + 3) u v := h
theorem i_vc0 : wpX_init (fun u => wpY_init (fun v => i_Rel 0 u v)) := ⟨0, 0, fun _ => 0, fun _ => 0, fun _ => 0, fun _ => 0, by omega, rfl, rfl, fun j _ => by rw [b_0]; rfl⟩
theorem i_vc_give {k : Nat} {u : SX} {v : SY} (I : i_Rel k u v) (hk : k + 3 ≤ 1536) (v1 : Int32) (v2 : Int32) : wpX_give (fun u' => wpY_give (fun v' => i_Rel (k + 3) u' v') v v1 (lw_bz v2)) u v1 (lw_bz v2) := by
  obtain ⟨m, b, c, w, br, wn, hm, rfl, rfl, hb⟩ := I
  obtain ⟨j, hj, e⟩ := pk_andE v1 (m := 7) 3 (by decide)
  have hj : j < 8 := hj
  have i0 : vp_in (v1 &&& 7) 8 := by rw [e]; exact vp_in_nI hj (by decide)
  exact nm_e (br_c (fun h => nm_e (br_t h ⟨i0, nm_e (qb_rel hm (by rw [e]; exact qb_gv1 hb hj))⟩)) (fun h => nm_e (br_f h ⟨i0, nm_e (qb_rel hm (by rw [e]; exact qb_gv0 hb hj))⟩)))
theorem i_vc_add {k : Nat} {u : SX} {v : SY} (I : i_Rel k u v) (hk : k + 3 ≤ 1536) (v1 : Int32) : wpX_add (fun r u' => wpY_add (fun r' v' => r' = r ∧ i_Rel (k + 3) u' v') v v1) u v1 := by
  obtain ⟨m, b, c, w, br, wn, hm, rfl, rfl, hb⟩ := I
  refine pk_lt m 20 (fun h => ?_) (fun h => ?_)
  · have hn : ¬ nI m = 20 := fun z => absurd ((nI_eq (b := 20) (by omega) (by decide)).mp z) (by omega)
    have i0 : vp_in (nI m) 20 := vp_in_nI h (by decide)
    exact ⟨i0, nm_e (nm_r (nI_1 m) (br_f hn ⟨i0, nm_e (nm_r (nI_1 m) ⟨rfl, qb_rel (by omega) hb⟩)⟩))⟩
  · have e : m = 20 := by omega
    subst e
    exact br_t rfl ⟨rfl, qb_rel hm hb⟩
theorem i_vc_drop {k : Nat} {u : SX} {v : SY} (I : i_Rel k u v) (hk : k + 3 ≤ 1536) (v1 : Int32) : wpX_drop (fun r u' => wpY_drop (fun r' v' => r' = r ∧ i_Rel (k + 3) u' v') v v1) u v1 := by
  obtain ⟨m, b, c, w, br, wn, hm, rfl, rfl, hb⟩ := I
  unfold wpX_drop
  dsimp only
  rcases qb_ix v1 with h | ⟨p, hp, rfl⟩
  · exact qb_isn h (br_t rfl (br_t h ⟨rfl, qb_rel hm hb⟩))
  · by_cases h : m ≤ p
    · exact qb_iso hp h (br_t rfl (br_f (nI_pos hp) (br_f (nI_nlt h hp) ⟨rfl, qb_rel hm hb⟩)))
    · obtain ⟨M, rfl⟩ : ∃ M, m = M + 1 := ⟨m - 1, by omega⟩
      obtain ⟨c', hX, hY⟩ := qb_dropL M (by omega) b w br wn (M - p) p c (by omega)
      exact qb_isi (by omega) (by omega) (br_f (by decide) ⟨_, hX _ (br_f (nI_pos hp) (br_t (nI_lt (by omega) (by omega)) (nm_r (nI_pred M) ⟨_, hY _ ⟨rfl, qb_rel (by omega) hb⟩⟩)))⟩)
theorem i_vc_won {k : Nat} {u : SX} {v : SY} (I : i_Rel k u v) (hk : k + 3 ≤ 1536) (v1 : Int32) : wpX_won (fun r u' => wpY_won (fun r' v' => r' = r ∧ i_Rel (k + 3) u' v') v v1) u v1 := by
  obtain ⟨m, b, c, w, br, wn, hm, rfl, rfl, hb⟩ := I
  rcases qb_ix v1 with h | ⟨p, hp, rfl⟩
  · exact br_t (qb_lt1 h) (br_t (qb_lt1 h) ⟨rfl, qb_rel hm hb⟩)
  · refine pk_lt p 1 (fun z => ?_) (fun z => ?_)
    · exact br_t (nI_lt (b := 1) z (by decide)) ⟨rfl, qb_rel hm hb⟩
    · have h1 : ¬ nI p < 1 := nI_nlt (b := 1) z hp
      refine pk_lt p 512 (fun y => ?_) (fun y => ?_)
      · refine qb_solve m hm b (-1) b c w (fun w' hw => ?_)
        have i0 : vp_in (nI p) 512 := vp_in_nI y (by decide)
        refine ⟨i0, br_f h1 (br_t (nI_le (b := 511) (by omega) (by decide)) (qb_work m hm (-1) (-1) br c wn (bt b) (qb_hom hb) (fun w2 h2 => ?_)))⟩
        refine ⟨i0, ?_⟩
        rw [nI_clamp hp, hw p z y, h2 p z y]
        cases qb_W (bt b) (qb_F c m (-1)) p
        · exact br_t rfl ⟨rfl, qb_rel hm hb⟩
        · exact br_f (by decide) ⟨rfl, qb_rel hm hb⟩
      · exact br_f h1 (br_f (nI_ge (a := 511) (by omega) hp) ⟨rfl, qb_rel hm hb⟩)
theorem i_vc_choice {k : Nat} {u : SX} {v : SY} (I : i_Rel k u v) (hk : k + 3 ≤ 1536) (v1 : Int32) : wpX_choice (fun r u' => wpY_choice (fun r' v' => r' = r ∧ i_Rel (k + 3) u' v') v v1) u v1 := by
  obtain ⟨m, b, c, w, br, wn, hm, rfl, rfl, hb⟩ := I
  rcases qb_ix v1 with h | ⟨p, hp, rfl⟩
  · exact br_t (qb_lt1 h) (br_t (qb_lt1 h) ⟨rfl, qb_rel hm hb⟩)
  · refine pk_lt p 1 (fun z => ?_) (fun z => ?_)
    · exact br_t (nI_lt (b := 1) z (by decide)) ⟨rfl, qb_rel hm hb⟩
    · have h1 : ¬ nI p < 1 := nI_nlt (b := 1) z hp
      refine pk_lt p 256 (fun y => ?_) (fun y => ?_)
      · have hl : qb_lg p < 8 := by have := qb_lg_8 p; have := not_congr (qb_lg_full (p := p)); omega
        refine qb_solve m hm b (-1) b c w (fun w' hw => ?_)
        have Y : wpY_choice (fun r' v' => r' = qb_ch (bt b (qb_lg p)) (qb_W (bt b) (qb_F c m (-1)) (2 * p)) (qb_W (bt b) (qb_F c m (-1)) (2 * p + 1)) ∧ i_Rel (k + 3) (nI m, b, c, w') v') (nI m, br, c, wn) (nI p) := by
          refine br_f h1 (br_t (nI_le (b := 255) (by omega) (by decide)) (qb_work m hm (-1) (-1) br c wn (bt b) (qb_hom hb) (fun w2 h2 => ?_)))
          refine qb_ylen p hp ⟨3, ?_⟩
          exact qb_ych (nI m) br c w2 p y (qb_lg p) hl (bt b (qb_lg p)) _ _ (hb _ hl) (h2 (2 * p) (by omega) (by omega)) (h2 (2 * p + 1) (by omega) (by omega)) ⟨rfl, qb_rel hm hb⟩
        refine qb_xval p hp (qb_xisb b (qb_lg p) (by omega) ?_)
        have X := qb_xch (post := fun r u' => wpY_choice (fun r' v' => r' = r ∧ i_Rel (k + 3) u' v') (nI m, br, c, wn) (nI p)) (nI m) b c w' p y (bt b (qb_lg p)) _ _ (hw (2 * p) (by omega) (by omega)) (hw (2 * p + 1) (by omega) (by omega)) Y
        cases eb : bt b (qb_lg p)
        · rw [eb] at X
          exact br_t rfl X
        · rw [eb] at X
          exact br_f (by decide) X
      · exact br_f h1 (br_f (nI_ge (a := 255) (by omega) hp) ⟨rfl, qb_rel hm hb⟩)
theorem i_vc_count {k : Nat} {u : SX} {v : SY} (I : i_Rel k u v) (hk : k + 3 ≤ 1536) (v1 : Int32) : wpX_count (fun r u' => wpY_count (fun r' v' => r' = r ∧ i_Rel (k + 3) u' v') v v1) u v1 := by
  obtain ⟨m, b, c, w, br, wn, hm, rfl, rfl, hb⟩ := I
  rcases qb_ix v1 with h | ⟨p, hp, rfl⟩
  · exact br_t h (br_t h ⟨rfl, qb_rel hm hb⟩)
  · have h0 : ¬ nI p < 0 := nI_pos hp
    refine br_f h0 (pk_le p 8 (fun y => ?_) (fun y => ?_))
    · have hk9 : p < 9 := by omega
      obtain ⟨r, hX, hY⟩ := qb_cnt (qb_W (bt b) (qb_F c m (-1))) p hk9 (nI m) b (nI m) c c br (2 ^ p) (2 ^ p) 0 (by omega) (Nat.le_refl _)
      refine qb_solve m hm b (-1) b c w (fun w' hw => nm_r (qb_1k p hk9) ⟨2 ^ p + 1, hX w' hw _ ?_⟩)
      exact br_f h0 (br_t (nI_le (b := 8) (by omega) (by decide)) (qb_work m hm (-1) (-1) br c wn (bt b) (qb_hom hb) (fun w2 h2 => nm_r (qb_1k p hk9) ⟨2 ^ p + 1, hY w2 h2 _ ⟨rfl, qb_rel hm hb⟩⟩)))
    · exact br_f h0 (br_f (nI_ge (a := 8) (by omega) hp) ⟨rfl, qb_rel hm hb⟩)
theorem i_vc_spare {k : Nat} {u : SX} {v : SY} (I : i_Rel k u v) (hk : k + 3 ≤ 1536) (v1 : Int32) : wpX_spare (fun r u' => wpY_spare (fun r' v' => r' = r ∧ i_Rel (k + 3) u' v') v v1) u v1 := by
  obtain ⟨m, b, c, w, br, wn, hm, rfl, rfl, hb⟩ := I
  unfold wpX_spare
  dsimp only
  rcases qb_ix v1 with h | ⟨p, hp, rfl⟩
  · exact qb_isn h (br_t rfl (br_t h ⟨rfl, qb_rel hm hb⟩))
  · by_cases h : m ≤ p
    · exact qb_iso hp h (br_t rfl (br_f (nI_pos hp) (br_f (nI_nlt h hp) ⟨rfl, qb_rel hm hb⟩)))
    · refine qb_isi (by omega) (by omega) (br_f (by decide) (qb_solve m hm b (nI p) b c w (fun w' hw => ?_)))
      have e1 := hw 1 (by omega) (by omega)
      have mono := qb_W_mono (bt b) c m hm (nI p) 1
      dsimp only
      rw [e1]
      refine br_f (nI_pos hp) (br_t (nI_lt (by omega) (by omega)) (qb_work m hm (-1) (-1) br c wn (bt b) (qb_hom hb) (fun w2 h2 => ?_)))
      refine nm_r (h2 1 (by omega) (by omega)) (qb_work m hm (nI p) (-1) br c w2 (bt b) (qb_hom hb) (fun w3 h3 => ?_))
      have e3 := h3 1 (by omega) (by omega)
      dsimp only
      rw [e3]
      cases eA : qb_W (bt b) (qb_F c m (-1)) 1
      · cases eB : qb_W (bt b) (qb_F c m (nI p)) 1
        · exact br_t rfl (br_t rfl ⟨rfl, qb_rel hm hb⟩)
        · exact br_t rfl (br_f (by decide) ⟨rfl, qb_rel hm hb⟩)
      · rw [mono eA]
        exact br_f (by decide) ⟨rfl, qb_rel hm hb⟩
theorem i_vc_swapped {k : Nat} {u : SX} {v : SY} (I : i_Rel k u v) (hk : k + 3 ≤ 1536) (v1 : Int32) : wpX_swapped (fun r u' => wpY_swapped (fun r' v' => r' = r ∧ i_Rel (k + 3) u' v') v v1) u v1 := by
  obtain ⟨m, b, c, w, br, wn, hm, rfl, rfl, hb⟩ := I
  obtain ⟨j, hj, e⟩ := pk_andE v1 (m := 7) 3 (by decide)
  have hj : j < 8 := hj
  unfold wpX_swapped wpY_swapped
  dsimp only
  rw [e]
  refine qb_solve m hm _ (-1) b c w (fun w' hw => ?_)
  have e1 := hw 1 (by omega) (by omega)
  dsimp only
  rw [e1]
  refine qb_work m hm (-1) (nI j) br c wn (bt (b ^^^ ((1 : Int32) <<< (nI j &&& 31)))) (qb_sw hb hj) (fun w2 h2 => ?_)
  have e2 := h2 1 (by omega) (by omega)
  dsimp only
  rw [e2]
  cases qb_W (bt (b ^^^ ((1 : Int32) <<< (nI j &&& 31)))) (qb_F c m (-1)) 1
  · exact br_t rfl ⟨rfl, qb_rel hm hb⟩
  · exact br_f (by decide) ⟨rfl, qb_rel hm hb⟩
end
