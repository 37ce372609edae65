/-- both sides hold the same clauses, as many of them, and give each variable to the same side; what either keeps of an earlier reckoning is free -/
def i_Rel (_ : Nat) (u : SX) (v : SY) : Prop := ∃ (m : Nat) (b : Int32) (c w br wn : Nat → Int32), m ≤ 20 ∧ u = (nI m, b, c, w) ∧ v = (nI m, br, c, wn) ∧ ∀ j, j < 8 → br j = qb_I (bt b j)
theorem qb_rel {k : Nat} {m : Nat} {b : Int32} {c w br wn : Nat → Int32} (hm : m ≤ 20) (hb : ∀ j, j < 8 → br j = qb_I (bt b j)) : i_Rel k (nI m, b, c, w) (nI m, br, c, wn) := ⟨m, b, c, w, br, wn, hm, rfl, rfl, hb⟩
theorem i_up {k : Nat} {u : SX} {v : SY} (h : i_Rel k u v) : i_Rel (k + 3) u v := h
theorem i_vc0 : wpX_init (fun u => wpY_init (fun v => i_Rel 0 u v)) := ⟨0, 0, fun _ => 0, fun _ => 0, fun _ => 0, fun _ => 0, by omega, rfl, rfl, fun j _ => by rw [b_0]; rfl⟩
theorem i_vc_give {k : Nat} {u : SX} {v : SY} (I : i_Rel k u v) (hk : k + 3 ≤ 1536) (v1 : Int32) (v2 : Int32) : wpX_give (fun u' => wpY_give (fun v' => i_Rel (k + 3) u' v') v v1 (lw_bz v2)) u v1 (lw_bz v2) := by
  obtain ⟨m, b, c, w, br, wn, hm, rfl, rfl, hb⟩ := I
  obtain ⟨j, hj, e⟩ := pk_andE v1 (m := 7) 3 (by decide)
  have hj : j < 8 := hj
  have i0 : vp_in (v1 &&& 7) 8 := by rw [e]; exact vp_in_nI hj (by decide)
  exact nm_e (br_c (fun h => nm_e (br_t h ⟨i0, nm_e (qb_rel hm (by rw [e]; exact qb_gv1 hb hj))⟩)) (fun h => nm_e (br_f h ⟨i0, nm_e (qb_rel hm (by rw [e]; exact qb_gv0 hb hj))⟩)))
theorem i_vc_add {k : Nat} {u : SX} {v : SY} (I : i_Rel k u v) (hk : k + 3 ≤ 1536) (v1 : Int32) : wpX_add (fun r u' => wpY_add (fun r' v' => r' = r ∧ i_Rel (k + 3) u' v') v v1) u v1 := by
  obtain ⟨m, b, c, w, br, wn, hm, rfl, rfl, hb⟩ := I
  refine pk_lt m 20 (fun h => ?_) (fun h => ?_)
  · have hn : ¬ nI m = 20 := fun z => absurd ((nI_eq (b := 20) (by omega) (by decide)).mp z) (by omega)
    have i0 : vp_in (nI m) 20 := vp_in_nI h (by decide)
    exact ⟨i0, nm_e (nm_r (nI_1 m) (br_f hn ⟨i0, nm_e (nm_r (nI_1 m) ⟨rfl, qb_rel (by omega) hb⟩)⟩))⟩
  · have e : m = 20 := by omega
    subst e
    exact br_t rfl ⟨rfl, qb_rel hm hb⟩
theorem i_vc_drop {k : Nat} {u : SX} {v : SY} (I : i_Rel k u v) (hk : k + 3 ≤ 1536) (v1 : Int32) : wpX_drop (fun r u' => wpY_drop (fun r' v' => r' = r ∧ i_Rel (k + 3) u' v') v v1) u v1 := by
  obtain ⟨m, b, c, w, br, wn, hm, rfl, rfl, hb⟩ := I
  unfold wpX_drop
  dsimp only
  rcases qb_ix v1 with h | ⟨p, hp, rfl⟩
  · exact qb_isn h (br_t rfl (br_t h ⟨rfl, qb_rel hm hb⟩))
  · by_cases h : m ≤ p
    · exact qb_iso hp h (br_t rfl (br_f (nI_pos hp) (br_f (nI_nlt h hp) ⟨rfl, qb_rel hm hb⟩)))
    · obtain ⟨M, rfl⟩ : ∃ M, m = M + 1 := ⟨m - 1, by omega⟩
      obtain ⟨c', hX, hY⟩ := qb_dropL M (by omega) b w br wn (M - p) p c (by omega)
      exact qb_isi (by omega) (by omega) (br_f (by decide) ⟨_, hX _ (br_f (nI_pos hp) (br_t (nI_lt (by omega) (by omega)) (nm_r (nI_pred M) ⟨_, hY _ ⟨rfl, qb_rel (by omega) hb⟩⟩)))⟩)
theorem i_vc_won {k : Nat} {u : SX} {v : SY} (I : i_Rel k u v) (hk : k + 3 ≤ 1536) (v1 : Int32) : wpX_won (fun r u' => wpY_won (fun r' v' => r' = r ∧ i_Rel (k + 3) u' v') v v1) u v1 := by
  obtain ⟨m, b, c, w, br, wn, hm, rfl, rfl, hb⟩ := I
  rcases qb_ix v1 with h | ⟨p, hp, rfl⟩
  · exact br_t (qb_lt1 h) (br_t (qb_lt1 h) ⟨rfl, qb_rel hm hb⟩)
  · refine pk_lt p 1 (fun z => ?_) (fun z => ?_)
    · exact br_t (nI_lt (b := 1) z (by decide)) ⟨rfl, qb_rel hm hb⟩
    · have h1 : ¬ nI p < 1 := nI_nlt (b := 1) z hp
      refine pk_lt p 512 (fun y => ?_) (fun y => ?_)
      · refine qb_solve m hm b (-1) b c w (fun w' hw => ?_)
        have i0 : vp_in (nI p) 512 := vp_in_nI y (by decide)
        refine ⟨i0, br_f h1 (br_t (nI_le (b := 511) (by omega) (by decide)) (qb_work m hm (-1) (-1) br c wn (bt b) (qb_hom hb) (fun w2 h2 => ?_)))⟩
        refine ⟨i0, ?_⟩
        rw [nI_clamp hp, hw p z y, h2 p z y]
        cases qb_W (bt b) (qb_F c m (-1)) p
        · exact br_t rfl ⟨rfl, qb_rel hm hb⟩
        · exact br_f (by decide) ⟨rfl, qb_rel hm hb⟩
      · exact br_f h1 (br_f (nI_ge (a := 511) (by omega) hp) ⟨rfl, qb_rel hm hb⟩)
theorem i_vc_choice {k : Nat} {u : SX} {v : SY} (I : i_Rel k u v) (hk : k + 3 ≤ 1536) (v1 : Int32) : wpX_choice (fun r u' => wpY_choice (fun r' v' => r' = r ∧ i_Rel (k + 3) u' v') v v1) u v1 := by
  obtain ⟨m, b, c, w, br, wn, hm, rfl, rfl, hb⟩ := I
  rcases qb_ix v1 with h | ⟨p, hp, rfl⟩
  · exact br_t (qb_lt1 h) (br_t (qb_lt1 h) ⟨rfl, qb_rel hm hb⟩)
  · refine pk_lt p 1 (fun z => ?_) (fun z => ?_)
    · exact br_t (nI_lt (b := 1) z (by decide)) ⟨rfl, qb_rel hm hb⟩
    · have h1 : ¬ nI p < 1 := nI_nlt (b := 1) z hp
      refine pk_lt p 256 (fun y => ?_) (fun y => ?_)
      · have hl : qb_lg p < 8 := by have := qb_lg_8 p; have := not_congr (qb_lg_full (p := p)); omega
        refine qb_solve m hm b (-1) b c w (fun w' hw => ?_)
        have Y : wpY_choice (fun r' v' => r' = qb_ch (bt b (qb_lg p)) (qb_W (bt b) (qb_F c m (-1)) (2 * p)) (qb_W (bt b) (qb_F c m (-1)) (2 * p + 1)) ∧ i_Rel (k + 3) (nI m, b, c, w') v') (nI m, br, c, wn) (nI p) := by
          refine br_f h1 (br_t (nI_le (b := 255) (by omega) (by decide)) (qb_work m hm (-1) (-1) br c wn (bt b) (qb_hom hb) (fun w2 h2 => ?_)))
          refine qb_ylen p hp ⟨3, ?_⟩
          exact qb_ych (nI m) br c w2 p y (qb_lg p) hl (bt b (qb_lg p)) _ _ (hb _ hl) (h2 (2 * p) (by omega) (by omega)) (h2 (2 * p + 1) (by omega) (by omega)) ⟨rfl, qb_rel hm hb⟩
        refine qb_xval p hp (qb_xisb b (qb_lg p) (by omega) ?_)
        have X := qb_xch (post := fun r u' => wpY_choice (fun r' v' => r' = r ∧ i_Rel (k + 3) u' v') (nI m, br, c, wn) (nI p)) (nI m) b c w' p y (bt b (qb_lg p)) _ _ (hw (2 * p) (by omega) (by omega)) (hw (2 * p + 1) (by omega) (by omega)) Y
        cases eb : bt b (qb_lg p)
        · rw [eb] at X
          exact br_t rfl X
        · rw [eb] at X
          exact br_f (by decide) X
      · exact br_f h1 (br_f (nI_ge (a := 255) (by omega) hp) ⟨rfl, qb_rel hm hb⟩)
theorem i_vc_count {k : Nat} {u : SX} {v : SY} (I : i_Rel k u v) (hk : k + 3 ≤ 1536) (v1 : Int32) : wpX_count (fun r u' => wpY_count (fun r' v' => r' = r ∧ i_Rel (k + 3) u' v') v v1) u v1 := by
  obtain ⟨m, b, c, w, br, wn, hm, rfl, rfl, hb⟩ := I
  rcases qb_ix v1 with h | ⟨p, hp, rfl⟩
  · exact br_t h (br_t h ⟨rfl, qb_rel hm hb⟩)
  · have h0 : ¬ nI p < 0 := nI_pos hp
    refine br_f h0 (pk_le p 8 (fun y => ?_) (fun y => ?_))
    · have hk9 : p < 9 := by omega
      obtain ⟨r, hX, hY⟩ := qb_cnt (qb_W (bt b) (qb_F c m (-1))) p hk9 (nI m) b (nI m) c c br (2 ^ p) (2 ^ p) 0 (by omega) (Nat.le_refl _)
      refine qb_solve m hm b (-1) b c w (fun w' hw => nm_r (qb_1k p hk9) ⟨2 ^ p + 1, hX w' hw _ ?_⟩)
      exact br_f h0 (br_t (nI_le (b := 8) (by omega) (by decide)) (qb_work m hm (-1) (-1) br c wn (bt b) (qb_hom hb) (fun w2 h2 => nm_r (qb_1k p hk9) ⟨2 ^ p + 1, hY w2 h2 _ ⟨rfl, qb_rel hm hb⟩⟩)))
    · exact br_f h0 (br_f (nI_ge (a := 8) (by omega) hp) ⟨rfl, qb_rel hm hb⟩)
theorem i_vc_spare {k : Nat} {u : SX} {v : SY} (I : i_Rel k u v) (hk : k + 3 ≤ 1536) (v1 : Int32) : wpX_spare (fun r u' => wpY_spare (fun r' v' => r' = r ∧ i_Rel (k + 3) u' v') v v1) u v1 := by
  obtain ⟨m, b, c, w, br, wn, hm, rfl, rfl, hb⟩ := I
  unfold wpX_spare
  dsimp only
  rcases qb_ix v1 with h | ⟨p, hp, rfl⟩
  · exact qb_isn h (br_t rfl (br_t h ⟨rfl, qb_rel hm hb⟩))
  · by_cases h : m ≤ p
    · exact qb_iso hp h (br_t rfl (br_f (nI_pos hp) (br_f (nI_nlt h hp) ⟨rfl, qb_rel hm hb⟩)))
    · refine qb_isi (by omega) (by omega) (br_f (by decide) (qb_solve m hm b (nI p) b c w (fun w' hw => ?_)))
      have e1 := hw 1 (by omega) (by omega)
      have mono := qb_W_mono (bt b) c m hm (nI p) 1
      dsimp only
      rw [e1]
      refine br_f (nI_pos hp) (br_t (nI_lt (by omega) (by omega)) (qb_work m hm (-1) (-1) br c wn (bt b) (qb_hom hb) (fun w2 h2 => ?_)))
      refine nm_r (h2 1 (by omega) (by omega)) (qb_work m hm (nI p) (-1) br c w2 (bt b) (qb_hom hb) (fun w3 h3 => ?_))
      have e3 := h3 1 (by omega) (by omega)
      dsimp only
      rw [e3]
      cases eA : qb_W (bt b) (qb_F c m (-1)) 1
      · cases eB : qb_W (bt b) (qb_F c m (nI p)) 1
        · exact br_t rfl (br_t rfl ⟨rfl, qb_rel hm hb⟩)
        · exact br_t rfl (br_f (by decide) ⟨rfl, qb_rel hm hb⟩)
      · rw [mono eA]
        exact br_f (by decide) ⟨rfl, qb_rel hm hb⟩
theorem i_vc_swapped {k : Nat} {u : SX} {v : SY} (I : i_Rel k u v) (hk : k + 3 ≤ 1536) (v1 : Int32) : wpX_swapped (fun r u' => wpY_swapped (fun r' v' => r' = r ∧ i_Rel (k + 3) u' v') v v1) u v1 := by
  obtain ⟨m, b, c, w, br, wn, hm, rfl, rfl, hb⟩ := I
  obtain ⟨j, hj, e⟩ := pk_andE v1 (m := 7) 3 (by decide)
  have hj : j < 8 := hj
  unfold wpX_swapped wpY_swapped
  dsimp only
  rw [e]
  refine qb_solve m hm _ (-1) b c w (fun w' hw => ?_)
  have e1 := hw 1 (by omega) (by omega)
  dsimp only
  rw [e1]
  refine qb_work m hm (-1) (nI j) br c wn (bt (b ^^^ ((1 : Int32) <<< (nI j &&& 31)))) (qb_sw hb hj) (fun w2 h2 => ?_)
  have e2 := h2 1 (by omega) (by omega)
  dsimp only
  rw [e2]
  cases qb_W (bt (b ^^^ ((1 : Int32) <<< (nI j &&& 31)))) (qb_F c m (-1)) 1
  · exact br_t rfl ⟨rfl, qb_rel hm hb⟩
  · exact br_f (by decide) ⟨rfl, qb_rel hm hb⟩
