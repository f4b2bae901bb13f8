/-! the owed rows -/
def i_Rel (k : Nat) (u : SX) (v : SY) : Prop :=
  ∃ (n : Nat) (fo : Int32) (a b pl sk nu : Nat → Int32), 2 ≤ n ∧ n ≤ 5 ∧ u = sx_u n a b ∧ v = sy_v n fo a b pl sk nu
theorem iw_R {k n : Nat} {fo : Int32} {a b pl sk nu : Nat → Int32} (h2 : 2 ≤ n) (h5 : n ≤ 5) : i_Rel k (sx_u n a b) (sy_v n fo a b pl sk nu) := ⟨n, fo, a, b, pl, sk, nu, h2, h5, rfl, rfl⟩
theorem iw_ix {n : Nat} (h5 : n ≤ 5) (x : Int32) : (x < 0 ∨ nI n ≤ x) ∨ ∃ j, j < n ∧ x = nI j := by
  rcases pk_ix x (n := n) (by omega) with h | h | h
  · exact Or.inl (Or.inl h)
  · exact Or.inl (Or.inr h)
  · exact Or.inr h
theorem iw_fair {n : Nat} (h5 : n ≤ 5) (a b : Nat → Int32) : ∃ q, q < 6 ^ n ∧ sp_P n a b q = true ∧ sp_fx n a b (6 ^ n) = (q, sp_co n a b q n) ∧ sp_fy n a b (6 ^ n) = sp_co n a b q n ∧ ∀ x, x < q → sp_P n a b x = true → sp_co n a b x n ≠ sp_co n a b q n := by
  obtain ⟨x, hx, hS⟩ := sp_ex h5 a b
  exact sp_fair (C := fun x => sp_co n a b x n) (fun x _ hP => sp_cost_lt h5 hP) ⟨x, hx, sp_bt.mpr hS⟩
theorem iw_la {k n : Nat} {fo : Int32} {a b pl sk nu : Nat → Int32} (h2 : 2 ≤ n) (h5 : n ≤ 5) {p0 v2 v3 v4 : Int32} (c0 : ¬ p0 < 0) (c1 : p0 ≤ 1)
    (L : ∀ s, s < n → ∃ a' b', (∀ post : Int32 → SX → Prop, post 0 (sx_u n a' b') → ∃ m, wX_likeAll_50 post p0 (nI s) v3 v4 (nI n) (nI (6 ^ n)) m 0 (sp_jo a b)) ∧ (∀ post : Int32 → SY → Prop, post 0 (sy_v n fo a' b' pl sk nu) → ∃ m, wY_likeAll_50 post p0 (nI s) v3 v4 (nI n) fo m 0 a b pl sk nu)) :
    wX_likeAll_11 (fun r u' => wpY_likeAll (fun r' v' => r' = r ∧ i_Rel (k + 5) u' v') (sy_v n fo a b pl sk nu) p0 v2 v3 v4) p0 v2 v3 v4 (nI n) (nI (6 ^ n)) (sp_jo a b) := by
  unfold wX_likeAll_11 wpY_likeAll
  dsimp only
  rcases iw_ix h5 v2 with hs | ⟨s, hs, rfl⟩
  · exact sx_goodF hs (br_t rfl (br_f c0 (br_t c1 (sy_badF hs (br_f (by decide) ⟨rfl, iw_R h2 h5⟩)))))
  · refine sx_goodT h5 hs (br_f (by decide) ?_)
    by_cases d0 : v3 < 0
    · exact br_t d0 (br_f c0 (br_t c1 (sy_badT h5 hs (br_t rfl (br_t d0 ⟨rfl, iw_R h2 h5⟩)))))
    · refine br_f d0 ?_
      by_cases d9 : 9 ≤ v3
      · exact br_t d9 (br_f c0 (br_t c1 (sy_badT h5 hs (br_t rfl (br_f d0 (br_t (iw_89.mp d9) ⟨rfl, iw_R h2 h5⟩))))))
      · refine br_f d9 ?_
        have d8 : ¬ 8 < v3 := fun w => d9 (iw_89.mpr w)
        by_cases e0 : v4 < 0
        · exact br_t e0 (br_f c0 (br_t c1 (sy_badT h5 hs (br_t rfl (br_f d0 (br_f d8 (br_t e0 ⟨rfl, iw_R h2 h5⟩)))))))
        · refine br_f e0 ?_
          by_cases e9 : v4 < 9
          · obtain ⟨a', b', LX, LY⟩ := L s hs
            refine br_t e9 (LX _ ?_)
            exact br_f c0 (br_t c1 (sy_badT h5 hs (br_t rfl (br_f d0 (br_f d8 (br_f e0 (br_t (iw_98.mp e9) (LY _ ⟨rfl, iw_R h2 h5⟩))))))))
          · exact br_f e9 (br_f c0 (br_t c1 (sy_badT h5 hs (br_t rfl (br_f d0 (br_f d8 (br_f e0 (br_f (fun w => e9 (iw_98.mpr w)) ⟨rfl, iw_R h2 h5⟩))))))))
theorem i_up {k : Nat} {u : SX} {v : SY} (h : i_Rel k u v) : i_Rel (k + 5) u v := h
theorem i_vc0 (k0 : Int32) : wpX_init (fun u => wpY_init (fun v => i_Rel 1 u v) k0) k0 := by
  unfold wpX_init wpY_init
  by_cases c2 : 2 ≤ k0
  · by_cases c5 : k0 ≤ 5
    · obtain ⟨j, j2, j5, rfl⟩ := iw_25 c2 c5
      exact br_t c2 (br_t c5 (sx_initL j5 (br_t c2 (br_t c5 (iw_R j2 j5)))))
    · exact br_t c2 (br_f c5 (sx_initL (n := 5) (by decide) (br_t c2 (br_f c5 (iw_R (n := 5) (by decide) (by decide))))))
  · exact br_f c2 (sx_initL (n := 2) (by decide) (br_f c2 (iw_R (n := 2) (by decide) (by decide))))
theorem i_vc_size {k : Nat} {u : SX} {v : SY} (I : i_Rel k u v) (hk : k + 5 ≤ 2561) : wpX_size (fun r => wpY_size (fun r' => r' = r ∧ i_Rel (k + 5) u v) v) u := by
  obtain ⟨n, fo, a, b, pl, sk, nu, h2, h5, rfl, rfl⟩ := I
  exact ⟨rfl, iw_R h2 h5⟩
theorem i_vc_seekerLikes {k : Nat} {u : SX} {v : SY} (I : i_Rel k u v) (hk : k + 5 ≤ 2561) (v1 : Int32) (v2 : Int32) (v3 : Int32) : wpX_seekerLikes (fun r u' => wpY_seekerLikes (fun r' v' => r' = r ∧ i_Rel (k + 5) u' v') v v1 v2 v3) u v1 v2 v3 := by
  obtain ⟨n, fo, a, b, pl, sk, nu, h2, h5, rfl, rfl⟩ := I
  unfold wpX_seekerLikes wpY_seekerLikes
  dsimp only
  unfold wpX_changeLiking
  dsimp only
  rcases iw_ix h5 v1 with hs | ⟨s, hs, rfl⟩
  · exact sx_goodF hs (br_t rfl (sy_badF hs (br_f (by decide) ⟨rfl, iw_R h2 h5⟩)))
  · refine sx_goodT h5 hs (br_f (by decide) ?_)
    rcases iw_ix h5 v2 with hp | ⟨p, hp, rfl⟩
    · exact sx_goodF hp (br_t rfl (sy_badT h5 hs (br_t rfl (sy_badF hp (br_f (by decide) ⟨rfl, iw_R h2 h5⟩)))))
    · refine sx_goodT h5 hp (br_f (by decide) ?_)
      by_cases c0 : v3 < 0
      · exact br_t c0 (sy_badT h5 hs (br_t rfl (sy_badT h5 hp (br_t rfl (br_t c0 ⟨rfl, iw_R h2 h5⟩)))))
      · refine br_f c0 ?_
        by_cases c9 : v3 ≤ 9
        · refine br_t c9 (sx_slot0 ⟨sx_v0 (by omega) (by omega), nm_r (sx_e0 (by omega) (by omega)) ⟨sx_v0 (by omega) (by omega), nm_r (e' := sp_jo (upd a (5 * s + p) v3) b) (by rw [nI_clamp (by omega)]; exact sp_jo_ul v3 (by omega)) ?_⟩⟩)
          refine sy_badT h5 hs (br_t rfl (sy_badT h5 hp (br_t rfl (br_f c0 (br_t c9 ?_)))))
          rw [sy_ix s p, nI_clamp (show 5 * s + p < 2 ^ 31 by omega)]
          exact ⟨vp_in_nI (by omega) (by decide), nm_e ⟨vp_in_nI (by omega) (by decide), nm_e ⟨rfl, iw_R h2 h5⟩⟩⟩
        · exact br_f c9 (sy_badT h5 hs (br_t rfl (sy_badT h5 hp (br_t rfl (br_f c0 (br_f c9 ⟨rfl, iw_R h2 h5⟩))))))
theorem i_vc_placeLikes {k : Nat} {u : SX} {v : SY} (I : i_Rel k u v) (hk : k + 5 ≤ 2561) (v1 : Int32) (v2 : Int32) (v3 : Int32) : wpX_placeLikes (fun r u' => wpY_placeLikes (fun r' v' => r' = r ∧ i_Rel (k + 5) u' v') v v1 v2 v3) u v1 v2 v3 := by
  obtain ⟨n, fo, a, b, pl, sk, nu, h2, h5, rfl, rfl⟩ := I
  unfold wpX_placeLikes wpY_placeLikes
  dsimp only
  unfold wpX_changeLiking
  dsimp only
  rcases iw_ix h5 v1 with hs | ⟨s, hs, rfl⟩
  · exact sx_goodF hs (br_t rfl (sy_badF hs (br_f (by decide) ⟨rfl, iw_R h2 h5⟩)))
  · refine sx_goodT h5 hs (br_f (by decide) ?_)
    rcases iw_ix h5 v2 with hp | ⟨p, hp, rfl⟩
    · exact sx_goodF hp (br_t rfl (sy_badT h5 hs (br_t rfl (sy_badF hp (br_f (by decide) ⟨rfl, iw_R h2 h5⟩)))))
    · refine sx_goodT h5 hp (br_f (by decide) ?_)
      by_cases c0 : v3 < 0
      · exact br_t c0 (sy_badT h5 hs (br_t rfl (sy_badT h5 hp (br_t rfl (br_t c0 ⟨rfl, iw_R h2 h5⟩)))))
      · refine br_f c0 ?_
        by_cases c9 : v3 ≤ 9
        · refine br_t c9 (sx_slot1 ⟨sx_v1 (by omega) (by omega), nm_r (sx_e1 (by omega) (by omega)) ⟨sx_v1 (by omega) (by omega), nm_r (e' := sp_jo a (upd b (5 * s + p) v3)) (by rw [nI_clamp (by omega)]; exact sp_jo_uh v3) ?_⟩⟩)
          refine sy_badT h5 hs (br_t rfl (sy_badT h5 hp (br_t rfl (br_f c0 (br_t c9 ?_)))))
          rw [sy_ix s p, nI_clamp (show 5 * s + p < 2 ^ 31 by omega)]
          exact ⟨vp_in_nI (by omega) (by decide), nm_e ⟨vp_in_nI (by omega) (by decide), nm_e ⟨rfl, iw_R h2 h5⟩⟩⟩
        · exact br_f c9 (sy_badT h5 hs (br_t rfl (sy_badT h5 hp (br_t rfl (br_f c0 (br_f c9 ⟨rfl, iw_R h2 h5⟩))))))
theorem i_vc_likeAll {k : Nat} {u : SX} {v : SY} (I : i_Rel k u v) (hk : k + 5 ≤ 2561) (v1 : Int32) (v2 : Int32) (v3 : Int32) (v4 : Int32) : wpX_likeAll (fun r u' => wpY_likeAll (fun r' v' => r' = r ∧ i_Rel (k + 5) u' v') v v1 v2 v3 v4) u v1 v2 v3 v4 := by
  obtain ⟨n, fo, a, b, pl, sk, nu, h2, h5, rfl, rfl⟩ := I
  by_cases p0 : v1 = 0
  · subst p0
    exact br_t rfl (iw_la h2 h5 (by decide) (by decide) fun s hs => ⟨_, _, fun post h => sx_la0 h5 hs v3 v4 h, fun post h => sy_la0 h5 hs v3 v4 h⟩)
  · by_cases p1 : v1 = 1
    · subst p1
      exact br_f p0 (br_t rfl (iw_la h2 h5 (by decide) (by decide) fun s hs => ⟨_, _, fun post h => sx_la1 h5 hs v3 v4 h, fun post h => sy_la1 h5 hs v3 v4 h⟩))
    · refine br_f p0 (br_f p1 ?_)
      unfold wpY_likeAll
      dsimp only
      by_cases c0 : v1 < 0
      · exact br_t c0 ⟨rfl, iw_R h2 h5⟩
      · exact br_f c0 (br_f (fun w => (iw_01 c0 w).elim p0 p1) ⟨rfl, iw_R h2 h5⟩)
theorem i_vc_fitting {k : Nat} {u : SX} {v : SY} (I : i_Rel k u v) (hk : k + 5 ≤ 2561) (v1 : Int32) (v2 : Int32) : wpX_fitting (fun r => wpY_fitting (fun r' => r' = r ∧ i_Rel (k + 5) u v) v v1 v2) u v1 v2 := by
  obtain ⟨n, fo, a, b, pl, sk, nu, h2, h5, rfl, rfl⟩ := I
  unfold wpX_fitting wpY_fitting
  dsimp only
  rcases iw_ix h5 v1 with hs | ⟨s, hs, rfl⟩
  · exact sx_goodF hs (br_t rfl (sy_badF hs (br_f (by decide) ⟨rfl, iw_R h2 h5⟩)))
  · refine sx_goodT h5 hs (br_f (by decide) ?_)
    rcases iw_ix h5 v2 with hp | ⟨p, hp, rfl⟩
    · exact sx_goodF hp (br_t rfl (sy_badT h5 hs (br_t rfl (sy_badF hp (br_f (by decide) ⟨rfl, iw_R h2 h5⟩)))))
    · refine sx_goodT h5 hp (br_f (by decide) (sx_fits0 (by omega) (by omega) (sp_br (fun w => ?_) fun w => ?_)))
      · exact sy_badT h5 hs (br_t rfl (sy_badT h5 hp (br_t rfl (sy_fits (by omega) (by omega) (sp_br (fun _ => ⟨rfl, iw_R h2 h5⟩) fun z => absurd z w)))))
      · exact sy_badT h5 hs (br_t rfl (sy_badT h5 hp (br_t rfl (sy_fits (by omega) (by omega) (sp_br (fun z => absurd w z) fun _ => ⟨rfl, iw_R h2 h5⟩)))))
theorem i_vc_stables {k : Nat} {u : SX} {v : SY} (I : i_Rel k u v) (hk : k + 5 ≤ 2561) : wpX_stables (fun r => wpY_stables (fun r' v' => r' = r ∧ i_Rel (k + 5) u v') v) u := by
  obtain ⟨n, fo, a, b, pl, sk, nu, h2, h5, rfl, rfl⟩ := I
  exact sx_stables h5 (sy_stables h2 h5 fun _ _ _ _ => ⟨rfl, iw_R h2 h5⟩)
theorem i_vc_stable {k : Nat} {u : SX} {v : SY} (I : i_Rel k u v) (hk : k + 5 ≤ 2561) (v1 : Int32) : wpX_stable (fun r => wpY_stable (fun r' v' => r' = r ∧ i_Rel (k + 5) u v') v v1) u v1 := by
  obtain ⟨n, fo, a, b, pl, sk, nu, h2, h5, rfl, rfl⟩ := I
  exact sx_stable h5 v1 fun r hr => sy_stable h2 h5 hr fun _ _ _ _ => ⟨rfl, iw_R h2 h5⟩
theorem i_vc_blocking {k : Nat} {u : SX} {v : SY} (I : i_Rel k u v) (hk : k + 5 ≤ 2561) (v1 : Int32) : wpX_blocking (fun r => wpY_blocking (fun r' v' => r' = r ∧ i_Rel (k + 5) u v') v v1) u v1 := by
  obtain ⟨n, fo, a, b, pl, sk, nu, h2, h5, rfl, rfl⟩ := I
  by_cases z : v1 < 0
  · unfold wpX_blocking wpY_blocking
    dsimp only
    unfold wpX_isMatching wpY_read
    dsimp only
    exact br_t z (br_t rfl (br_f (Int32.not_le.mpr z) (br_t rfl ⟨rfl, iw_R h2 h5⟩)))
  · obtain ⟨x, hx, rfl⟩ := nI_of z
    refine sx_blocking h5 hx (fun w => ?_) (fun w => ?_)
    · exact sy_blocking h5 hx (fun _ _ _ => ⟨rfl, iw_R h2 h5⟩) (fun q => absurd q w)
    · exact sy_blocking h5 hx (fun q => absurd w q) (fun _ _ _ => ⟨rfl, iw_R h2 h5⟩)
theorem i_vc_bestFor {k : Nat} {u : SX} {v : SY} (I : i_Rel k u v) (hk : k + 5 ≤ 2561) (v1 : Int32) : wpX_bestFor (fun r => wpY_bestFor (fun r' v' => r' = r ∧ i_Rel (k + 5) u v') v v1) u v1 := by
  obtain ⟨n, fo, a, b, pl, sk, nu, h2, h5, rfl, rfl⟩ := I
  rcases iw_ix h5 v1 with hs | ⟨s, hs, rfl⟩
  · unfold wpX_bestFor wpY_bestFor
    dsimp only
    exact sx_goodF hs (br_t rfl (sy_badF hs (br_f (by decide) ⟨rfl, iw_R h2 h5⟩)))
  · refine sx_bestFor h5 hs (fun z => ?_) (fun z => ?_)
    · exact sy_bestFor h2 h5 hs fun _ _ _ _ => ⟨by rw [z, sp_ch0], iw_R h2 h5⟩
    · exact sy_bestFor h2 h5 hs fun _ _ _ _ => ⟨by rw [sp_chs z, sp_plp z], iw_R h2 h5⟩
theorem i_vc_worstFor {k : Nat} {u : SX} {v : SY} (I : i_Rel k u v) (hk : k + 5 ≤ 2561) (v1 : Int32) : wpX_worstFor (fun r => wpY_worstFor (fun r' v' => r' = r ∧ i_Rel (k + 5) u v') v v1) u v1 := by
  obtain ⟨n, fo, a, b, pl, sk, nu, h2, h5, rfl, rfl⟩ := I
  rcases iw_ix h5 v1 with hs | ⟨s, hs, rfl⟩
  · unfold wpX_worstFor wpY_worstFor
    dsimp only
    exact sx_goodF hs (br_t rfl (sy_badF hs (br_f (by decide) ⟨rfl, iw_R h2 h5⟩)))
  · refine sx_worstFor h5 hs (fun z => ?_) (fun z => ?_)
    · exact sy_worstFor h2 h5 hs fun _ _ _ _ => ⟨by rw [z, sp_ch0], iw_R h2 h5⟩
    · exact sy_worstFor h2 h5 hs fun _ _ _ _ => ⟨by rw [sp_chs z, sp_plp z], iw_R h2 h5⟩
theorem i_vc_together {k : Nat} {u : SX} {v : SY} (I : i_Rel k u v) (hk : k + 5 ≤ 2561) (v1 : Int32) (v2 : Int32) : wpX_together (fun r => wpY_together (fun r' v' => r' = r ∧ i_Rel (k + 5) u v') v v1 v2) u v1 v2 := by
  obtain ⟨n, fo, a, b, pl, sk, nu, h2, h5, rfl, rfl⟩ := I
  rcases iw_ix h5 v1 with hs | ⟨s, hs, rfl⟩
  · unfold wpX_together wpY_together
    dsimp only
    exact sx_goodF hs (br_t rfl (sy_badF hs (br_f (by decide) ⟨rfl, iw_R h2 h5⟩)))
  · rcases iw_ix h5 v2 with hp | ⟨p, hp, rfl⟩
    · unfold wpX_together wpY_together
      dsimp only
      exact sx_goodT h5 hs (br_f (by decide) (sx_goodF hp (br_t rfl (sy_badT h5 hs (br_t rfl (sy_badF hp (br_f (by decide) ⟨rfl, iw_R h2 h5⟩)))))))
    · exact sx_together h5 hs hp (sy_together h2 h5 hs hp fun _ _ _ _ => ⟨rfl, iw_R h2 h5⟩)
theorem i_vc_placed {k : Nat} {u : SX} {v : SY} (I : i_Rel k u v) (hk : k + 5 ≤ 2561) : wpX_placed (fun r => wpY_placed (fun r' v' => r' = r ∧ i_Rel (k + 5) u v') v) u := by
  obtain ⟨n, fo, a, b, pl, sk, nu, h2, h5, rfl, rfl⟩ := I
  exact sx_placed h5 (sy_placed h2 h5 fun _ _ _ _ => ⟨rfl, iw_R h2 h5⟩)
theorem i_vc_leastCost {k : Nat} {u : SX} {v : SY} (I : i_Rel k u v) (hk : k + 5 ≤ 2561) : wpX_leastCost (fun r => wpY_leastCost (fun r' v' => r' = r ∧ i_Rel (k + 5) u v') v) u := by
  obtain ⟨n, fo, a, b, pl, sk, nu, h2, h5, rfl, rfl⟩ := I
  have hN := sp_6 h5
  obtain ⟨q, q1, q2, q3, q4, q5⟩ := iw_fair h5 a b
  exact sx_leastCost h5 (by rw [q3]; show q < 2 ^ 31; omega) (sy_leastCost h2 h5 fun _ _ _ _ => ⟨by rw [q3, q4], iw_R h2 h5⟩)
theorem i_vc_fairest {k : Nat} {u : SX} {v : SY} (I : i_Rel k u v) (hk : k + 5 ≤ 2561) : wpX_fairest (fun r => wpY_fairest (fun r' v' => r' = r ∧ i_Rel (k + 5) u v') v) u := by
  obtain ⟨n, fo, a, b, pl, sk, nu, h2, h5, rfl, rfl⟩ := I
  obtain ⟨q, q1, q2, q3, q4, q5⟩ := iw_fair h5 a b
  exact sx_fairest h5 (sy_fairest h2 h5 q1 q2 q4 q5 fun _ _ _ _ => ⟨by rw [q3], iw_R h2 h5⟩)
theorem i_vc_better {k : Nat} {u : SX} {v : SY} (I : i_Rel k u v) (hk : k + 5 ≤ 2561) (v1 : Int32) (v2 : Int32) : wpX_better (fun r => wpY_better (fun r' v' => r' = r ∧ i_Rel (k + 5) u v') v v1 v2) u v1 v2 := by
  obtain ⟨n, fo, a, b, pl, sk, nu, h2, h5, rfl, rfl⟩ := I
  have hN := sp_6 h5
  refine sx_better h5 v1 v2 fun r t hr ht => ?_
  have neg : (r = -1 ∨ t = -1) → wpY_better (fun r' v' => r' = -1 ∧ i_Rel (k + 5) (sx_u n a b) v') (sy_v n fo a b pl sk nu) v1 v2 := fun z =>
    sy_better h2 h5 hr ht (fun _ _ _ _ _ => ⟨rfl, iw_R h2 h5⟩) (fun x y hx hy ex ey => by
      rcases z with z | z
      · exact absurd (ex.symm.trans z) (sx_nm hx)
      · exact absurd (ey.symm.trans z) (sx_nm hy))
  rcases hr with ⟨x, x1, x2, x3, rfl⟩ | ⟨_, rfl⟩
  · refine br_f (nI_pos (by omega)) ?_
    rcases ht with ⟨y, y1, y2, y3, rfl⟩ | ⟨_, rfl⟩
    · refine br_t (nI_pos' (by omega)) (sx_betterL h5 (by omega) (by omega) ?_)
      refine sy_better h2 h5 (r := nI x) (t := nI y) (Or.inl ⟨x, x1, x2, x3, rfl⟩) (Or.inl ⟨y, y1, y2, y3, rfl⟩) (fun z => ?_) (fun x' y' hx' hy' ex ey => ?_)
      · exact absurd z (fun z => z.elim (sx_nm (by omega)) (sx_nm (by omega)))
      · have e1 : x = x' := (nI_eq (by omega) hx').mp ex
        have e2 : y = y' := (nI_eq (by omega) hy').mp ey
        subst e1 e2
        exact fun _ _ _ _ => ⟨rfl, iw_R h2 h5⟩
    · exact br_f (by decide) (neg (Or.inr rfl))
  · exact br_t (by decide) (neg (Or.inl rfl))
