/-! the walks of Y: the questions, over the list -/
theorem sy_hd {A B C : Prop} {i c : Nat} (hi : i < c) (hc : c ≤ 256) (h : C) : (nI c ≤ nI i → A) ∧ (¬ nI c ≤ nI i → (256 ≤ nI i → B) ∧ (¬ 256 ≤ nI i → vp_in (nI i) 256 ∧ C)) :=
  br_f (nI_ge hi (by omega)) (br_f (nI_ge (b := 256) (by omega) (by decide)) ⟨vp_in_nI (by omega) (by decide), h⟩)
theorem sy_rd {post : Int32 → SY → Prop} {n : Nat} {fo : Int32} {a b pl sk nu : Nat → Int32} (h5 : n ≤ 5) (hL : sp_L n a b nu) {x : Nat} (hx : x < 6 ^ n) (hP : sp_P n a b x = true)
    (h : ∀ pl' sk', sp_G n x pl' sk' → post 1 (sy_v n fo a b pl' sk' nu)) : wpY_read post (sy_v n fo a b pl sk nu) (nu (nI (sp_cn (sp_P n a b) x)).toNatClampNeg) := by
  have hN := sp_6 h5
  have hc := sp_cn_le (sp_P n a b) x
  rw [nI_clamp (by omega), hL x hx hP]
  exact sy_read h5 (by omega) (fun w => absurd (sp_bt.mp hP).1 w) (fun _ pl' sk' hG => h pl' sk' hG)
theorem sy_stables {post : Int32 → SY → Prop} {n : Nat} {fo : Int32} {a b pl sk nu : Nat → Int32} (h2 : 2 ≤ n) (h5 : n ≤ 5) (h : ∀ fo' pl' sk' nu', post (nI (sp_cn (sp_P n a b) (6 ^ n))) (sy_v n fo' a b pl' sk' nu')) : wpY_stables post (sy_v n fo a b pl sk nu) := by
  unfold wpY_stables
  dsimp only
  exact sy_list h2 h5 fun pl' sk' nu' _ => h _ pl' sk' nu'
theorem sy_nth {n : Nat} {a b nu : Nat → Int32} (h2 : 2 ≤ n) (h5 : n ≤ 5) (hL : sp_L n a b nu) {v r : Int32} (hr : sp_nth (sp_P n a b) (6 ^ n) v r) :
    (r = -1 ∧ (v < 0 ∨ nI (sp_cn (sp_P n a b) (6 ^ n)) ≤ v)) ∨ ∃ q, q < 6 ^ n ∧ sp_P n a b q = true ∧ r = nI q ∧ ¬ v < 0 ∧ v < nI (sp_cn (sp_P n a b) (6 ^ n)) ∧ ¬ nI (sp_cn (sp_P n a b) (6 ^ n)) ≤ v ∧ vp_in v 256 ∧ nu v.toNatClampNeg = nI q := by
  have hF := sp_few h2 h5 a b
  rcases hr with ⟨q, q1, q2, rfl, rfl⟩ | ⟨h1, h2⟩
  · have := sp_cn_lt q2 q1
    exact Or.inr ⟨q, q1, q2, rfl, nI_pos (by omega), nI_lt this (by omega), nI_ge this (by omega), vp_in_nI (by omega) (by decide), by rw [nI_clamp (by omega)]; exact hL q q1 q2⟩
  · exact Or.inl ⟨h2, h1⟩
theorem sy_stable {post : Int32 → SY → Prop} {n : Nat} {fo : Int32} {a b pl sk nu : Nat → Int32} (h2 : 2 ≤ n) (h5 : n ≤ 5) {v r : Int32} (hr : sp_nth (sp_P n a b) (6 ^ n) v r) (h : ∀ fo' pl' sk' nu', post r (sy_v n fo' a b pl' sk' nu')) : wpY_stable post (sy_v n fo a b pl sk nu) v := by
  unfold wpY_stable
  dsimp only
  refine sy_list h2 h5 fun pl' sk' nu' hL => ?_
  rcases sy_nth h2 h5 hL hr with ⟨rfl, k⟩ | ⟨q, q1, q2, rfl, q4, q5, q6, q7, q8⟩
  · by_cases z : v < 0
    · exact br_t z (h _ _ _ _)
    · refine br_f z (br_f ?_ (h _ _ _ _))
      exact Int32.not_lt.mpr (k.resolve_left z)
  · refine br_f q4 (br_t q5 ⟨q7, ?_⟩)
    show post (nu' v.toNatClampNeg) (sy_v n (nI (sp_cn (sp_P n a b) (6 ^ n))) a b pl' sk' nu')
    rw [q8]; exact h _ _ _ _
theorem sy_blocking {post : Int32 → SY → Prop} {n : Nat} {fo : Int32} {a b pl sk nu : Nat → Int32} (h5 : n ≤ 5) {x : Nat} (hx : x < 2 ^ 31) (hf : ¬ sp_M n a b x → ∀ pl' sk', post (-1) (sy_v n fo a b pl' sk' nu)) (ht : sp_M n a b x → ∀ pl' sk', post (nI (sp_k2 n a b x n)) (sy_v n fo a b pl' sk' nu)) : wpY_blocking post (sy_v n fo a b pl sk nu) (nI x) := by
  unfold wpY_blocking
  dsimp only
  exact sy_read h5 hx (fun w pl' sk' => br_t rfl (hf w pl' sk')) (fun hM pl' sk' hG => br_f (by decide) (sy_blockers h5 hM hG (ht hM pl' sk')))
noncomputable def sp_ch (e : Nat) : Int32 := if e = 0 then -2 else nI (e - 1)
theorem sp_ch0 : sp_ch 0 = -2 := if_pos rfl
theorem sp_chs {e : Nat} (h : e ≠ 0) : sp_ch e = nI (e - 1) := if_neg h
theorem sy_ext {post : Int32 → SY → Prop} {n : Nat} {fo : Int32} {a b pl sk nu : Nat → Int32} (h2 : 2 ≤ n) (h5 : n ≤ 5) {s : Nat} (hs : s < n) (f : Nat → Nat → Nat) (z : Int32)
    (f0 : ∀ e, f e 0 = e) (f1 : ∀ d, d ≠ 0 → f 0 d = d) (f2 : ∀ e, f e e = e) (f3 : ∀ e d, e ≠ 0 → d ≠ 0 → d ≠ e → (sp_i (sp_b (sp_pr a s (d - 1) (e - 1))) = z → f e d = d) ∧ (¬ sp_i (sp_b (sp_pr a s (d - 1) (e - 1))) = z → f e d = e)) (fl : ∀ e d, e < 6 → d < 6 → f e d < 6)
    (h : ∀ fo' pl' sk' nu', post (sp_ch (sp_fo (sp_P n a b) (fun e x => f e (sp_d x s)) 0 (6 ^ n))) (sy_v n fo' a b pl' sk' nu')) : wpY_extreme post (sy_v n fo a b pl sk nu) (nI s) z := by
  have hF := sp_few h2 h5 a b
  unfold wpY_extreme
  dsimp only
  refine sy_list h2 h5 fun pl0 sk0 nu' hL => ?_
  have key : ∃ m, ∀ pl' sk' : Nat → Int32, wY_extreme_10 post (nI s) z m (sp_ch 0) (nI 0) (nI n) (nI (sp_cn (sp_P n a b) (6 ^ n))) a b pl' sk' nu' := by
    refine sp_lsi (sp_P n a b) (6 ^ n) (fun m i (e : Nat) => ∀ pl' sk' : Nat → Int32, wY_extreme_10 post (nI s) z m (sp_ch e) (nI i) (nI n) (nI (sp_cn (sp_P n a b) (6 ^ n))) a b pl' sk' nu')
      (fun y e => e < 6 ∧ e = sp_fo (sp_P n a b) (fun e x => f e (sp_d x s)) 0 y) 0 ⟨by decide, rfl⟩ ?_ ?_ ?_
    · intro y e _ q ⟨k1, k2⟩
      exact ⟨k1, by rw [sp_fo_f q]; exact k2⟩
    · intro m e ⟨_, k⟩ pl' sk'
      exact br_t (nI_le (Nat.le_refl _) (by omega)) (by rw [k]; exact h _ _ _ _)
    · intro m x e hx hP hc ⟨he, ee⟩ k pl' sk'
      refine sy_hd hc hF (sy_rd h5 hL hx hP fun pl2 sk2 hG => ?_)
      have hd := sp_d_lt x s
      have go : ∀ e', e' = f e (sp_d x s) → ∀ pl2 sk2 : Nat → Int32, wY_extreme_10 post (nI s) z m (sp_ch e') (nI (sp_cn (sp_P n a b) x + 1)) (nI n) (nI (sp_cn (sp_P n a b) (6 ^ n))) a b pl2 sk2 nu' := fun e' ee' => k e' ⟨by rw [ee']; exact fl e _ he hd, by rw [sp_fo_t hP, ← ee]; exact ee'⟩
      refine ⟨vp_in_nI (by omega) (by decide), nm_r (e' := nI (sp_d x s) - 1) (by rw [nI_clamp (by omega)]; exact hG.1 s hs) ?_⟩
      by_cases y : sp_d x s = 0
      · refine br_t ((sp_pll hd).mpr y) (br_t ((sp_pll hd).mpr y) (nm_r (nI_1 _) (go e ?_ _ _)))
        rw [y, f0]
      · refine br_f (fun w => y ((sp_pll hd).mp w)) ?_
        by_cases e0 : e = 0
        · refine br_f ?_ (nm_r (nI_1 _) ?_)
          · rw [e0, sp_ch0]; decide
          · have := go (sp_d x s) (by rw [e0, f1 _ y]) pl2 sk2
            rw [sp_chs y, ← sp_plp y] at this
            exact this
        · refine br_t ?_ (br_f (fun w => y ((sp_pll hd).mp w)) ?_)
          · rw [sp_chs e0]; exact nI_pos' (by omega)
          · by_cases de : sp_d x s = e
            · refine br_t ?_ (nm_r (nI_1 _) (go e ?_ _ _))
              · rw [sp_chs e0, sp_plp y, de]
              · rw [de, f2]
            · refine br_f ?_ ?_
              · rw [sp_chs e0]
                exact fun w => de (by have := (sp_plq hd (by omega)).mp w; omega)
              · rw [sp_plp y, sp_chs e0]
                have f3' := f3 e (sp_d x s) e0 y de
                refine sy_sp (by omega) (by omega) (by omega) (br_c (fun w => nm_r (nI_1 _) ?_) (fun w => nm_r (nI_1 _) ?_))
                · have := go (sp_d x s) (f3'.1 w).symm pl2 sk2
                  rw [sp_chs y] at this; exact this
                · have := go e (f3'.2 w).symm pl2 sk2
                  rw [sp_chs e0] at this; exact this
  obtain ⟨m, hm⟩ := key
  exact ⟨m, hm pl0 sk0⟩
theorem sp_g_z (a : Nat → Int32) (s e : Nat) : sp_g a s e 0 = e := by
  by_cases z : e = 0
  · rw [sp_g, if_pos z, z]
  · rw [sp_g, if_neg z, if_pos rfl]
theorem sp_h_z (a : Nat → Int32) (s e : Nat) : sp_h a s e 0 = e := by rw [sp_h, if_pos rfl]
theorem sy_bestFor {post : Int32 → SY → Prop} {n : Nat} {fo : Int32} {a b pl sk nu : Nat → Int32} (h2 : 2 ≤ n) (h5 : n ≤ 5) {s : Nat} (hs : s < n) (h : ∀ fo' pl' sk' nu', post (sp_ch (sp_E n a b s (6 ^ n))) (sy_v n fo' a b pl' sk' nu')) : wpY_bestFor post (sy_v n fo a b pl sk nu) (nI s) := by
  unfold wpY_bestFor
  dsimp only
  refine sy_badT h5 hs (br_t rfl (sy_ext h2 h5 hs (sp_g a s) 1 (sp_g_z a s) (fun d _ => ?_) (fun e => ?_) (fun e d he hd hn => ⟨fun w => ?_, fun w => ?_⟩) (fun e d he hd => sp_g_lt he hd) h))
  · rw [sp_g, if_pos rfl]
  · unfold sp_g
    split
    · rfl
    · split <;> rfl
  · have : sp_pr a s (d - 1) (e - 1) := Classical.byContradiction fun c => by rw [sp_i0 c] at w; exact absurd w (by decide)
    rw [sp_g, if_neg he, if_neg hd, if_pos (sp_bt.mpr this)]
  · rw [sp_g, if_neg he, if_neg hd, if_neg fun c => w (sp_i1 (sp_bt.mp c))]
theorem sy_worstFor {post : Int32 → SY → Prop} {n : Nat} {fo : Int32} {a b pl sk nu : Nat → Int32} (h2 : 2 ≤ n) (h5 : n ≤ 5) {s : Nat} (hs : s < n) (h : ∀ fo' pl' sk' nu', post (sp_ch (sp_F n a b s (6 ^ n))) (sy_v n fo' a b pl' sk' nu')) : wpY_worstFor post (sy_v n fo a b pl sk nu) (nI s) := by
  unfold wpY_worstFor
  dsimp only
  refine sy_badT h5 hs (br_t rfl (sy_ext h2 h5 hs (sp_h a s) 0 (sp_h_z a s) (fun d hd => ?_) (fun e => ?_) (fun e d he hd hn => ⟨fun w => ?_, fun w => ?_⟩) (fun e d he hd => sp_h_lt he hd) h))
  · rw [sp_h, if_neg hd, if_pos rfl]
  · unfold sp_h
    split
    · rfl
    · split <;> rfl
  · have c : ¬ sp_pr a s (d - 1) (e - 1) := fun c => by rw [sp_i1 c] at w; exact absurd w (by decide)
    have : sp_pr a s (e - 1) (d - 1) := (sp_pr_tot (show d - 1 ≠ e - 1 by omega)).resolve_left c
    rw [sp_h, if_neg hd, if_neg he, if_pos (sp_bt.mpr this)]
  · have c : sp_pr a s (d - 1) (e - 1) := Classical.byContradiction fun c => w (sp_i0 c)
    rw [sp_h, if_neg hd, if_neg he, if_neg fun k => sp_pr_irr (sp_pr_tr c (sp_bt.mp k))]
theorem sy_together {post : Int32 → SY → Prop} {n : Nat} {fo : Int32} {a b pl sk nu : Nat → Int32} (h2 : 2 ≤ n) (h5 : n ≤ 5) {s p : Nat} (hs : s < n) (hp : p < n) (h : ∀ fo' pl' sk' nu', post (nI (sp_tg n a b s p (6 ^ n))) (sy_v n fo' a b pl' sk' nu')) : wpY_together post (sy_v n fo a b pl sk nu) (nI s) (nI p) := by
  have hF := sp_few h2 h5 a b
  unfold wpY_together
  dsimp only
  refine sy_badT h5 hs (br_t rfl (sy_badT h5 hp (br_t rfl (sy_list h2 h5 fun pl0 sk0 nu' hL => ?_))))
  have key : ∃ m, ∀ pl' sk' : Nat → Int32, wY_together_27 post (nI s) (nI p) m (nI 0) (nI 0) (nI n) (nI (sp_cn (sp_P n a b) (6 ^ n))) a b pl' sk' nu' := by
    refine sp_lst (sp_P n a b) (6 ^ n) (fun m i (c : Nat) => ∀ pl' sk' : Nat → Int32, wY_together_27 post (nI s) (nI p) m (nI c) (nI i) (nI n) (nI (sp_cn (sp_P n a b) (6 ^ n))) a b pl' sk' nu') (fun c x => if sp_d x s = p + 1 then c + 1 else c) 0 ?_ ?_
    · intro m pl' sk'
      exact br_t (nI_le (Nat.le_refl _) (by omega)) (h _ _ _ _)
    · intro m x c hx hP hc k pl' sk'
      refine sy_hd hc hF (sy_rd h5 hL hx hP fun pl2 sk2 hG => br_f (by decide) ⟨vp_in_nI (by omega) (by decide), ?_⟩)
      have hd := sp_d_lt x s
      have eP : pl2 (nI s).toNatClampNeg = nI (sp_d x s) - 1 := by rw [nI_clamp (by omega)]; exact hG.1 s hs
      rw [eP]
      by_cases y : sp_d x s = p + 1
      · rw [if_pos y] at k
        exact br_t ((sp_plq hd (by omega)).mpr y) (nm_r (nI_1 c) (nm_r (nI_1 _) (k pl2 sk2)))
      · rw [if_neg y] at k
        exact br_f (fun w => y ((sp_plq hd (by omega)).mp w)) (nm_r (nI_1 _) (k pl2 sk2))
  obtain ⟨m, hm⟩ := key
  exact ⟨m, hm pl0 sk0⟩
