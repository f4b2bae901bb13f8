/-! the walks of Y: placed, costs, better -/
theorem sp_m2 (m : Nat) : m % 2 = 0 ∨ m % 2 = 1 := by omega
theorem sy_placed {post : Int32 → SY → Prop} {n : Nat} {fo : Int32} {a b pl sk nu : Nat → Int32} (h2 : 2 ≤ n) (h5 : n ≤ 5) (h : ∀ fo' pl' sk' nu', post (nI (sp_cn (fun s => sp_b (sp_al n a b s)) n)) (sy_v n fo' a b pl' sk' nu')) : wpY_placed post (sy_v n fo a b pl sk nu) := by
  have hF := sp_few h2 h5 a b
  unfold wpY_placed
  dsimp only
  refine sy_list h2 h5 fun pl0 sk0 nu' hL => nm_r (e' := nI (2 ^ n - 1)) (sp_all n (by omega)) ?_
  obtain ⟨b1, b2⟩ := sp_allB n (by omega)
  have key : ∃ m, ∀ pl' sk' : Nat → Int32, wY_placed_15 post m (nI (2 ^ n - 1)) (nI 0) (nI n) (nI (sp_cn (sp_P n a b) (6 ^ n))) a b pl' sk' nu' := by
    refine sp_lsi (sp_P n a b) (6 ^ n) (fun m i (w : Nat) => ∀ pl' sk' : Nat → Int32, wY_placed_15 post m (nI w) (nI i) (nI n) (nI (sp_cn (sp_P n a b) (6 ^ n))) a b pl' sk' nu')
      (fun y w => w < 32 ∧ ∀ j, j < n → (w / 2 ^ j % 2 = 1 ↔ ∀ x, x < y → sp_P n a b x = true → sp_d x j ≠ 0)) (2 ^ n - 1) ⟨b1, fun j hj => ⟨fun _ => lt_0, fun _ => b2 j hj⟩⟩ ?_ ?_ ?_
    · intro y w _ q ⟨k1, k2⟩
      refine ⟨k1, fun j hj => (k2 j hj).trans ⟨fun z => lt_s z fun c => ?_, fun z x hx => z x (by omega)⟩⟩
      rw [q] at c; cases c
    · intro m w ⟨k1, k2⟩ pl' sk'
      refine br_t (nI_le (Nat.le_refl _) (by omega)) ?_
      refine loop_0 (fun m i (c : Int32) => wY_placed_84 post (nI w) (nI n) (nI (sp_cn (sp_P n a b) (6 ^ n))) a b pl' sk' nu' m c (nI i)) (fun i c => c = nI (sp_cn (fun s => sp_b (sp_al n a b s)) i)) n 0 rfl ?_ ?_
      · intro m' c e
        exact br_t (nI_le (Nat.le_refl _) (by omega)) (by rw [e]; exact h _ _ _ _)
      · intro m' i c hi e k
        refine br_f (nI_ge hi (by omega)) (nm_r (e' := nI (sp_cn (fun s => sp_b (sp_al n a b s)) (i + 1))) ?_ (nm_r (nI_1 i) (k _ rfl)))
        rw [sp_bit w k1 i (by omega), e, nI_add]
        by_cases q : sp_al n a b i
        · rw [sp_cn_t (P := fun s => sp_b (sp_al n a b s)) (sp_bt.mpr q), (k2 i hi).mpr q]
        · rw [sp_cn_f (P := fun s => sp_b (sp_al n a b s)) (sp_bf.mpr q)]
          rcases sp_m2 (w / 2 ^ i) with z | z
          · rw [z]; rfl
          · exact absurd ((k2 i hi).mp z) q
    · intro m x w hx hP hc ⟨k1, k2⟩ k pl' sk'
      refine sy_hd hc hF (sy_rd h5 hL hx hP fun pl2 sk2 hG => ?_)
      refine loop_0 (fun m' i (c : Nat) => wY_placed_43 post (wY_placed_15 post m) (nI (sp_cn (sp_P n a b) x)) (nI n) (nI (sp_cn (sp_P n a b) (6 ^ n))) a b pl2 sk2 nu' m' (nI c) (nI i))
        (fun i c => c < 32 ∧ ∀ j, j < n → c / 2 ^ j % 2 = if j < i ∧ sp_d x j = 0 then 0 else w / 2 ^ j % 2) n w ⟨k1, fun j hj => by rw [if_neg (by omega)]⟩ ?_ ?_
      · intro m' c ⟨c1, c2⟩
        refine br_t (nI_le (Nat.le_refl _) (by omega)) (nm_r (nI_1 _) (k c ⟨c1, fun j hj => ?_⟩ pl2 sk2))
        rw [c2 j hj]
        by_cases z : sp_d x j = 0
        · rw [if_pos ⟨hj, z⟩]
          exact ⟨fun q => absurd q (by decide), fun q => absurd z (q x (by omega) hP)⟩
        · rw [if_neg fun q => z q.2, k2 j hj]
          exact ⟨fun q => lt_s q fun _ => z, fun q y hy => q y (by omega)⟩
      · intro m' i c hi ⟨c1, c2⟩ k'
        have hd := sp_d_lt x i
        have eP : pl2 (nI i).toNatClampNeg = nI (sp_d x i) - 1 := by rw [nI_clamp (by omega)]; exact hG.1 i hi
        refine br_f (nI_ge hi (by omega)) ⟨vp_in_nI (by omega) (by decide), ?_⟩
        by_cases z : sp_d x i = 0
        · refine br_f ?_ (nm_r (e' := nI (sp_cl c i)) (sp_clI c c1 i (by omega)) (nm_r (nI_1 i) (k' (sp_cl c i) ⟨(sp_clB c c1 i (by omega)).1, fun j hj => ?_⟩)))
          · show ¬ (0 : Int32) ≤ pl2 (nI i).toNatClampNeg
            rw [eP]; exact fun q => (sp_plz hd).mp q z
          · rw [(sp_clB c c1 i (by omega)).2 j (by omega), c2 j hj]
            by_cases e : j = i
            · rw [if_pos e, if_pos ⟨by omega, by rw [e]; exact z⟩]
            · rw [if_neg e]
              by_cases y : j < i ∧ sp_d x j = 0
              · rw [if_pos y, if_pos ⟨by omega, y.2⟩]
              · rw [if_neg y, if_neg fun q => y ⟨by omega, q.2⟩]
        · refine br_t ?_ (nm_r (nI_1 i) (k' c ⟨c1, fun j hj => ?_⟩))
          · show (0 : Int32) ≤ pl2 (nI i).toNatClampNeg
            rw [eP]; exact (sp_plz hd).mpr z
          · rw [c2 j hj]
            by_cases y : j < i ∧ sp_d x j = 0
            · rw [if_pos y, if_pos ⟨by omega, y.2⟩]
            · rw [if_neg y, if_neg fun q => ?_]
              by_cases e : j = i
              · exact z (e ▸ q.2)
              · exact y ⟨by omega, q.2⟩
  obtain ⟨m, hm⟩ := key
  exact ⟨m, hm pl0 sk0⟩
theorem sy_rank50 {post : Int32 → Prop} {J : Int32 → Int32 → Prop} {n : Nat} {fo : Int32} {a b pl sk nu : Nat → Int32} (h5 : n ≤ 5) {s p i c : Nat} (hs : s < 5) (hp : p < 5) (hi : i < 5)
    (h : J (nI (c + (sp_b (sp_fit a b i p ∧ sp_pr b p i s)).toNat)) (nI (i + 1))) : wY_rankSum_50 post J (nI s) (nI p) (nI c) (nI i) (nI n) fo a b pl sk nu := by
  unfold wY_rankSum_50
  refine sy_fits hi hp (sp_br (fun w => nm_r (nI_1 i) ?_) fun w => ?_)
  · rw [sp_bf.mpr fun z => w z.1] at h; exact h
  · refine pk_eq i s (fun e => nm_r (nI_1 i) ?_) (fun e => ?_)
    · subst e
      rw [sp_bf.mpr fun z => sp_pr_irr z.2] at h; exact h
    · refine sy_pp hp hi hs (sp_br (fun y => nm_r (nI_1 i) ?_) fun y => nm_r (e' := nI (c + 1)) (nI_1 c) (nm_r (nI_1 i) ?_))
      · rw [sp_bf.mpr fun z => y z.2] at h; exact h
      · rw [sp_bt.mpr ⟨w, y⟩] at h; exact h
theorem sy_rankSum {post : Int32 → Prop} {n : Nat} {fo : Int32} {a b pl sk nu : Nat → Int32} (h5 : n ≤ 5) {s p : Nat} (hs : s < 5) (hp : p < 5) (h : post (nI (sp_rk n a b s p + sp_rq n a b s p))) : wpY_rankSum post (sy_v n fo a b pl sk nu) (nI s) (nI p) := by
  refine loop_0 (fun m i (c : Int32) => wY_rankSum_5 post (nI s) (nI p) (nI n) fo a b pl sk nu m c (nI i)) (fun i c => c = nI (sp_cn (fun k => sp_b (sp_fit a b s k ∧ sp_pr a s k p)) i + sp_cn (fun k => sp_b (sp_fit a b k p ∧ sp_pr b p k s)) i)) n 0 rfl ?_ ?_
  · intro m c e
    exact br_t (nI_le (Nat.le_refl _) (by omega)) (by rw [e]; exact h)
  · intro m i c hi e k
    subst e
    have hi5 : i < 5 := by omega
    have go : ∀ t, t = sp_cn (fun k => sp_b (sp_fit a b s k ∧ sp_pr a s k p)) i + sp_cn (fun k => sp_b (sp_fit a b k p ∧ sp_pr b p k s)) i + (sp_b (sp_fit a b s i ∧ sp_pr a s i p)).toNat →
        wY_rankSum_50 post (wY_rankSum_5 post (nI s) (nI p) (nI n) fo a b pl sk nu m) (nI s) (nI p) (nI t) (nI i) (nI n) fo a b pl sk nu := fun t et =>
      sy_rank50 h5 hs hp hi5 (k _ (by
        rw [et, sp_cn_s, sp_cn_s]
        exact congrArg nI (by omega)))
    refine br_f (nI_ge hi (by omega)) (br_f (nI_ge (b := 5) hi5 (by decide)) (sy_fits hs hi5 (sp_br (fun w => go _ ?_) fun w => ?_)))
    · rw [sp_bf.mpr fun z => w z.1]; rfl
    · refine pk_eq i p (fun e => go _ ?_) (fun e => sy_sp hs hi5 hp (sp_br (fun y => go _ ?_) fun y => nm_r (nI_1 _) (go _ ?_)))
      · subst e
        rw [sp_bf.mpr fun z => sp_pr_irr z.2]; rfl
      · rw [sp_bf.mpr fun z => y z.2]; rfl
      · rw [sp_bt.mpr ⟨w, y⟩]; rfl
theorem sy_cost {post : Int32 → Prop} {n : Nat} {fo : Int32} {a b pl sk nu : Nat → Int32} (h5 : n ≤ 5) {x : Nat} (hG : sp_G n x pl sk) (h : post (nI (sp_co n a b x n))) : wpY_cost post (sy_v n fo a b pl sk nu) := by
  refine loop_0 (fun m i (c : Int32) => wY_cost_4 post (nI n) fo a b pl sk nu m c (nI i)) (fun i c => c = nI (sp_co n a b x i)) n 0 rfl ?_ ?_
  · intro m c e
    exact br_t (nI_le (Nat.le_refl _) (by omega)) (by rw [e]; exact h)
  · intro m i c hi e k
    subst e
    have hd := sp_d_lt x i
    have eP : pl (nI i).toNatClampNeg = nI (sp_d x i) - 1 := by rw [nI_clamp (by omega)]; exact hG.1 i hi
    refine br_f (nI_ge hi (by omega)) (br_f (nI_ge (b := 5) (by omega) (by decide)) ⟨vp_in_nI (by omega) (by decide), ?_⟩)
    rw [eP]
    by_cases z : sp_d x i = 0
    · exact br_t ((sp_pll hd).mpr z) (nm_r (nI_1 i) (k _ (by rw [sp_co_z z])))
    · refine br_f (fun w => z ((sp_pll hd).mp w)) ⟨vp_in_nI (by omega) (by decide), ?_⟩
      rw [sp_plp z]
      refine sy_rankSum h5 (by omega) (by omega) (nm_r (e' := nI (sp_co n a b x (i + 1))) ?_ (nm_r (nI_1 i) (k _ rfl)))
      rw [nI_add, sp_co_s z]
noncomputable def sp_fy (n : Nat) (a b : Nat → Int32) : Nat → Nat := sp_fo (sp_P n a b) (sp_fY fun x => sp_co n a b x n) 1000
theorem sy_cheapest {post : Int32 → SY → Prop} {n : Nat} {a b pl sk nu : Nat → Int32} (h2 : 2 ≤ n) (h5 : n ≤ 5) (hL : sp_L n a b nu) (h : ∀ pl' sk', post (nI (sp_fy n a b (6 ^ n))) (sy_v n (nI (sp_cn (sp_P n a b) (6 ^ n))) a b pl' sk' nu)) : wpY_cheapest post (sy_v n (nI (sp_cn (sp_P n a b) (6 ^ n))) a b pl sk nu) := by
  have hF := sp_few h2 h5 a b
  have key : ∃ m, ∀ pl' sk' : Nat → Int32, wY_cheapest_6 post m (nI 1000) (nI 0) (nI n) (nI (sp_cn (sp_P n a b) (6 ^ n))) a b pl' sk' nu := by
    refine sp_lsi (sp_P n a b) (6 ^ n) (fun m i (c : Nat) => ∀ pl' sk' : Nat → Int32, wY_cheapest_6 post m (nI c) (nI i) (nI n) (nI (sp_cn (sp_P n a b) (6 ^ n))) a b pl' sk' nu)
      (fun y c => c ≤ 1000 ∧ c = sp_fy n a b y) 1000 ⟨Nat.le_refl _, rfl⟩ ?_ ?_ ?_
    · intro y c _ q ⟨k1, k2⟩
      exact ⟨k1, by rw [sp_fy, sp_fo_f q]; exact k2⟩
    · intro m c ⟨_, k⟩ pl' sk'
      exact br_t (nI_le (Nat.le_refl _) (by omega)) (by rw [k]; exact h _ _)
    · intro m x c hx hP hc ⟨c1, c2⟩ k pl' sk'
      have hC := sp_cost_lt h5 hP
      refine sy_hd hc hF (sy_rd h5 hL hx hP fun pl2 sk2 hG => sy_cost h5 hG (pk_le c (sp_co n a b x n) (fun w => nm_r (nI_1 _) (k c ⟨c1, ?_⟩ pl2 sk2)) (fun w => nm_r (nI_1 _) (k (sp_co n a b x n) ⟨by omega, ?_⟩ pl2 sk2))))
      · rw [sp_fy, sp_fo_t hP, sp_fY]
        have e : sp_fo (sp_P n a b) (sp_fY fun x => sp_co n a b x n) 1000 x = c := c2.symm
        rw [e, if_neg (by show ¬ sp_co n a b x n < c; omega)]
      · rw [sp_fy, sp_fo_t hP, sp_fY]
        have e : sp_fo (sp_P n a b) (sp_fY fun x => sp_co n a b x n) 1000 x = c := c2.symm
        rw [e, if_pos (by show sp_co n a b x n < c; omega)]
  obtain ⟨m, hm⟩ := key
  exact ⟨m, hm pl sk⟩
theorem sy_leastCost {post : Int32 → SY → Prop} {n : Nat} {fo : Int32} {a b pl sk nu : Nat → Int32} (h2 : 2 ≤ n) (h5 : n ≤ 5) (h : ∀ fo' pl' sk' nu', post (nI (sp_fy n a b (6 ^ n))) (sy_v n fo' a b pl' sk' nu')) : wpY_leastCost post (sy_v n fo a b pl sk nu) := by
  unfold wpY_leastCost
  dsimp only
  exact sy_list h2 h5 fun pl' sk' nu' hL => sy_cheapest h2 h5 hL fun pl2 sk2 => h _ _ _ _
theorem sy_fairest {post : Int32 → SY → Prop} {n : Nat} {fo : Int32} {a b pl sk nu : Nat → Int32} (h2 : 2 ≤ n) (h5 : n ≤ 5) {q : Nat} (hq : q < 6 ^ n) (hPq : sp_P n a b q = true) (hv : sp_fy n a b (6 ^ n) = sp_co n a b q n) (hm : ∀ x, x < q → sp_P n a b x = true → sp_co n a b x n ≠ sp_co n a b q n)
    (h : ∀ fo' pl' sk' nu', post (nI q) (sy_v n fo' a b pl' sk' nu')) : wpY_fairest post (sy_v n fo a b pl sk nu) := by
  have hF := sp_few h2 h5 a b
  have hCq := sp_cost_lt h5 hPq
  unfold wpY_fairest
  dsimp only
  refine sy_list h2 h5 fun pl' sk' nu' hL => sy_cheapest h2 h5 hL fun pl2 sk2 => ?_
  rw [hv]
  have key : ∃ m, ∀ pl' sk' : Nat → Int32, wY_fairest_11 post (nI (sp_co n a b q n)) m (nI 0) (nI n) (nI (sp_cn (sp_P n a b) (6 ^ n))) a b pl' sk' nu' := by
    refine sp_srch (sp_P n a b) q (fun m i => ∀ pl' sk' : Nat → Int32, wY_fairest_11 post (nI (sp_co n a b q n)) m (nI i) (nI n) (nI (sp_cn (sp_P n a b) (6 ^ n))) a b pl' sk' nu') ?_ ?_
    · intro m pl' sk'
      have hlt := sp_cn_lt hPq hq
      refine sy_hd hlt hF (sy_rd h5 hL hq hPq fun pl3 sk3 hG => sy_cost h5 hG (br_t rfl ⟨vp_in_nI (by omega) (by decide), ?_⟩))
      show post (nu' (nI (sp_cn (sp_P n a b) q)).toNatClampNeg) (sy_v n (nI (sp_cn (sp_P n a b) (6 ^ n))) a b pl3 sk3 nu')
      rw [nI_clamp (by omega), hL q hq hPq]
      exact h _ _ _ _
    · intro m x hx hP k pl' sk'
      have hlt := sp_cn_lt hP (show x < 6 ^ n by omega)
      have hC := sp_cost_lt h5 hP
      refine sy_hd hlt hF (sy_rd h5 hL (by omega) hP fun pl3 sk3 hG => sy_cost h5 hG (pk_eq (sp_co n a b x n) (sp_co n a b q n) (fun e => absurd e (hm x hx hP)) (fun _ => nm_r (nI_1 _) (k pl3 sk3))))
  obtain ⟨m, hm'⟩ := key
  exact ⟨m, hm' pl2 sk2⟩
theorem sy_dw {x k : Nat} (hx : x < 2 ^ 31) (hk : k < 5) : (nI x / nI (6 ^ k)) - (nI x / nI (6 ^ k)) / 6 * 6 = nI (sp_d x k) := by
  have h6 : 6 ^ k ≤ 7776 := sp_6 (by omega)
  rw [pk_div hx (Nat.pow_pos (by decide)) (by omega), show (6 : Int32) = nI 6 from rfl, pk_rem (Nat.lt_of_le_of_lt (Nat.div_le_self _ _) hx) (by decide) (by decide)]
  rfl
theorem sy_betterL {post : Int32 → SY → Prop} {n : Nat} {fo : Int32} {a b pl sk nu : Nat → Int32} (h5 : n ≤ 5) {x y : Nat} (hx : x < 2 ^ 31) (hy : y < 2 ^ 31) (h : post (nI (sp_bw a x y n)) (sy_v n fo a b pl sk nu)) : ∃ m, wY_better_54 post (nI x) (nI y) (nI n) fo a b pl sk nu m 0 1 0 := by
  refine loop_0 (fun m i (c : Int32 × Int32) => wY_better_54 post (nI x) (nI y) (nI n) fo a b pl sk nu m c.1 c.2 (nI i)) (fun i c => c = (nI (sp_bw a x y i), nI (6 ^ i))) n (0, 1) rfl ?_ ?_
  · intro m c e
    exact br_t (nI_le (Nat.le_refl _) (by omega)) (by rw [e]; exact h)
  · intro m i c hi e k
    subst e
    have h6 : 6 ^ i ≤ 7776 := sp_6 (by omega)
    have hne : ¬ nI (6 ^ i) = 0 := nI_ne0 (Nat.pow_pos (by decide)) (by omega)
    have hdx := sp_d_lt x i
    have hdy := sp_d_lt y i
    have fin : ∀ g, g = sp_g a i (sp_d x i) (sp_d y i) → wY_better_132 post (wY_better_54 post (nI x) (nI y) (nI n) fo a b pl sk nu m) (nI x) (nI y) (nI (sp_bw a x y i)) (nI (6 ^ i)) (nI i) (nI g) (nI n) fo a b pl sk nu := by
      intro g eg
      refine nm_r (e' := nI (sp_bw a x y (i + 1))) ?_ (nm_r (e' := nI (6 ^ (i + 1))) ?_ (nm_r (nI_1 i) (k (nI (sp_bw a x y (i + 1)), nI (6 ^ (i + 1))) rfl)))
      · rw [pk_mul, nI_add, sp_bw_s, eg]
      · rw [show (6 : Int32) = nI 6 from rfl, pk_mul, Nat.pow_succ, Nat.mul_comm]
    refine br_f (nI_ge hi (by omega)) (br_f (nI_ge (b := 5) (by omega) (by decide)) ⟨hne, sx_6, nm_r (sy_dw hx (by omega)) ⟨hne, sx_6, nm_r (sy_dw hy (by omega)) ?_⟩⟩)
    refine pk_eq (sp_d x i) 0 (fun z => ?_) (fun z => ?_)
    · refine pk_le (sp_d x i) 0 (fun _ => fin _ ?_) (fun w => absurd z (by omega))
      rw [sp_g, if_pos z]
    · refine pk_le (sp_d x i) 0 (fun w => absurd (show sp_d x i = 0 by omega) z) (fun _ => pk_le (sp_d y i) 0 (fun w => fin _ ?_) (fun w => ?_))
      · rw [sp_g, if_neg z, if_pos (by omega)]
      · have y0 : sp_d y i ≠ 0 := by omega
        rw [sp_plp z, sp_plp y0]
        refine sy_sp (by omega) (by omega) (by omega) (sp_br (fun q => fin _ ?_) fun q => fin _ ?_)
        · rw [sp_g, if_neg z, if_neg y0, if_neg fun c => q (sp_bt.mp c)]
        · rw [sp_g, if_neg z, if_neg y0, if_pos (sp_bt.mpr q)]
theorem sy_better {post : Int32 → SY → Prop} {n : Nat} {fo : Int32} {a b pl sk nu : Nat → Int32} (h2 : 2 ≤ n) (h5 : n ≤ 5) {v w r t : Int32} (hr : sp_nth (sp_P n a b) (6 ^ n) v r) (ht : sp_nth (sp_P n a b) (6 ^ n) w t)
    (hf : (r = -1 ∨ t = -1) → ∀ fo' pl' sk' nu', post (-1) (sy_v n fo' a b pl' sk' nu'))
    (hs : ∀ x y, x < 2 ^ 31 → y < 2 ^ 31 → r = nI x → t = nI y → ∀ fo' pl' sk' nu', post (nI (sp_bw a x y n)) (sy_v n fo' a b pl' sk' nu')) : wpY_better post (sy_v n fo a b pl sk nu) v w := by
  have hN := sp_6 h5
  unfold wpY_better
  dsimp only
  refine sy_list h2 h5 fun pl' sk' nu' hL => ?_
  rcases sy_nth h2 h5 hL hr with ⟨e, k⟩ | ⟨q, q1, q2, q3, q4, q5, q6, q7, q8⟩
  · by_cases z : v < 0
    · exact br_t z (hf (Or.inl e) _ _ _ _)
    · exact br_f z (br_t (k.resolve_left z) (hf (Or.inl e) _ _ _ _))
  · refine br_f q4 (br_f q6 ?_)
    rcases sy_nth h2 h5 hL ht with ⟨e, k⟩ | ⟨u, u1, u2, u3, u4, u5, u6, u7, u8⟩
    · by_cases z : w < 0
      · exact br_t z (hf (Or.inr e) _ _ _ _)
      · exact br_f z (br_f (Int32.not_lt.mpr (k.resolve_left z)) (hf (Or.inr e) _ _ _ _))
    · exact br_f u4 (br_t u5 ⟨q7, nm_r q8 ⟨u7, nm_r u8 (sy_betterL h5 (by omega) (by omega) (hs q u (by omega) (by omega) q3 u3 _ _ _ _))⟩⟩)
