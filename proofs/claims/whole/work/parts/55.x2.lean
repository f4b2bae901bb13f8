/-! the walks of X: the questions -/
theorem sx_goodT {post : Int32 → Prop} {n : Nat} {a b : Nat → Int32} (h5 : n ≤ 5) {s : Nat} (hs : s < n) (h : post 1) : wpX_isGood post (sx_u n a b) (nI s) :=
  br_f (nI_pos (by omega)) (br_f (nI_ge hs (by omega)) h)
theorem sx_goodF {post : Int32 → Prop} {n : Nat} {a b : Nat → Int32} {x : Int32} (hx : x < 0 ∨ nI n ≤ x) (h : post 0) : wpX_isGood post (sx_u n a b) x := by
  by_cases h0 : x < 0
  · exact br_t h0 h
  · exact br_f h0 (br_t (hx.resolve_left h0) h)
theorem sx_stables {post : Int32 → Prop} {n : Nat} {a b : Nat → Int32} (h5 : n ≤ 5) (h : post (nI (sp_cn (sp_P n a b) (6 ^ n)))) : wpX_stables post (sx_u n a b) := by
  have hN := sp_6 h5
  refine loop_0 (fun m i (c : Int32) => wX_stables_4 post (nI n) (nI (6 ^ n)) (sp_jo a b) m c (nI i)) (fun i c => c = nI (sp_cn (sp_P n a b) i)) (6 ^ n) 0 rfl ?_ ?_
  · intro m c e
    exact br_t (nI_le (Nat.le_refl _) (by omega)) (by rw [e]; exact h)
  · intro m i c hi e k
    refine br_f (nI_ge hi (by omega)) (sx_isStable h5 (by omega) (sp_brB (fun q => nm_r (nI_1 i) (k _ (by rw [sp_cn_f q]; exact e))) fun q => ?_))
    exact nm_r (e' := nI (sp_cn (sp_P n a b) (i + 1))) (by rw [e, nI_1, sp_cn_t q]) (nm_r (nI_1 i) (k _ rfl))
theorem sx_stable {post : Int32 → Prop} {n : Nat} {a b : Nat → Int32} (h5 : n ≤ 5) (v : Int32) (h : ∀ r, sp_nth (sp_P n a b) (6 ^ n) v r → post r) : wpX_stable post (sx_u n a b) v := by
  have hN := sp_6 h5
  refine loop_0 (fun m i (c : Int32) => wX_stable_4 post v (nI n) (nI (6 ^ n)) (sp_jo a b) m c (nI i)) (fun i c => c = nI (sp_cn (sp_P n a b) i) ∧ ∀ y, y < i → sp_P n a b y = true → v ≠ nI (sp_cn (sp_P n a b) y)) (6 ^ n) 0 ⟨rfl, lt_0⟩ ?_ ?_
  · intro m c ⟨e, k⟩
    refine br_t (nI_le (Nat.le_refl _) (by omega)) (h _ (Or.inr ⟨?_, rfl⟩))
    rcases pk_ix v (n := sp_cn (sp_P n a b) (6 ^ n)) (by have := sp_cn_le (sp_P n a b) (6 ^ n); omega) with q | q | ⟨j, hj, rfl⟩
    · exact Or.inl q
    · exact Or.inr q
    · obtain ⟨y, y1, y2, y3⟩ := sp_cn_nth hj
      exact absurd (by rw [y3]) (k y y1 y2)
  · intro m i c hi ⟨e, k⟩ w
    subst e
    refine br_f (nI_ge hi (by omega)) (sx_isStable h5 (by omega) (sp_brB (fun q => nm_r (nI_1 i) (w _ ⟨by rw [sp_cn_f q], lt_s k fun z => ?_⟩)) fun q => ?_))
    · rw [q] at z; cases z
    · by_cases z : nI (sp_cn (sp_P n a b) i) = v
      · exact br_t z (h _ (Or.inl ⟨i, hi, q, z.symm, rfl⟩))
      · exact br_f z (nm_r (e' := nI (sp_cn (sp_P n a b) (i + 1))) (by rw [nI_1, sp_cn_t q]) (nm_r (nI_1 i) (w _ ⟨rfl, lt_s k fun _ y => z y.symm⟩)))
theorem sx_blocking {post : Int32 → Prop} {n : Nat} {a b : Nat → Int32} (h5 : n ≤ 5) {x : Nat} (hx : x < 2 ^ 31) (hf : ¬ sp_M n a b x → post (-1)) (ht : sp_M n a b x → post (nI (sp_k2 n a b x n))) : wpX_blocking post (sx_u n a b) (nI x) := by
  unfold wpX_blocking
  dsimp only
  refine sx_isMatching h5 hx (sp_br hf fun hM => ?_)
  refine loop_0 (fun m i (c : Int32) => wX_blocking_14 post (nI x) (nI n) (nI (6 ^ n)) (sp_jo a b) m c (nI i)) (fun i c => c = nI (sp_k2 n a b x i)) n 0 rfl ?_ ?_
  · intro m c e
    exact br_t (nI_le (Nat.le_refl _) (by omega)) (by rw [e]; exact ht hM)
  · intro m i c hi e k
    refine br_f (nI_ge hi (by omega)) ?_
    refine loop_0 (fun m' j (c' : Int32) => wX_blocking_25 post (wX_blocking_14 post (nI x) (nI n) (nI (6 ^ n)) (sp_jo a b) m) (nI x) (nI i) (nI n) (nI (6 ^ n)) (sp_jo a b) m' c' (nI j)) (fun j c' => c' = nI (sp_k2 n a b x i + sp_cn (fun p => sp_b (sp_Bk n a b x i p)) j)) n c e ?_ ?_
    · intro m' c' e'
      exact br_t (nI_le (Nat.le_refl _) (by omega)) (nm_r (nI_1 i) (k _ e'))
    · intro m' j c' hj e' k'
      refine br_f (nI_ge hj (by omega)) (sx_blocks h5 hM hi hj (sp_br (fun w => nm_r (nI_1 j) (k' _ ?_)) fun w => ?_))
      · rw [sp_cn_f (P := fun p => sp_b (sp_Bk n a b x i p)) (sp_bf.mpr w)]; exact e'
      · refine nm_r (e' := nI (sp_k2 n a b x i + sp_cn (fun p => sp_b (sp_Bk n a b x i p)) (j + 1))) ?_ (nm_r (nI_1 j) (k' _ rfl))
        rw [e', nI_1, sp_cn_t (P := fun p => sp_b (sp_Bk n a b x i p)) (sp_bt.mpr w), Nat.add_assoc]
theorem sx_ppl {post : Int32 → Prop} {n : Nat} {a b : Nat → Int32} {s e d : Nat} (hs : s < 5) (he : e < 6) (hd : d < 6) (h : post (nI (sp_g a s e d) - 1)) : wpX_preferredPlace post (sx_u n a b) (nI s) (nI e - 1) (nI d - 1) := by
  by_cases z : e = 0
  · refine br_t ((sp_pl0 he).mpr z) ?_
    rw [sp_g, if_pos z] at h; exact h
  · refine br_f (fun w => z ((sp_pl0 he).mp w)) ?_
    by_cases y : d = 0
    · refine br_t ((sp_pl0 hd).mpr y) ?_
      rw [sp_g, if_neg z, if_pos y] at h; exact h
    · refine br_f (fun w => y ((sp_pl0 hd).mp w)) ?_
      rw [sp_plp z, sp_plp y]
      refine sx_pref0 hs (by omega) (by omega) (sp_br (fun w => ?_) fun w => ?_)
      · rw [sp_g, if_neg z, if_neg y, if_neg (fun c => w (sp_bt.mp c)), sp_plp z] at h; exact h
      · rw [sp_g, if_neg z, if_neg y, if_pos (sp_bt.mpr w), sp_plp y] at h; exact h
theorem sx_m1 : (-1 : Int32) = nI 0 - 1 := by decide
noncomputable def sp_E (n : Nat) (a b : Nat → Int32) (s : Nat) : Nat → Nat := sp_fo (sp_P n a b) (fun e x => sp_g a s e (sp_d x s)) 0
noncomputable def sp_F (n : Nat) (a b : Nat → Int32) (s : Nat) : Nat → Nat := sp_fo (sp_P n a b) (fun e x => sp_h a s e (sp_d x s)) 0
theorem sp_E_lt (n : Nat) (a b : Nat → Int32) (s k : Nat) : sp_E n a b s k < 6 := sp_fo_lt (by decide) (fun _ _ he => sp_g_lt he (sp_d_lt _ _)) k
theorem sp_F_lt (n : Nat) (a b : Nat → Int32) (s k : Nat) : sp_F n a b s k < 6 := sp_fo_lt (by decide) (fun _ _ he => sp_h_lt he (sp_d_lt _ _)) k
theorem sx_bestFor {post : Int32 → Prop} {n : Nat} {a b : Nat → Int32} (h5 : n ≤ 5) {s : Nat} (hs : s < n) (h0 : sp_E n a b s (6 ^ n) = 0 → post (-2)) (h1 : sp_E n a b s (6 ^ n) ≠ 0 → post (nI (sp_E n a b s (6 ^ n)) - 1)) : wpX_bestFor post (sx_u n a b) (nI s) := by
  have hN := sp_6 h5
  unfold wpX_bestFor
  dsimp only
  refine sx_goodT h5 hs (br_f (by decide) ?_)
  refine loop_0 (fun m i (c : Int32) => wX_bestFor_14 post (nI s) (nI n) (nI (6 ^ n)) (sp_jo a b) m c (nI i)) (fun i c => c = nI (sp_E n a b s i) - 1) (6 ^ n) (-1) sx_m1 ?_ ?_
  · intro m c e
    subst e
    refine br_t (nI_le (Nat.le_refl _) (by omega)) ?_
    by_cases z : sp_E n a b s (6 ^ n) = 0
    · exact br_t ((sp_pl0 (sp_E_lt n a b s _)).mpr z) (h0 z)
    · exact br_f (fun w => z ((sp_pl0 (sp_E_lt n a b s _)).mp w)) (h1 z)
  · intro m i c hi e k
    subst e
    refine br_f (nI_ge hi (by omega)) (sx_isStable h5 (by omega) (sp_brB (fun q => nm_r (nI_1 i) (k _ (by rw [sp_E, sp_fo_f q]))) fun q => ?_))
    refine sx_placeOf (by omega) (by omega) (sx_ppl (by omega) (sp_E_lt n a b s i) (sp_d_lt i s) (nm_r (nI_1 i) (k _ ?_)))
    rw [sp_E, sp_fo_t q]
theorem sx_worstFor {post : Int32 → Prop} {n : Nat} {a b : Nat → Int32} (h5 : n ≤ 5) {s : Nat} (hs : s < n) (h0 : sp_F n a b s (6 ^ n) = 0 → post (-2)) (h1 : sp_F n a b s (6 ^ n) ≠ 0 → post (nI (sp_F n a b s (6 ^ n)) - 1)) : wpX_worstFor post (sx_u n a b) (nI s) := by
  have hN := sp_6 h5
  unfold wpX_worstFor
  dsimp only
  refine sx_goodT h5 hs (br_f (by decide) ?_)
  refine loop_0 (fun m i (c : Int32) => wX_worstFor_14 post (nI s) (nI n) (nI (6 ^ n)) (sp_jo a b) m c (nI i)) (fun i c => c = nI (sp_F n a b s i) - 1) (6 ^ n) (-1) sx_m1 ?_ ?_
  · intro m c e
    subst e
    refine br_t (nI_le (Nat.le_refl _) (by omega)) ?_
    by_cases z : sp_F n a b s (6 ^ n) = 0
    · exact br_t ((sp_pl0 (sp_F_lt n a b s _)).mpr z) (h0 z)
    · exact br_f (fun w => z ((sp_pl0 (sp_F_lt n a b s _)).mp w)) (h1 z)
  · intro m i c hi e k
    subst e
    refine br_f (nI_ge hi (by omega)) (sx_isStable h5 (by omega) (sp_brB (fun q => nm_r (nI_1 i) (k _ (by rw [sp_F, sp_fo_f q]))) fun q => ?_))
    have hd := sp_d_lt i s
    have hE := sp_F_lt n a b s i
    have es : sp_F n a b s (i + 1) = sp_h a s (sp_F n a b s i) (sp_d i s) := by rw [sp_F, sp_fo_t q]
    refine sx_placeOf (by omega) (by omega) ?_
    by_cases z : sp_d i s = 0
    · exact br_t ((sp_pl0 hd).mpr z) (nm_r (nI_1 i) (k _ (by rw [es, sp_h, if_pos z])))
    · refine br_f (fun w => z ((sp_pl0 hd).mp w)) ?_
      by_cases y : sp_F n a b s i = 0
      · exact br_t ((sp_pl0 hE).mpr y) (nm_r (nI_1 i) (k _ (by rw [es, sp_h, if_neg z, if_pos y])))
      · refine br_f (fun w => y ((sp_pl0 hE).mp w)) ?_
        rw [sp_plp z, sp_plp y]
        refine sx_pref0 (by omega) (by omega) (by omega) (sp_br (fun w => nm_r (nI_1 i) (k _ ?_)) fun w => nm_r (nI_1 i) (k _ ?_))
        · rw [es, sp_h, if_neg z, if_neg y, if_neg (fun c => w (sp_bt.mp c)), sp_plp y]
        · rw [es, sp_h, if_neg z, if_neg y, if_pos (sp_bt.mpr w), sp_plp z]
noncomputable def sp_tg (n : Nat) (a b : Nat → Int32) (s p : Nat) : Nat → Nat := sp_fo (sp_P n a b) (fun c x => if sp_d x s = p + 1 then c + 1 else c) 0
theorem sx_together {post : Int32 → Prop} {n : Nat} {a b : Nat → Int32} (h5 : n ≤ 5) {s p : Nat} (hs : s < n) (hp : p < n) (h : post (nI (sp_tg n a b s p (6 ^ n)))) : wpX_together post (sx_u n a b) (nI s) (nI p) := by
  have hN := sp_6 h5
  unfold wpX_together
  dsimp only
  refine sx_goodT h5 hs (br_f (by decide) (sx_goodT h5 hp (br_f (by decide) ?_)))
  refine loop_0 (fun m i (c : Int32) => wX_together_23 post (nI s) (nI p) (nI n) (nI (6 ^ n)) (sp_jo a b) m c (nI i)) (fun i c => c = nI (sp_tg n a b s p i)) (6 ^ n) 0 rfl ?_ ?_
  · intro m c e
    exact br_t (nI_le (Nat.le_refl _) (by omega)) (by rw [e]; exact h)
  · intro m i c hi e k
    subst e
    have hd := sp_d_lt i s
    refine br_f (nI_ge hi (by omega)) (sx_placeOf (by omega) (by omega) ?_)
    by_cases z : sp_d i s = p + 1
    · refine br_t ((sp_plq hd (by omega)).mpr z) (sx_isStable h5 (by omega) (sp_brB (fun q => nm_r (nI_1 i) (k _ (by rw [sp_tg, sp_fo_f q]))) fun q => ?_))
      exact nm_r (e' := nI (sp_tg n a b s p (i + 1))) (by rw [nI_1, sp_tg, sp_fo_t q, if_pos z]) (nm_r (nI_1 i) (k _ rfl))
    · refine br_f (fun w => z ((sp_plq hd (by omega)).mp w)) (nm_r (nI_1 i) (k _ ?_))
      cases q : sp_P n a b i with
      | true => rw [sp_tg, sp_fo_t q, if_neg z]
      | false => rw [sp_tg, sp_fo_f q]
def sp_al (n : Nat) (a b : Nat → Int32) (s : Nat) : Prop := ∀ x, x < 6 ^ n → sp_P n a b x = true → sp_d x s ≠ 0
theorem sx_always {post : Int32 → Prop} {n : Nat} {a b : Nat → Int32} (h5 : n ≤ 5) {s : Nat} (hs : s < n) (h : post (sp_i (sp_b (sp_al n a b s)))) : wpX_isAlwaysPaired post (sx_u n a b) (nI s) := by
  have hN := sp_6 h5
  refine loop_0 (fun m i (_ : Unit) => wX_isAlwaysPaired_2 post (nI s) (nI n) (nI (6 ^ n)) (sp_jo a b) m (nI i)) (fun i _ => ∀ x, x < i → sp_P n a b x = true → sp_d x s ≠ 0) (6 ^ n) () lt_0 ?_ ?_
  · intro m _ k
    refine br_t (nI_le (Nat.le_refl _) (by omega)) ?_
    rw [sp_i1 (p := sp_al n a b s) k] at h; exact h
  · intro m i _ hi k c
    have hd := sp_d_lt i s
    refine br_f (nI_ge hi (by omega)) (sx_placeOf (by omega) (by omega) ?_)
    by_cases z : sp_d i s = 0
    · refine br_t ((sp_pl0 hd).mpr z) (sx_isStable h5 (by omega) (sp_brB (fun q => nm_r (nI_1 i) (c () (lt_s k fun w => ?_))) fun q => ?_))
      · rw [q] at w; cases w
      · rw [sp_i0 fun w => w i hi q z] at h; exact h
    · exact br_f (fun w => z ((sp_pl0 hd).mp w)) (nm_r (nI_1 i) (c () (lt_s k fun _ => z)))
theorem sx_placed {post : Int32 → Prop} {n : Nat} {a b : Nat → Int32} (h5 : n ≤ 5) (h : post (nI (sp_cn (fun s => sp_b (sp_al n a b s)) n))) : wpX_placed post (sx_u n a b) := by
  refine loop_0 (fun m i (c : Int32) => wX_placed_4 post (nI n) (nI (6 ^ n)) (sp_jo a b) m c (nI i)) (fun i c => c = nI (sp_cn (fun s => sp_b (sp_al n a b s)) i)) n 0 rfl ?_ ?_
  · intro m c e
    exact br_t (nI_le (Nat.le_refl _) (by omega)) (by rw [e]; exact h)
  · intro m i c hi e k
    refine br_f (nI_ge hi (by omega)) (sx_always h5 hi (sp_br (fun q => nm_r (nI_1 i) (k _ (by rw [sp_cn_f (P := fun s => sp_b (sp_al n a b s)) (sp_bf.mpr q)]; exact e))) fun q => ?_))
    exact nm_r (e' := nI (sp_cn (fun s => sp_b (sp_al n a b s)) (i + 1))) (by rw [e, nI_1, sp_cn_t (P := fun s => sp_b (sp_al n a b s)) (sp_bt.mpr q)]) (nm_r (nI_1 i) (k _ rfl))
theorem sx_rank0 {post : Int32 → Prop} {n : Nat} {a b : Nat → Int32} (h5 : n ≤ 5) {s p : Nat} (hs : s < 5) (hp : p < 5) (h : post (nI (sp_rk n a b s p))) : wpX_rank post (sx_u n a b) 0 (nI s) (nI p) := by
  refine loop_0 (fun m i (c : Int32) => wX_rank_6 post 0 (nI s) (nI p) (nI n) (nI (6 ^ n)) (sp_jo a b) m c (nI i)) (fun i c => c = nI (sp_cn (fun k => sp_b (sp_fit a b s k ∧ sp_pr a s k p)) i)) n 0 rfl ?_ ?_
  · intro m c e
    exact br_t (nI_le (Nat.le_refl _) (by omega)) (by rw [e]; exact h)
  · intro m i c hi e k
    refine br_f (nI_ge hi (by omega)) (sx_fits0 hs (by omega) (sp_br (fun q => nm_r (nI_1 i) (k _ ?_)) fun q1 => sx_pref0 hs (by omega) hp (sp_br (fun q => nm_r (nI_1 i) (k _ ?_)) fun q2 => ?_)))
    · rw [sp_cn_f (P := fun k => sp_b (sp_fit a b s k ∧ sp_pr a s k p)) (sp_bf.mpr fun w => q w.1)]; exact e
    · rw [sp_cn_f (P := fun k => sp_b (sp_fit a b s k ∧ sp_pr a s k p)) (sp_bf.mpr fun w => q w.2)]; exact e
    · exact nm_r (e' := nI (sp_cn (fun k => sp_b (sp_fit a b s k ∧ sp_pr a s k p)) (i + 1))) (by rw [e, nI_1, sp_cn_t (P := fun k => sp_b (sp_fit a b s k ∧ sp_pr a s k p)) (sp_bt.mpr ⟨q1, q2⟩)]) (nm_r (nI_1 i) (k _ rfl))
theorem sx_rank1 {post : Int32 → Prop} {n : Nat} {a b : Nat → Int32} (h5 : n ≤ 5) {s p : Nat} (hs : s < 5) (hp : p < 5) (h : post (nI (sp_rq n a b s p))) : wpX_rank post (sx_u n a b) 1 (nI p) (nI s) := by
  refine loop_0 (fun m i (c : Int32) => wX_rank_6 post 1 (nI p) (nI s) (nI n) (nI (6 ^ n)) (sp_jo a b) m c (nI i)) (fun i c => c = nI (sp_cn (fun k => sp_b (sp_fit a b k p ∧ sp_pr b p k s)) i)) n 0 rfl ?_ ?_
  · intro m c e
    exact br_t (nI_le (Nat.le_refl _) (by omega)) (by rw [e]; exact h)
  · intro m i c hi e k
    refine br_f (nI_ge hi (by omega)) (sx_fits1 (by omega) hp (sp_br (fun q => nm_r (nI_1 i) (k _ ?_)) fun q1 => sx_pref1 hp (by omega) hs (sp_br (fun q => nm_r (nI_1 i) (k _ ?_)) fun q2 => ?_)))
    · rw [sp_cn_f (P := fun k => sp_b (sp_fit a b k p ∧ sp_pr b p k s)) (sp_bf.mpr fun w => q w.1)]; exact e
    · rw [sp_cn_f (P := fun k => sp_b (sp_fit a b k p ∧ sp_pr b p k s)) (sp_bf.mpr fun w => q w.2)]; exact e
    · exact nm_r (e' := nI (sp_cn (fun k => sp_b (sp_fit a b k p ∧ sp_pr b p k s)) (i + 1))) (by rw [e, nI_1, sp_cn_t (P := fun k => sp_b (sp_fit a b k p ∧ sp_pr b p k s)) (sp_bt.mpr ⟨q1, q2⟩)]) (nm_r (nI_1 i) (k _ rfl))
theorem sp_co_z {n : Nat} {a b : Nat → Int32} {x k : Nat} (z : sp_d x k = 0) : sp_co n a b x (k + 1) = sp_co n a b x k := by
  show sp_co n a b x k + (if sp_d x k = 0 then 0 else _) = _
  rw [if_pos z]; rfl
theorem sp_co_s {n : Nat} {a b : Nat → Int32} {x k : Nat} (z : sp_d x k ≠ 0) : sp_co n a b x (k + 1) = sp_co n a b x k + (sp_rk n a b k (sp_d x k - 1) + sp_rq n a b k (sp_d x k - 1)) := by
  show sp_co n a b x k + (if sp_d x k = 0 then 0 else _) = _
  rw [if_neg z]
theorem sx_cost {post : Int32 → Prop} {n : Nat} {a b : Nat → Int32} (h5 : n ≤ 5) {x : Nat} (hx : x < 2 ^ 31) (h : post (nI (sp_co n a b x n))) : wpX_costOf post (sx_u n a b) (nI x) := by
  refine loop_0 (fun m i (c : Int32) => wX_costOf_4 post (nI x) (nI n) (nI (6 ^ n)) (sp_jo a b) m c (nI i)) (fun i c => c = nI (sp_co n a b x i)) n 0 rfl ?_ ?_
  · intro m c e
    exact br_t (nI_le (Nat.le_refl _) (by omega)) (by rw [e]; exact h)
  · intro m i c hi e k
    subst e
    have hd := sp_d_lt x i
    refine br_f (nI_ge hi (by omega)) (sx_placeOf hx (by omega) ?_)
    by_cases z : sp_d x i = 0
    · exact br_t ((sp_pl0 hd).mpr z) (nm_r (nI_1 i) (k _ (by rw [sp_co_z z])))
    · refine br_f (fun w => z ((sp_pl0 hd).mp w)) ?_
      rw [sp_plp z]
      refine sx_rank0 h5 (by omega) (by omega) (sx_rank1 h5 (by omega) (by omega) ?_)
      exact nm_r (e' := nI (sp_co n a b x (i + 1))) (by rw [nI_add, nI_add, sp_co_s z]) (nm_r (nI_1 i) (k _ rfl))
noncomputable def sp_fx (n : Nat) (a b : Nat → Int32) : Nat → Nat × Nat := sp_fo (sp_P n a b) (sp_fX fun x => sp_co n a b x n) (0, 41)
theorem sp_cost_lt {n : Nat} {a b : Nat → Int32} {x : Nat} (h5 : n ≤ 5) (h : sp_P n a b x = true) : sp_co n a b x n < 41 := by
  have := sp_co_le h5 (sp_bt.mp h).1 n (Nat.le_refl n)
  omega
theorem sp_fx_le (n : Nat) (a b : Nat → Int32) (k : Nat) : (sp_fx n a b k).2 ≤ 41 :=
  sp_fo_ind (N := k) (fun _ (t : Nat × Nat) => t.2 ≤ 41) (Nat.le_refl 41) (fun k t _ _ ht => by
    unfold sp_fX
    by_cases c : sp_co n a b k n < t.2
    · rw [if_pos c]; show sp_co n a b k n ≤ 41; omega
    · rw [if_neg c]; exact ht) (fun _ _ _ _ ht => ht) k (Nat.le_refl k)
theorem sx_fairest {post : Int32 → Prop} {n : Nat} {a b : Nat → Int32} (h5 : n ≤ 5) (h : post (nI (sp_fx n a b (6 ^ n)).1)) : wpX_fairest post (sx_u n a b) := by
  have hN := sp_6 h5
  refine loop_0 (fun m i (c : Int32 × Int32) => wX_fairest_7 post (nI n) (nI (6 ^ n)) (sp_jo a b) m c.1 c.2 (nI i)) (fun i c => c = (nI (sp_fx n a b i).1, nI (sp_fx n a b i).2)) (6 ^ n) (0, 41) rfl ?_ ?_
  · intro m c e
    exact br_t (nI_le (Nat.le_refl _) (by omega)) (by rw [e]; exact h)
  · intro m i c hi e k
    subst e
    refine br_f (nI_ge hi (by omega)) (sx_isStable h5 (by omega) (sp_brB (fun q => nm_r (nI_1 i) ?_) fun q => ?_))
    · have := k (nI (sp_fx n a b i).1, nI (sp_fx n a b i).2) (by rw [sp_fx, sp_fo_f q])
      exact this
    · have hl := sp_fx_le n a b i
      have hc := sp_cost_lt h5 q
      refine sx_cost h5 (by omega) (pk_le (sp_fx n a b i).2 (sp_co n a b i n) (fun w => nm_r (nI_1 i) ?_) (fun w => nm_r (nI_1 i) ?_))
      · have := k (nI (sp_fx n a b i).1, nI (sp_fx n a b i).2) (by
          have e : sp_fx n a b (i + 1) = sp_fx n a b i := by
            rw [sp_fx, sp_fo_t q, sp_fX, if_neg (by show ¬ sp_co n a b i n < (sp_fx n a b i).2; omega)]
          rw [e])
        exact this
      · have := k (nI i, nI (sp_co n a b i n)) (by
          have e : sp_fx n a b (i + 1) = (i, sp_co n a b i n) := by
            rw [sp_fx, sp_fo_t q, sp_fX, if_pos (by show sp_co n a b i n < (sp_fx n a b i).2; omega)]
          rw [e])
        exact this
theorem sx_leastCost {post : Int32 → Prop} {n : Nat} {a b : Nat → Int32} (h5 : n ≤ 5) (hq : (sp_fx n a b (6 ^ n)).1 < 2 ^ 31) (h : post (nI (sp_co n a b (sp_fx n a b (6 ^ n)).1 n))) : wpX_leastCost post (sx_u n a b) := by
  unfold wpX_leastCost
  dsimp only
  exact sx_fairest h5 (sx_cost h5 hq h)
theorem sp_bw_s (a : Nat → Int32) (x y k : Nat) : sp_bw a x y (k + 1) = sp_bw a x y k + sp_g a k (sp_d x k) (sp_d y k) * 6 ^ k := rfl
theorem sx_betterL {post : Int32 → Prop} {n : Nat} {a b : Nat → Int32} (h5 : n ≤ 5) {x y : Nat} (hx : x < 2 ^ 31) (hy : y < 2 ^ 31) (h : post (nI (sp_bw a x y n))) : ∃ m, wX_better_33 post (nI x) (nI y) (nI n) (nI (6 ^ n)) (sp_jo a b) m 0 1 0 := by
  refine loop_0 (fun m i (c : Int32 × Int32) => wX_better_33 post (nI x) (nI y) (nI n) (nI (6 ^ n)) (sp_jo a b) m c.1 c.2 (nI i)) (fun i c => c = (nI (sp_bw a x y i), nI (6 ^ i))) n (0, 1) rfl ?_ ?_
  · intro m c e
    exact br_t (nI_le (Nat.le_refl _) (by omega)) (by rw [e]; exact h)
  · intro m i c hi e k
    subst e
    refine br_f (nI_ge hi (by omega)) (sx_placeOf hx (by omega) (sx_placeOf hy (by omega) (sx_ppl (by omega) (sp_d_lt x i) (sp_d_lt y i) ?_)))
    refine nm_r (e' := nI (sp_bw a x y (i + 1))) ?_ (nm_r (e' := nI (6 ^ (i + 1))) ?_ (nm_r (nI_1 i) (k (nI (sp_bw a x y (i + 1)), nI (6 ^ (i + 1))) rfl)))
    · rw [Int32.sub_add_cancel, pk_mul, nI_add, sp_bw_s]
    · rw [show (6 : Int32) = nI 6 from rfl, pk_mul, Nat.pow_succ]
theorem sx_better {post : Int32 → Prop} {n : Nat} {a b : Nat → Int32} (h5 : n ≤ 5) (v w : Int32)
    (h : ∀ r q, sp_nth (sp_P n a b) (6 ^ n) v r → sp_nth (sp_P n a b) (6 ^ n) w q → (r < 0 → post (-1)) ∧ (¬ r < 0 → (0 ≤ q → ∃ m, wX_better_33 post r q (nI n) (nI (6 ^ n)) (sp_jo a b) m 0 1 0) ∧ (¬ 0 ≤ q → post (-1)))) : wpX_better post (sx_u n a b) v w := by
  unfold wpX_better
  dsimp only
  exact sx_stable h5 v fun r hr => sx_stable h5 w fun q hq => h r q hr hq
