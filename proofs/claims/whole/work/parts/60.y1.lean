/-! the walks of Y, from the small ones up to the list -/
abbrev sy_v (n : Nat) (fo : Int32) (a b pl sk nu : Nat → Int32) : SY := (nI n, fo, a, b, pl, sk, nu)
theorem sy_ix (s p : Nat) : (5 : Int32) * nI s + nI p = nI (5 * s + p) := by
  rw [show (5 : Int32) = nI 5 from rfl, pk_mul, nI_add]
theorem sy_badT {post : Int32 → Prop} {n : Nat} {fo : Int32} {a b pl sk nu : Nat → Int32} (h5 : n ≤ 5) {s : Nat} (hs : s < n) (h : post 0) : wpY_bad post (sy_v n fo a b pl sk nu) (nI s) :=
  br_f (nI_pos (by omega)) (br_f (nI_ge hs (by omega)) (br_t (nI_le (b := 4) (by omega) (by decide)) h))
theorem sy_badF {post : Int32 → Prop} {n : Nat} {fo : Int32} {a b pl sk nu : Nat → Int32} {x : Int32} (hx : x < 0 ∨ nI n ≤ x) (h : post 1) : wpY_bad post (sy_v n fo a b pl sk nu) x := by
  by_cases h0 : x < 0
  · exact br_t h0 h
  · exact br_f h0 (br_t (hx.resolve_left h0) h)
theorem sy_fits {post : Int32 → Prop} {n : Nat} {fo : Int32} {a b pl sk nu : Nat → Int32} {s p : Nat} (hs : s < 5) (hp : p < 5) (h : post (sp_i (sp_b (sp_fit a b s p)))) : wpY_fits post (sy_v n fo a b pl sk nu) (nI s) (nI p) := by
  unfold wpY_fits
  dsimp only
  rw [sy_ix s p, sy_ix p s, nI_clamp (show 5 * s + p < 2 ^ 31 by omega), nI_clamp (show 5 * p + s < 2 ^ 31 by omega)]
  refine ⟨vp_in_nI (by omega) (by decide), ?_⟩
  by_cases c1 : a (5 * s + p) ≤ 0
  · refine br_t c1 ?_
    rw [sp_i0 fun z => Int32.not_lt.mpr c1 z.1] at h; exact h
  · refine br_f c1 ⟨vp_in_nI (by omega) (by decide), ?_⟩
    by_cases c2 : b (5 * p + s) ≤ 0
    · refine br_t c2 ?_
      rw [sp_i0 fun z => Int32.not_lt.mpr c2 z.2] at h; exact h
    · refine br_f c2 ?_
      rw [sp_i1 ⟨Int32.not_le.mp c1, Int32.not_le.mp c2⟩] at h; exact h
theorem sy_sp {post : Int32 → Prop} {n : Nat} {fo : Int32} {a b pl sk nu : Nat → Int32} {s p q : Nat} (hs : s < 5) (hp : p < 5) (hq : q < 5) (h : post (sp_i (sp_b (sp_pr a s p q)))) : wpY_seekerPrefers post (sy_v n fo a b pl sk nu) (nI s) (nI p) (nI q) := by
  unfold wpY_seekerPrefers
  dsimp only
  rw [sy_ix s p, sy_ix s q, nI_clamp (show 5 * s + p < 2 ^ 31 by omega), nI_clamp (show 5 * s + q < 2 ^ 31 by omega)]
  exact ⟨vp_in_nI (by omega) (by decide), fun x ex => ⟨vp_in_nI (by omega) (by decide), fun y ey => sx_cmp ex ey rfl rfl hp hq h⟩⟩
theorem sy_pp {post : Int32 → Prop} {n : Nat} {fo : Int32} {a b pl sk nu : Nat → Int32} {p s t : Nat} (hp : p < 5) (hs : s < 5) (ht : t < 5) (h : post (sp_i (sp_b (sp_pr b p s t)))) : wpY_placePrefers post (sy_v n fo a b pl sk nu) (nI p) (nI s) (nI t) := by
  unfold wpY_placePrefers
  dsimp only
  rw [sy_ix p s, sy_ix p t, nI_clamp (show 5 * p + s < 2 ^ 31 by omega), nI_clamp (show 5 * p + t < 2 ^ 31 by omega)]
  exact ⟨vp_in_nI (by omega) (by decide), fun x ex => ⟨vp_in_nI (by omega) (by decide), fun y ey => sx_cmp ex ey rfl rfl hs ht h⟩⟩
theorem sp_pln {d n : Nat} (h : d < 6) (hn : n < 6) : nI d - 1 < nI n ↔ d ≤ n := by
  have : ∀ d, d < 6 → ∀ n, n < 6 → (nI d - 1 < nI n ↔ d ≤ n) := by decide +kernel
  exact this d h n hn
theorem sy_read {post : Int32 → SY → Prop} {n : Nat} {fo : Int32} {a b pl sk nu : Nat → Int32} (h5 : n ≤ 5) {x : Nat} (hx : x < 2 ^ 31)
    (hf : ¬ sp_M n a b x → ∀ pl' sk', post 0 (sy_v n fo a b pl' sk' nu)) (ht : sp_M n a b x → ∀ pl' sk', sp_G n x pl' sk' → post 1 (sy_v n fo a b pl' sk' nu)) : wpY_read post (sy_v n fo a b pl sk nu) (nI x) := by
  refine br_t (nI_pos' hx) ?_
  refine loop_0 (fun m i (c : (Nat → Int32) × (Nat → Int32)) => wY_read_10 post (nI x) (nI n) fo m (nI i) a b c.1 c.2 nu) (fun i c => ∀ t, t < i → c.1 t = -1 ∧ c.2 t = -1) 8 (pl, sk) lt_0 ?_ ?_
  · intro m c k
    refine br_t (nI_le (Nat.le_refl 8) (by decide)) ?_
    refine loop_0 (fun m i (c : Int32 × (Nat → Int32) × (Nat → Int32)) => wY_read_38 post (nI n) fo m c.1 (nI i) a b c.2.1 c.2.2 nu) (fun i c => c.1 = nI (x / 6 ^ i) ∧ sp_RI n a b x i c.2.1 c.2.2) n (nI x, c.1, c.2) ⟨by rw [Nat.pow_zero, Nat.div_one], sp_RI_0 (fun t h => (k t h).1) (fun t h => (k t h).2)⟩ ?_ ?_
    · intro m' c' ⟨e, hR⟩
      refine br_t (nI_le (Nat.le_refl n) (by omega)) ?_
      unfold wY_read_124
      rw [e]
      refine pk_eq (x / 6 ^ n) 0 (fun z => ?_) (fun z => ?_) rfl rfl (Nat.lt_of_le_of_lt (Nat.div_le_self _ _) hx)
      · exact ht (sp_M_C.mpr ⟨sp_lt6.mp z, hR.1⟩) _ _ (sp_RI_G h5 hR)
      · exact hf (fun w => z (sp_lt6.mpr w.1)) _ _
    · intro m' i c' hi ⟨e, hR⟩ k'
      obtain ⟨r, pl', sk'⟩ := c'
      have hd := sp_d_lt x i
      have fail : ¬ sp_C n a b x i → ∀ pl' sk', post 0 (sy_v n fo a b pl' sk' nu) := fun z => hf fun w => z ((sp_M_C.mp w).2 i hi)
      refine br_f (nI_ge hi (by omega)) (br_f (nI_ge (b := 5) (by omega) (by decide)) ⟨sx_6, nm_r (e' := nI (sp_d x i) - 1) (by rw [e, sx_dig hx]) ⟨sx_6, nm_r (e' := nI (x / 6 ^ (i + 1))) (by rw [e, sx_div hx]) ?_⟩⟩)
      by_cases hn : sp_d x i ≤ n
      · refine br_t ((sp_pln hd (by omega)).mpr hn) ?_
        by_cases z : sp_d x i = 0
        · exact br_t ((sp_pll hd).mpr z) (nm_r (nI_1 i) (k' (nI (x / 6 ^ (i + 1)), pl', sk') ⟨rfl, sp_RI_z hR (by omega) z⟩))
        · refine br_f (fun w => z ((sp_pll hd).mp w)) ?_
          rw [sp_plp z, nI_clamp (show sp_d x i - 1 < 2 ^ 31 by omega)]
          refine ⟨vp_in_nI (by omega) (by decide), ?_⟩
          rcases hR.2.2.2 (sp_d x i - 1) (by omega) with ⟨t, t1, t2, t3⟩ | ⟨t1, t2⟩
          · refine br_t ?_ (fail (fun hC => (hC z).2.2 t t1 (by omega)) _ _)
            show (0 : Int32) ≤ sk' (sp_d x i - 1)
            have t3' : sk' (sp_d x i - 1) = nI t := t3
            rw [t3']; exact nI_pos' (by omega)
          · refine br_f ?_ ?_
            · show ¬ (0 : Int32) ≤ sk' (sp_d x i - 1)
              have t2' : sk' (sp_d x i - 1) = -1 := t2
              rw [t2']; decide
            · refine sy_fits (by omega) (by omega) (sp_br (fun w => fail (fun hC => w (hC z).2.1) _ _) fun w => ?_)
              refine ⟨vp_in_nI (by omega) (by decide), nm_r (e' := upd pl' i (nI (sp_d x i) - 1)) (by rw [nI_clamp (by omega), sp_plp z]) ⟨vp_in_nI (by omega) (by decide), nm_r (e' := upd sk' (sp_d x i - 1) (nI i)) rfl (nm_r (nI_1 i) (k' (nI (x / 6 ^ (i + 1)), upd pl' i (nI (sp_d x i) - 1), upd sk' (sp_d x i - 1) (nI i)) ⟨rfl, ?_⟩))⟩⟩
              exact sp_RI_s hR (by omega) z fun _ => ⟨hn, w, fun t' h1 h2 => t1 t' h1 (by omega)⟩
      · exact br_f (fun w => hn ((sp_pln hd (by omega)).mp w)) (fail (fun hC => hn (hC (by omega)).1) _ _)
  · intro m i c hi h k
    refine br_f (nI_ge hi (by decide)) ⟨vp_in_nI hi (by decide), nm_r (e' := upd c.1 i (-1)) (by rw [nI_clamp (by omega)]) ⟨vp_in_nI hi (by decide), nm_r (e' := upd c.2 i (-1)) (by rw [nI_clamp (by omega)]) (nm_r (nI_1 i) (k (upd c.1 i (-1), upd c.2 i (-1)) ?_))⟩⟩
    refine lt_s (fun t ht => ⟨?_, ?_⟩) ⟨pk_us, pk_us⟩
    · show upd c.1 i (-1) t = -1
      rw [pk_un (by omega)]; exact (h t ht).1
    · show upd c.2 i (-1) t = -1
      rw [pk_un (by omega)]; exact (h t ht).2
theorem sy_blocks47 {post : Int32 → Prop} {n : Nat} {fo : Int32} {a b pl sk nu : Nat → Int32} (h5 : n ≤ 5) {x s p : Nat} (hM : sp_M n a b x) (hG : sp_G n x pl sk) (hs : s < n) (hp : p < n) (c : post (sp_i (sp_b (∀ t, t < n → sp_d x t = p + 1 → sp_pr b p s t)))) :
    wY_blocks_47 post (nI s) (nI p) (nI n) fo a b pl sk nu := by
  unfold wY_blocks_47
  rw [nI_clamp (show p < 2 ^ 31 by omega)]
  refine ⟨vp_in_nI (by omega) (by decide), ?_⟩
  rcases hG.2 p hp with ⟨t, t1, t2, t3⟩ | ⟨t1, t2⟩
  · rw [t3]
    refine br_f (nI_pos (by omega)) ⟨vp_in_nI (by omega) (by decide), sy_pp (by omega) (by omega) (by omega) (sp_br (fun w => ?_) fun w => ?_)⟩
    · rw [sp_i0 fun z => w (z t t1 t2)] at c; exact c
    · rw [sp_i1 fun t' k1 k2 => by
        have : t = t' := hM.2.2 t t' t1 k1 (by omega) (by omega)
        subst this; exact w] at c
      exact c
  · rw [t2]
    refine br_t (by decide) ?_
    rw [sp_i1 fun t k1 k2 => absurd k2 (t1 t k1)] at c; exact c
theorem sy_blocks {post : Int32 → Prop} {n : Nat} {fo : Int32} {a b pl sk nu : Nat → Int32} (h5 : n ≤ 5) {x s p : Nat} (hM : sp_M n a b x) (hG : sp_G n x pl sk) (hs : s < n) (hp : p < n) (h : post (sp_i (sp_b (sp_Bk n a b x s p)))) : wpY_blocks post (sy_v n fo a b pl sk nu) (nI s) (nI p) := by
  have hd := sp_d_lt x s
  unfold wpY_blocks
  dsimp only
  rw [nI_clamp (show s < 2 ^ 31 by omega), hG.1 s hs]
  refine sy_fits (by omega) (by omega) (sp_br (fun w => ?_) fun hf => ⟨vp_in_nI (by omega) (by decide), ?_⟩)
  · rw [sp_i0 fun z => w z.1] at h; exact h
  · by_cases y : sp_d x s = p + 1
    · refine br_t ((sp_plq hd (by omega)).mpr y) ?_
      rw [sp_i0 fun z => ?_] at h
      · exact h
      · rcases z.2.1 with k | k
        · omega
        · rw [y] at k; exact sp_pr_irr k
    · refine br_f (fun w => y ((sp_plq hd (by omega)).mp w)) ⟨vp_in_nI (by omega) (by decide), ?_⟩
      by_cases z : sp_d x s = 0
      · refine br_t ((sp_pll hd).mpr z) (sy_blocks47 h5 hM hG hs hp ?_)
        rw [sp_bc (q := ∀ t, t < n → sp_d x t = p + 1 → sp_pr b p s t) ⟨fun w => w.2.2, fun w => ⟨hf, Or.inl z, w⟩⟩] at h; exact h
      · refine br_f (fun w => z ((sp_pll hd).mp w)) ⟨vp_in_nI (by omega) (by decide), ?_⟩
        rw [sp_plp z]
        have hle := (hM.2.1 s hs z).1
        refine sy_sp (by omega) (by omega) (by omega) (sp_br (fun w => ?_) fun w => sy_blocks47 h5 hM hG hs hp ?_)
        · rw [sp_i0 fun q => q.2.1.elim z w] at h; exact h
        · rw [sp_bc (q := ∀ t, t < n → sp_d x t = p + 1 → sp_pr b p s t) ⟨fun q => q.2.2, fun q => ⟨hf, Or.inr w, q⟩⟩] at h; exact h
theorem sy_blockers {post : Int32 → Prop} {n : Nat} {fo : Int32} {a b pl sk nu : Nat → Int32} (h5 : n ≤ 5) {x : Nat} (hM : sp_M n a b x) (hG : sp_G n x pl sk) (h : post (nI (sp_k2 n a b x n))) : wpY_blockers post (sy_v n fo a b pl sk nu) := by
  refine loop_0 (fun m i (c : Int32) => wY_blockers_4 post (nI n) fo a b pl sk nu m c (nI i)) (fun i c => c = nI (sp_k2 n a b x i)) n 0 rfl ?_ ?_
  · intro m c e
    exact br_t (nI_le (Nat.le_refl _) (by omega)) (by rw [e]; exact h)
  · intro m i c hi e k
    refine br_f (nI_ge hi (by omega)) (br_f (nI_ge (b := 5) (by omega) (by decide)) ?_)
    refine loop_0 (fun m' j (c' : Int32) => wY_blockers_19 post (wY_blockers_4 post (nI n) fo a b pl sk nu m) (nI i) (nI n) fo a b pl sk nu m' c' (nI j)) (fun j c' => c' = nI (sp_k2 n a b x i + sp_cn (fun p => sp_b (sp_Bk n a b x i p)) j)) n c e ?_ ?_
    · intro m' c' e'
      exact br_t (nI_le (Nat.le_refl _) (by omega)) (nm_r (nI_1 i) (k _ e'))
    · intro m' j c' hj e' k'
      refine br_f (nI_ge hj (by omega)) (br_f (nI_ge (b := 5) (by omega) (by decide)) (sy_blocks h5 hM hG hi hj (sp_br (fun w => nm_r (nI_1 j) (k' _ ?_)) fun w => ?_)))
      · rw [sp_cn_f (P := fun p => sp_b (sp_Bk n a b x i p)) (sp_bf.mpr w)]; exact e'
      · refine nm_r (e' := nI (sp_k2 n a b x i + sp_cn (fun p => sp_b (sp_Bk n a b x i p)) (j + 1))) ?_ (nm_r (nI_1 j) (k' _ rfl))
        rw [e', nI_1, sp_cn_t (P := fun p => sp_b (sp_Bk n a b x i p)) (sp_bt.mpr w), Nat.add_assoc]
/-- the list holds the stable ones in order -/
def sp_L (n : Nat) (a b nu : Nat → Int32) : Prop := ∀ x, x < 6 ^ n → sp_P n a b x = true → nu (sp_cn (sp_P n a b) x) = nI x
theorem sy_list {post : SY → Prop} {n : Nat} {fo : Int32} {a b pl sk nu : Nat → Int32} (h2 : 2 ≤ n) (h5 : n ≤ 5) (h : ∀ pl' sk' nu', sp_L n a b nu' → post (sy_v n (nI (sp_cn (sp_P n a b) (6 ^ n))) a b pl' sk' nu')) : wpY_list post (sy_v n fo a b pl sk nu) := by
  have hN := sp_6 h5
  have hF := sp_few h2 h5 a b
  refine loop_0 (fun m i (c : Int32) => wY_list_9 post (nI n) 0 a b pl sk nu m c (nI i)) (fun i c => c = nI (6 ^ i)) n 1 rfl ?_ ?_
  · intro m c e
    subst e
    refine br_t (nI_le (Nat.le_refl _) (by omega)) ?_
    refine loop_0 (fun m i (c : Int32 × (Nat → Int32) × (Nat → Int32) × (Nat → Int32)) => wY_list_30 post (nI (6 ^ n)) m (nI i) (nI n) c.1 a b c.2.1 c.2.2.1 c.2.2.2)
      (fun i c => c.1 = nI (sp_cn (sp_P n a b) i) ∧ ∀ x, x < i → sp_P n a b x = true → c.2.2.2 (sp_cn (sp_P n a b) x) = nI x) (6 ^ n) (0, pl, sk, nu) ⟨rfl, lt_0⟩ ?_ ?_
    · intro m' c ⟨e, k⟩
      obtain ⟨f, pl', sk', nu'⟩ := c
      have e' : f = nI (sp_cn (sp_P n a b) (6 ^ n)) := e
      subst e'
      exact br_t (nI_le (Nat.le_refl _) (by omega)) (h pl' sk' nu' k)
    · intro m' i c hi ⟨e, k⟩ c'
      obtain ⟨f, pl', sk', nu'⟩ := c
      have e' : f = nI (sp_cn (sp_P n a b) i) := e
      subst e'
      have skip : sp_P n a b i = false → ∀ pl'' sk'', wY_list_30 post (nI (6 ^ n)) m' (nI (i + 1)) (nI n) (nI (sp_cn (sp_P n a b) i)) a b pl'' sk'' nu' := fun q pl'' sk'' =>
        c' (nI (sp_cn (sp_P n a b) i), pl'', sk'', nu') ⟨by show _ = _; rw [sp_cn_f q], lt_s k fun w => by rw [q] at w; cases w⟩
      refine br_f (nI_ge hi (by omega)) (sy_read h5 (by omega) (fun w pl'' sk'' => ?_) (fun hM pl'' sk'' hG => ?_))
      · exact br_t rfl (nm_r (nI_1 i) (skip (sp_bf.mpr fun z => w z.1) _ _))
      · refine br_f (by decide) (sy_blockers h5 hM hG ?_)
        have hk := sp_k2_le n a b i n
        have hk' : sp_k2 n a b i n ≤ 25 := Nat.le_trans hk (Nat.mul_le_mul h5 h5)
        refine pk_eq (sp_k2 n a b i n) 0 (fun z => ?_) (fun z => ?_)
        · have q : sp_P n a b i = true := sp_bt.mpr (sp_St_k2.mpr ⟨hM, z⟩)
          have hlt := sp_cn_lt q hi
          refine br_f (nI_ge (b := 256) (by omega) (by decide)) ⟨vp_in_nI (by omega) (by decide), nm_r (e' := upd nu' (sp_cn (sp_P n a b) i) (nI i)) (by rw [nI_clamp (by omega)]) (nm_r (e' := nI (sp_cn (sp_P n a b) (i + 1))) (by rw [nI_1, sp_cn_t q]) (nm_r (nI_1 i) ?_))⟩
          refine c' (nI (sp_cn (sp_P n a b) (i + 1)), pl'', sk'', upd nu' (sp_cn (sp_P n a b) i) (nI i)) ⟨rfl, lt_s (fun y hy py => ?_) fun _ => pk_us⟩
          show upd nu' (sp_cn (sp_P n a b) i) (nI i) (sp_cn (sp_P n a b) y) = nI y
          have := sp_cn_lt py hy
          rw [pk_un (by omega)]; exact k y hy py
        · exact nm_r (nI_1 i) (skip (sp_bf.mpr fun w => z (sp_St_k2.mp w).2) _ _)
  · intro m i c hi e k
    refine br_f (nI_ge hi (by omega)) (nm_r (e' := nI (6 ^ (i + 1))) ?_ (nm_r (nI_1 i) (k _ rfl)))
    rw [e, show (6 : Int32) = nI 6 from rfl, pk_mul, Nat.pow_succ, Nat.mul_comm]
