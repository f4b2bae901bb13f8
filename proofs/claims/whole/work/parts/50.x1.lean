/-! the walks of X, from the small ones up to isStable; the state is (nI n, nI (6 ^ n), sp_jo a b) -/
abbrev sx_u (n : Nat) (a b : Nat → Int32) : SX := (nI n, nI (6 ^ n), sp_jo a b)
theorem sx_s0 (s p : Nat) : (((0 : Int32) * 5 + nI s) * 5) + nI p = nI (5 * s + p) := by
  rw [Int32.zero_mul, Int32.zero_add, show (5 : Int32) = nI 5 from rfl, pk_mul, nI_add, Nat.mul_comm]
theorem sx_s1 (s p : Nat) : (((1 : Int32) * 5 + nI s) * 5) + nI p = nI (25 + (5 * s + p)) := by
  rw [Int32.one_mul, show (5 : Int32) = nI 5 from rfl, nI_add, pk_mul, nI_add]
  exact congrArg nI (by omega)
theorem sx_slot0 {P : Int32 → Prop} {s p : Nat} (h : P (nI (5 * s + p))) : wpX_slot P 0 (nI s) (nI p) := by
  unfold wpX_slot; rw [sx_s0]; exact h
theorem sx_slot1 {P : Int32 → Prop} {s p : Nat} (h : P (nI (25 + (5 * s + p)))) : wpX_slot P 1 (nI s) (nI p) := by
  unfold wpX_slot; rw [sx_s1]; exact h
theorem sx_e0 {a b : Nat → Int32} {s p : Nat} (hs : s < 5) (hp : p < 5) : sp_jo a b (nI (5 * s + p)).toNatClampNeg = a (5 * s + p) := by
  rw [nI_clamp (by omega), sp_jo_lo (by omega)]
theorem sx_e1 {a b : Nat → Int32} {s p : Nat} (hs : s < 5) (hp : p < 5) : sp_jo a b (nI (25 + (5 * s + p))).toNatClampNeg = b (5 * s + p) := by
  rw [nI_clamp (by omega), sp_jo_hi]
theorem sx_v0 {s p : Nat} (hs : s < 5) (hp : p < 5) : vp_in (nI (5 * s + p)) 50 := vp_in_nI (by omega) (by decide)
theorem sx_v1 {s p : Nat} (hs : s < 5) (hp : p < 5) : vp_in (nI (25 + (5 * s + p))) 50 := vp_in_nI (by omega) (by decide)
theorem sx_good {post : Int32 → Prop} {n : Nat} {a b : Nat → Int32} (h5 : n ≤ 5) (x : Int32) (f : (x < 0 ∨ nI n ≤ x) → post 0) (t : ∀ j, j < n → x = nI j → post 1) : wpX_isGood post (sx_u n a b) x := by
  rcases pk_ix x (n := n) (by omega) with h | h | ⟨j, hj, rfl⟩
  · exact br_t h (f (Or.inl h))
  · by_cases h0 : x < 0
    · exact br_t h0 (f (Or.inl h0))
    · exact br_f h0 (br_t h (f (Or.inr h)))
  · exact br_f (nI_pos (by omega)) (br_f (nI_ge hj (by omega)) (t j hj rfl))
theorem sx_fits0 {post : Int32 → Prop} {n : Nat} {a b : Nat → Int32} {s p : Nat} (hs : s < 5) (hp : p < 5) (h : post (sp_i (sp_b (sp_fit a b s p)))) : wpX_fits post (sx_u n a b) 0 (nI s) (nI p) := by
  refine nm_r (e' := 1) (by decide) ?_
  refine sx_slot0 ⟨sx_v0 hs hp, ?_⟩
  by_cases c1 : a (5 * s + p) ≤ 0
  · refine br_t (by rw [sx_e0 hs hp]; exact c1) ?_
    rw [sp_i0 fun z => Int32.not_lt.mpr c1 z.1] at h; exact h
  · refine br_f (by rw [sx_e0 hs hp]; exact c1) ?_
    refine sx_slot1 ⟨sx_v1 hp hs, ?_⟩
    by_cases c2 : b (5 * p + s) ≤ 0
    · refine br_t (by rw [sx_e1 hp hs]; exact c2) ?_
      rw [sp_i0 fun z => Int32.not_lt.mpr c2 z.2] at h; exact h
    · refine br_f (by rw [sx_e1 hp hs]; exact c2) ?_
      rw [sp_i1 ⟨Int32.not_le.mp c1, Int32.not_le.mp c2⟩] at h; exact h
theorem sx_fits1 {post : Int32 → Prop} {n : Nat} {a b : Nat → Int32} {s p : Nat} (hs : s < 5) (hp : p < 5) (h : post (sp_i (sp_b (sp_fit a b s p)))) : wpX_fits post (sx_u n a b) 1 (nI p) (nI s) := by
  refine nm_r (e' := 0) (by decide) ?_
  refine sx_slot1 ⟨sx_v1 hp hs, ?_⟩
  by_cases c2 : b (5 * p + s) ≤ 0
  · refine br_t (by rw [sx_e1 hp hs]; exact c2) ?_
    rw [sp_i0 fun z => Int32.not_lt.mpr c2 z.2] at h; exact h
  · refine br_f (by rw [sx_e1 hp hs]; exact c2) ?_
    refine sx_slot0 ⟨sx_v0 hs hp, ?_⟩
    by_cases c1 : a (5 * s + p) ≤ 0
    · refine br_t (by rw [sx_e0 hs hp]; exact c1) ?_
      rw [sp_i0 fun z => Int32.not_lt.mpr c1 z.1] at h; exact h
    · refine br_f (by rw [sx_e0 hs hp]; exact c1) ?_
      rw [sp_i1 ⟨Int32.not_le.mp c1, Int32.not_le.mp c2⟩] at h; exact h
/-- the branches of a preference, as both sides print them -/
theorem sx_cmp {post : Int32 → Prop} {c : Nat → Int32} {s p q : Nat} {x y P Q : Int32} (hx : x = c (5 * s + p)) (hy : y = c (5 * s + q)) (hP : P = nI p) (hQ : Q = nI q) (hp : p < 5) (hq : q < 5)
    (h : post (sp_i (sp_b (sp_pr c s p q)))) : (y < x → post 1) ∧ (¬ y < x → (x = y → (Q ≤ P → post 0) ∧ (¬ Q ≤ P → post 1)) ∧ (¬ x = y → post 0)) := by
  subst hx hy hP hQ
  by_cases c1 : c (5 * s + q) < c (5 * s + p)
  · refine br_t c1 ?_
    rw [sp_i1 (p := sp_pr c s p q) (Or.inl c1)] at h; exact h
  · refine br_f c1 ?_
    by_cases c2 : c (5 * s + p) = c (5 * s + q)
    · refine br_t c2 (pk_le q p (fun k => ?_) (fun k => ?_))
      · rw [sp_i0 fun z => z.elim c1 fun w => by omega] at h; exact h
      · rw [sp_i1 (p := sp_pr c s p q) (Or.inr ⟨c2, k⟩)] at h; exact h
    · refine br_f c2 ?_
      rw [sp_i0 fun z => z.elim c1 fun w => c2 w.1] at h; exact h
theorem sx_pref0 {post : Int32 → Prop} {n : Nat} {a b : Nat → Int32} {s p q : Nat} (hs : s < 5) (hp : p < 5) (hq : q < 5) (h : post (sp_i (sp_b (sp_pr a s p q)))) : wpX_prefers post (sx_u n a b) 0 (nI s) (nI p) (nI q) := by
  unfold wpX_prefers
  dsimp only
  refine sx_slot0 ⟨sx_v0 hs hp, fun x ex => sx_slot0 ⟨sx_v0 hs hq, fun y ey => ?_⟩⟩
  exact sx_cmp (ex.trans (sx_e0 hs hp)) (ey.trans (sx_e0 hs hq)) rfl rfl hp hq h
theorem sx_pref1 {post : Int32 → Prop} {n : Nat} {a b : Nat → Int32} {p s t : Nat} (hp : p < 5) (hs : s < 5) (ht : t < 5) (h : post (sp_i (sp_b (sp_pr b p s t)))) : wpX_prefers post (sx_u n a b) 1 (nI p) (nI s) (nI t) := by
  unfold wpX_prefers
  dsimp only
  refine sx_slot1 ⟨sx_v1 hp hs, fun x ex => sx_slot1 ⟨sx_v1 hp ht, fun y ey => ?_⟩⟩
  exact sx_cmp (ex.trans (sx_e1 hp hs)) (ey.trans (sx_e1 hp ht)) rfl rfl hs ht h
theorem sx_6 : ¬ (6 : Int32) = 0 := by decide
theorem sx_dig {x s : Nat} (hx : x < 2 ^ 31) : (nI (x / 6 ^ s) - nI (x / 6 ^ s) / 6 * 6) - 1 = nI (sp_d x s) - 1 := by
  rw [show (6 : Int32) = nI 6 from rfl, pk_rem (Nat.lt_of_le_of_lt (Nat.div_le_self _ _) hx) (by decide) (by decide)]
  rfl
theorem sx_div {x s : Nat} (hx : x < 2 ^ 31) : nI (x / 6 ^ s) / 6 = nI (x / 6 ^ (s + 1)) := by
  rw [show (6 : Int32) = nI 6 from rfl, pk_div (Nat.lt_of_le_of_lt (Nat.div_le_self _ _) hx) (by decide) (by decide), sp_dv]
theorem sx_placeOf {post : Int32 → Prop} {x s : Nat} (hx : x < 2 ^ 31) (hs : s < 2 ^ 31) (h : post (nI (sp_d x s) - 1)) : wpX_placeOf post (nI s) (nI x) := by
  refine loop_0 (fun m i (r : Int32) => wX_placeOf_4 post (nI s) m r (nI i)) (fun i r => r = nI (x / 6 ^ i)) s (nI x) (by rw [Nat.pow_zero, Nat.div_one]) ?_ ?_
  · intro m r e
    refine br_t (nI_le (Nat.le_refl s) hs) ⟨sx_6, ?_⟩
    rw [e, sx_dig hx]; exact h
  · intro m i r hi e k
    refine br_f (nI_ge hi hs) ⟨sx_6, nm_r (e' := nI (x / 6 ^ (i + 1))) (by rw [e, sx_div hx]) (nm_r (nI_1 i) ?_)⟩
    exact k _ rfl
theorem sx_seekerOf {post : Int32 → Prop} {n : Nat} {a b : Nat → Int32} {x p : Nat} (h5 : n ≤ 5) (hx : x < 2 ^ 31) (hp : p < 5) (h : ∀ r, sp_so n x p r → post r) : wpX_seekerOf post (sx_u n a b) (nI p) (nI x) := by
  refine loop_0 (fun m i (r : Int32) => wX_seekerOf_5 post (nI p) (nI n) (nI (6 ^ n)) (sp_jo a b) m r (nI i)) (fun i r => r = nI (x / 6 ^ i) ∧ ∀ t, t < i → sp_d x t ≠ p + 1) n (nI x) ⟨by rw [Nat.pow_zero, Nat.div_one], lt_0⟩ ?_ ?_
  · intro m r ⟨e, k⟩
    exact br_t (nI_le (Nat.le_refl n) (by omega)) (h _ (Or.inr ⟨k, rfl⟩))
  · intro m i r hi ⟨e, k⟩ c
    refine br_f (nI_ge hi (by omega)) ⟨sx_6, ?_⟩
    subst e
    by_cases z : sp_d x i = p + 1
    · refine br_t ?_ (h _ (Or.inl ⟨i, hi, z, k, rfl⟩))
      rw [sx_dig hx]; exact (sp_plq (sp_d_lt x i) (by omega)).mpr z
    · refine br_f ?_ ⟨sx_6, nm_r (sx_div hx) (nm_r (nI_1 i) (c _ ⟨rfl, lt_s k z⟩))⟩
      rw [sx_dig hx]; exact fun w => z ((sp_plq (sp_d_lt x i) (by omega)).mp w)
theorem sx_isMatching {post : Int32 → Prop} {n : Nat} {a b : Nat → Int32} (h5 : n ≤ 5) {x : Nat} (hx : x < 2 ^ 31) (h : post (sp_i (sp_b (sp_M n a b x)))) : wpX_isMatching post (sx_u n a b) (nI x) := by
  have hN := sp_6 h5
  refine br_f (nI_pos hx) (pk_lt x (6 ^ n) (fun hlt => ?_) (fun hge => ?_) rfl rfl hx (by omega))
  · refine loop_0 (fun m i (_ : Unit) => wX_isMatching_16 post (nI x) (nI n) (nI (6 ^ n)) (sp_jo a b) m (nI i)) (fun i _ => ∀ t, t < i → sp_C n a b x t) n () lt_0 ?_ ?_
    · intro m _ k
      refine br_t (nI_le (Nat.le_refl n) (by omega)) ?_
      rw [sp_i1 (sp_M_C.mpr ⟨hlt, k⟩)] at h; exact h
    · intro m i _ hi k c
      have hd := sp_d_lt x i
      have fail : ¬ sp_C n a b x i → post 0 := fun z => by
        rw [sp_i0 fun w => z ((sp_M_C.mp w).2 i hi)] at h; exact h
      refine br_f (nI_ge hi (by omega)) (sx_placeOf hx (by omega) ?_)
      by_cases z : sp_d x i = 0
      · exact br_t ((sp_pl0 hd).mpr z) (nm_r (nI_1 i) (c () (lt_s k fun w => absurd z w)))
      · refine br_f (fun w => z ((sp_pl0 hd).mp w)) ?_
        rw [sp_plp z]
        refine sx_good h5 _ (fun w => ?_) (fun j hj ej => ?_)
        · refine br_t rfl (fail fun hC => ?_)
          rcases w with w | w
          · exact nI_pos (by omega) w
          · rw [nI_leI (by omega) (by omega)] at w
            have := (hC z).1; omega
        · refine br_f (by decide) ?_
          have hj5 : sp_d x i - 1 < n := by
            have := (nI_eq (by omega) (by omega)).mp ej; omega
          refine sx_fits0 (by omega) (by omega) (sp_br (fun w => fail fun hC => w (hC z).2.1) fun hf => ?_)
          refine sx_seekerOf h5 hx (by omega) fun r hr => ?_
          rcases hr with ⟨t, t1, t2, t3, rfl⟩ | ⟨t1, _⟩
          · refine pk_eq t i (fun e => nm_r (nI_1 i) (c () (lt_s k ?_))) (fun e => fail fun hC => ?_)
            · subst e
              exact fun _ => ⟨by omega, hf, fun t' ht' w => t3 t' ht' (by omega)⟩
            · rcases Nat.lt_trichotomy t i with q | q | q
              · exact (hC z).2.2 t q (by omega)
              · exact e q
              · exact t3 i q (by omega)
          · exact absurd (show sp_d x i = sp_d x i - 1 + 1 by omega) (t1 i hi)
  · rw [sp_i0 fun w => absurd w.1 (by omega)] at h; exact h
theorem sx_nm {t : Nat} (h : t < 2 ^ 31) : ¬ nI t = -1 := fun e => nI_pos h (by rw [e]; decide)
theorem sx_blocks39 {post : Int32 → Prop} {n : Nat} {a b : Nat → Int32} (h5 : n ≤ 5) {x s p : Nat} (hx : x < 2 ^ 31) (hM : sp_M n a b x) (hs : s < n) (hp : p < n) (c : post (sp_i (sp_b (∀ t, t < n → sp_d x t = p + 1 → sp_pr b p s t)))) :
    wX_blocks_39 post (nI s) (nI p) (nI x) (nI n) (nI (6 ^ n)) (sp_jo a b) := by
  unfold wX_blocks_39
  refine sx_seekerOf h5 hx (by omega) fun r hr => ?_
  rcases hr with ⟨t, t1, t2, t3, rfl⟩ | ⟨t1, rfl⟩
  · refine br_f (sx_nm (by omega)) ?_
    refine sx_pref1 (by omega) (by omega) (by omega) (sp_br (fun w => ?_) fun w => ?_)
    · rw [sp_i0 fun z => w (z t t1 t2)] at c; exact c
    · rw [sp_i1 fun t' k1 k2 => by
        have : t = t' := hM.2.2 t t' t1 k1 (by omega) (by omega)
        subst this; exact w] at c
      exact c
  · refine br_t rfl ?_
    rw [sp_i1 fun t k1 k2 => absurd k2 (t1 t k1)] at c; exact c
theorem sx_blocks {post : Int32 → Prop} {n : Nat} {a b : Nat → Int32} (h5 : n ≤ 5) {x s p : Nat} (hM : sp_M n a b x) (hs : s < n) (hp : p < n) (h : post (sp_i (sp_b (sp_Bk n a b x s p)))) : wpX_blocks post (sx_u n a b) (nI s) (nI p) (nI x) := by
  have hx : x < 2 ^ 31 := by have := sp_6 h5; have := hM.1; omega
  have hd := sp_d_lt x s
  unfold wpX_blocks
  dsimp only
  refine sx_fits0 (by omega) (by omega) (sp_br (fun w => ?_) fun hf => ?_)
  · rw [sp_i0 fun z => w z.1] at h; exact h
  · refine sx_placeOf hx (by omega) ?_
    by_cases z : sp_d x s = 0
    · refine br_t ((sp_pl0 hd).mpr z) (sx_blocks39 h5 hx hM hs hp ?_)
      rw [sp_bc (q := ∀ t, t < n → sp_d x t = p + 1 → sp_pr b p s t) ⟨fun w => w.2.2, fun w => ⟨hf, Or.inl z, w⟩⟩] at h; exact h
    · refine br_f (fun w => z ((sp_pl0 hd).mp w)) ?_
      rw [sp_plp z]
      have hle := (hM.2.1 s hs z).1
      refine sx_pref0 (by omega) (by omega) (by omega) (sp_br (fun w => ?_) fun w => sx_blocks39 h5 hx hM hs hp ?_)
      · rw [sp_i0 fun q => q.2.1.elim z w] at h; exact h
      · rw [sp_bc (q := ∀ t, t < n → sp_d x t = p + 1 → sp_pr b p s t) ⟨fun q => q.2.2, fun q => ⟨hf, Or.inr w, q⟩⟩] at h; exact h
theorem sx_isStable {post : Int32 → Prop} {n : Nat} {a b : Nat → Int32} (h5 : n ≤ 5) {x : Nat} (hx : x < 2 ^ 31) (h : post (sp_i (sp_P n a b x))) : wpX_isStable post (sx_u n a b) (nI x) := by
  unfold wpX_isStable
  dsimp only
  refine sx_isMatching h5 hx (sp_br (fun w => ?_) fun hM => ?_)
  · rw [sp_P, sp_i0 fun z => w z.1] at h; exact h
  · refine loop_0 (fun m i (_ : Unit) => wX_isStable_12 post (nI x) (nI n) (nI (6 ^ n)) (sp_jo a b) m (nI i)) (fun i _ => ∀ s, s < i → ∀ p, p < n → ¬ sp_Bk n a b x s p) n () lt_0 ?_ ?_
    · intro m _ k
      refine br_t (nI_le (Nat.le_refl n) (by omega)) ?_
      rw [sp_P, sp_i1 ⟨hM, fun s p hs hp => k s hs p hp⟩] at h; exact h
    · intro m i _ hi k c
      refine br_f (nI_ge hi (by omega)) ?_
      refine loop_0 (fun m' j (_ : Unit) => wX_isStable_22 post (wX_isStable_12 post (nI x) (nI n) (nI (6 ^ n)) (sp_jo a b) m) (nI x) (nI i) (nI n) (nI (6 ^ n)) (sp_jo a b) m' (nI j)) (fun j _ => ∀ p, p < j → ¬ sp_Bk n a b x i p) n () lt_0 ?_ ?_
      · intro m' _ k'
        exact br_t (nI_le (Nat.le_refl n) (by omega)) (nm_r (nI_1 i) (c () (lt_s k k')))
      · intro m' j _ hj k' c'
        refine br_f (nI_ge hj (by omega)) (sx_blocks h5 hM hi hj (sp_br (fun w => nm_r (nI_1 j) (c' () (lt_s k' w))) fun w => ?_))
        rw [sp_P, sp_i0 fun z => z.2 i j hi hj w] at h; exact h
