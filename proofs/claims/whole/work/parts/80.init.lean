/-! making an object, and likeAll -/
theorem sx_initL {post : SX → Prop} {n : Nat} (h5 : n ≤ 5) (h : post (sx_u n (fun _ => 0) (fun _ => 0))) : ∃ m, wX_init_39 post (nI n) 0 (fun _ => 0) m 1 0 := by
  have h' : post (nI n, nI (6 ^ n), fun _ => 0) := by rw [← sp_jo_0]; exact h
  refine loop_0 (fun m i (c : Int32) => wX_init_39 post (nI n) 0 (fun _ => 0) m c (nI i)) (fun i c => c = nI (6 ^ i)) n 1 rfl ?_ ?_
  · intro m c e
    exact br_t (nI_le (Nat.le_refl _) (by omega)) (by rw [e]; exact h')
  · intro m i c hi e k
    refine br_f (nI_ge hi (by omega)) (nm_r (e' := nI (6 ^ (i + 1))) ?_ (nm_r (nI_1 i) (k _ rfl)))
    rw [e, show (6 : Int32) = nI 6 from rfl, pk_mul, Nat.pow_succ]
/-- a table after likeAll up to i -/
def sp_ua (x3 x4 : Int32) (a : Nat → Int32) (s : Nat) : Nat → Nat → Int32
  | 0 => a
  | i + 1 => upd (sp_ua x3 x4 a s i) (5 * s + i) (1 + ((x3 + (nI i * x4)) - (x3 + (nI i * x4)) / 9 * 9))
theorem sx_9 : ¬ (9 : Int32) = 0 := by decide
theorem sx_la0 {post : Int32 → SX → Prop} {n : Nat} {a b : Nat → Int32} (h5 : n ≤ 5) {s : Nat} (hs : s < n) (x3 x4 : Int32) (h : post 0 (sx_u n (sp_ua x3 x4 a s n) b)) : ∃ m, wX_likeAll_50 post 0 (nI s) x3 x4 (nI n) (nI (6 ^ n)) m 0 (sp_jo a b) := by
  refine loop_0 (fun m i (c : Nat → Int32) => wX_likeAll_50 post 0 (nI s) x3 x4 (nI n) (nI (6 ^ n)) m (nI i) c) (fun i c => c = sp_jo (sp_ua x3 x4 a s i) b) n (sp_jo a b) rfl ?_ ?_
  · intro m c e
    exact br_t (nI_le (Nat.le_refl _) (by omega)) (by rw [e]; exact h)
  · intro m i c hi e k
    refine br_f (nI_ge hi (by omega)) (sx_slot0 ⟨sx_9, sx_v0 (by omega) (by omega), nm_r (e' := sp_jo (sp_ua x3 x4 a s (i + 1)) b) ?_ (nm_r (nI_1 i) (k _ rfl))⟩)
    rw [e, nI_clamp (by omega)]
    exact sp_jo_ul _ (by omega)
theorem sx_la1 {post : Int32 → SX → Prop} {n : Nat} {a b : Nat → Int32} (h5 : n ≤ 5) {s : Nat} (hs : s < n) (x3 x4 : Int32) (h : post 0 (sx_u n a (sp_ua x3 x4 b s n))) : ∃ m, wX_likeAll_50 post 1 (nI s) x3 x4 (nI n) (nI (6 ^ n)) m 0 (sp_jo a b) := by
  refine loop_0 (fun m i (c : Nat → Int32) => wX_likeAll_50 post 1 (nI s) x3 x4 (nI n) (nI (6 ^ n)) m (nI i) c) (fun i c => c = sp_jo a (sp_ua x3 x4 b s i)) n (sp_jo a b) rfl ?_ ?_
  · intro m c e
    exact br_t (nI_le (Nat.le_refl _) (by omega)) (by rw [e]; exact h)
  · intro m i c hi e k
    refine br_f (nI_ge hi (by omega)) (sx_slot1 ⟨sx_9, sx_v1 (by omega) (by omega), nm_r (e' := sp_jo a (sp_ua x3 x4 b s (i + 1))) ?_ (nm_r (nI_1 i) (k _ rfl))⟩)
    rw [e, nI_clamp (by omega)]
    exact sp_jo_uh _
theorem sy_vx {s p : Nat} (hs : s < 5) (hp : p < 5) : vp_in ((5 : Int32) * nI s + nI p) 25 := by rw [sy_ix]; exact vp_in_nI (by omega) (by decide)
theorem sy_cx {s p : Nat} (hs : s < 5) (hp : p < 5) : ((5 : Int32) * nI s + nI p).toNatClampNeg = 5 * s + p := by rw [sy_ix]; exact nI_clamp (by omega)
theorem sy_la0 {post : Int32 → SY → Prop} {n : Nat} {fo : Int32} {a b pl sk nu : Nat → Int32} (h5 : n ≤ 5) {s : Nat} (hs : s < n) (x3 x4 : Int32) (h : post 0 (sy_v n fo (sp_ua x3 x4 a s n) b pl sk nu)) : ∃ m, wY_likeAll_50 post 0 (nI s) x3 x4 (nI n) fo m 0 a b pl sk nu := by
  refine loop_0 (fun m i (c : Nat → Int32) => wY_likeAll_50 post 0 (nI s) x3 x4 (nI n) fo m (nI i) c b pl sk nu) (fun i c => c = sp_ua x3 x4 a s i) n a rfl ?_ ?_
  · intro m c e
    exact br_t (nI_le (Nat.le_refl _) (by omega)) (by rw [e]; exact h)
  · intro m i c hi e k
    refine br_f (nI_ge hi (by omega)) (br_f (nI_ge (b := 5) (by omega) (by decide)) ⟨sx_9, nm_e (br_t rfl ⟨sy_vx (by omega) (by omega), nm_r (e' := sp_ua x3 x4 a s (i + 1)) ?_ (nm_r (nI_1 i) (k _ rfl))⟩)⟩)
    rw [e, sy_cx (by omega) (by omega)]; rfl
theorem sy_la1 {post : Int32 → SY → Prop} {n : Nat} {fo : Int32} {a b pl sk nu : Nat → Int32} (h5 : n ≤ 5) {s : Nat} (hs : s < n) (x3 x4 : Int32) (h : post 0 (sy_v n fo a (sp_ua x3 x4 b s n) pl sk nu)) : ∃ m, wY_likeAll_50 post 1 (nI s) x3 x4 (nI n) fo m 0 a b pl sk nu := by
  refine loop_0 (fun m i (c : Nat → Int32) => wY_likeAll_50 post 1 (nI s) x3 x4 (nI n) fo m (nI i) a c pl sk nu) (fun i c => c = sp_ua x3 x4 b s i) n b rfl ?_ ?_
  · intro m c e
    exact br_t (nI_le (Nat.le_refl _) (by omega)) (by rw [e]; exact h)
  · intro m i c hi e k
    refine br_f (nI_ge hi (by omega)) (br_f (nI_ge (b := 5) (by omega) (by decide)) ⟨sx_9, nm_e (br_f (by decide) ⟨sy_vx (by omega) (by omega), nm_r (e' := sp_ua x3 x4 b s (i + 1)) ?_ (nm_r (nI_1 i) (k _ rfl))⟩)⟩)
    rw [e, sy_cx (by omega) (by omega)]; rfl
theorem iw_89 {x : Int32} : 9 ≤ x ↔ 8 < x := by
  rw [Int32.le_iff_toInt_le, Int32.lt_iff_toInt_lt, show (9 : Int32).toInt = 9 from by decide, show (8 : Int32).toInt = 8 from by decide]
  omega
theorem iw_98 {x : Int32} : x < 9 ↔ x ≤ 8 := by
  rw [Int32.le_iff_toInt_le, Int32.lt_iff_toInt_lt, show (9 : Int32).toInt = 9 from by decide, show (8 : Int32).toInt = 8 from by decide]
  omega
theorem iw_01 {x : Int32} (h0 : ¬ x < 0) (h1 : x ≤ 1) : x = 0 ∨ x = 1 := by
  obtain ⟨j, hj, rfl⟩ := nI_of2 (n := 1) (by decide) h0 h1
  have : j = 0 ∨ j = 1 := by omega
  rcases this with rfl | rfl
  · exact Or.inl rfl
  · exact Or.inr rfl
theorem iw_25 {x : Int32} (h2 : 2 ≤ x) (h5 : x ≤ 5) : ∃ j, 2 ≤ j ∧ j ≤ 5 ∧ x = nI j := by
  obtain ⟨j, hj, rfl⟩ := nI_of2 (n := 5) (by decide) (Int32.not_lt.mpr (Int32.le_trans (by decide) h2)) h5
  exact ⟨j, (nI_leI (a := 2) (by decide) (by omega)).mp h2, hj, rfl⟩
