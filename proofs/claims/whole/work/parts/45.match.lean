/-! reading a number: what both sides know after the digits below s -/
noncomputable def sp_i (c : Bool) : Int32 := if c = true then 1 else 0
theorem sp_i1 {p : Prop} (h : p) : sp_i (sp_b p) = 1 := if_pos (sp_bt.mpr h)
theorem sp_i0 {p : Prop} (h : ¬ p) : sp_i (sp_b p) = 0 := if_neg fun c => h (sp_bt.mp c)
theorem sp_br {p A B : Prop} (f : ¬ p → A) (t : p → B) : (sp_i (sp_b p) = 0 → A) ∧ (¬ sp_i (sp_b p) = 0 → B) := by
  by_cases h : p
  · rw [sp_i1 h]; exact ⟨fun z => absurd z (by decide), fun _ => t h⟩
  · rw [sp_i0 h]; exact ⟨fun _ => f h, fun z => absurd rfl z⟩
theorem sp_bn {p A B : Prop} (t : p → A) (f : ¬ p → B) : (¬ sp_i (sp_b p) = 0 → A) ∧ (¬ ¬ sp_i (sp_b p) = 0 → B) := by
  by_cases h : p
  · rw [sp_i1 h]; exact ⟨fun _ => t h, fun z => absurd (by decide) z⟩
  · rw [sp_i0 h]; exact ⟨fun z => absurd rfl z, fun _ => f h⟩
theorem sp_ite {p : Prop} {post : Int32 → Prop} (h : post (sp_i (sp_b p))) : (p → post 1) ∧ (¬ p → post 0) :=
  ⟨fun z => by rw [sp_i1 z] at h; exact h, fun z => by rw [sp_i0 z] at h; exact h⟩
theorem sp_nb (p : Prop) : narrow .boolean (.int (sp_i (sp_b p))) = .int (sp_i (sp_b p)) := by
  by_cases h : p
  · rw [sp_i1 h]; rfl
  · rw [sp_i0 h]; rfl
/-- what the digit of seeker t must keep -/
def sp_C (n : Nat) (a b : Nat → Int32) (x t : Nat) : Prop := sp_d x t ≠ 0 → sp_d x t ≤ n ∧ sp_fit a b t (sp_d x t - 1) ∧ ∀ t', t' < t → sp_d x t' ≠ sp_d x t
theorem sp_M_C {n : Nat} {a b : Nat → Int32} {x : Nat} : sp_M n a b x ↔ x < 6 ^ n ∧ ∀ t, t < n → sp_C n a b x t := by
  constructor
  · intro ⟨h1, h2, h3⟩
    refine ⟨h1, fun t ht z => ⟨(h2 t ht z).1, (h2 t ht z).2, fun t' k e => ?_⟩⟩
    have := h3 t t' ht (by omega) z e.symm
    omega
  · intro ⟨h1, h2⟩
    refine ⟨h1, fun t ht z => ⟨(h2 t ht z).1, (h2 t ht z).2.1⟩, fun s t hs ht z e => ?_⟩
    rcases Nat.lt_trichotomy s t with k | k | k
    · exact absurd e ((h2 t ht (by omega)).2.2 s k)
    · exact k
    · exact absurd e.symm ((h2 s hs z).2.2 t k)
/-- the first seeker with this place -/
def sp_so (n x p : Nat) (r : Int32) : Prop := (∃ t, t < n ∧ sp_d x t = p + 1 ∧ (∀ t', t' < t → sp_d x t' ≠ p + 1) ∧ r = nI t) ∨ ((∀ t, t < n → sp_d x t ≠ p + 1) ∧ r = -1)
/-- the arrays of the reference, read up to s -/
def sp_RI (n : Nat) (a b : Nat → Int32) (x s : Nat) (pl sk : Nat → Int32) : Prop :=
  (∀ t, t < s → sp_C n a b x t) ∧ (∀ t, t < s → pl t = nI (sp_d x t) - 1) ∧ (∀ t, s ≤ t → t < 8 → pl t = -1) ∧
  ∀ p, p < 8 → (∃ t, t < s ∧ sp_d x t = p + 1 ∧ sk p = nI t) ∨ ((∀ t, t < s → sp_d x t ≠ p + 1) ∧ sk p = -1)
theorem sp_RI_0 {n : Nat} {a b : Nat → Int32} {x : Nat} {pl sk : Nat → Int32} (h1 : ∀ t, t < 8 → pl t = -1) (h2 : ∀ t, t < 8 → sk t = -1) : sp_RI n a b x 0 pl sk :=
  ⟨fun t ht => by omega, fun t ht => by omega, fun t _ ht => h1 t ht, fun p hp => Or.inr ⟨fun t ht => by omega, h2 p hp⟩⟩
theorem sp_RI_z {n : Nat} {a b : Nat → Int32} {x s : Nat} {pl sk : Nat → Int32} (h : sp_RI n a b x s pl sk) (hs : s < 8) (z : sp_d x s = 0) : sp_RI n a b x (s + 1) pl sk := by
  obtain ⟨h1, h2, h3, h4⟩ := h
  refine ⟨lt_s h1 fun c => absurd z c, lt_s h2 ?_, fun t k1 k2 => h3 t (by omega) k2, fun p hp => ?_⟩
  · rw [h3 s (Nat.le_refl s) hs, z]; decide
  · rcases h4 p hp with ⟨t, t1, t2, t3⟩ | ⟨t1, t2⟩
    · exact Or.inl ⟨t, by omega, t2, t3⟩
    · exact Or.inr ⟨lt_s t1 (by omega), t2⟩
theorem sp_RI_s {n : Nat} {a b : Nat → Int32} {x s : Nat} {pl sk : Nat → Int32} (h : sp_RI n a b x s pl sk) (hs : s < 8) (z : sp_d x s ≠ 0) (hC : sp_C n a b x s) :
    sp_RI n a b x (s + 1) (upd pl s (nI (sp_d x s) - 1)) (upd sk (sp_d x s - 1) (nI s)) := by
  obtain ⟨h1, h2, h3, h4⟩ := h
  refine ⟨lt_s h1 hC, lt_s (fun t ht => ?_) ?_, fun t k1 k2 => ?_, fun p hp => ?_⟩
  · rw [pk_un (by omega)]; exact h2 t ht
  · rw [pk_us]
  · rw [pk_un (by omega)]; exact h3 t (by omega) k2
  · by_cases e : p = sp_d x s - 1
    · subst e
      rw [pk_us]
      exact Or.inl ⟨s, by omega, by omega, rfl⟩
    · rw [pk_un e]
      rcases h4 p hp with ⟨t, t1, t2, t3⟩ | ⟨t1, t2⟩
      · exact Or.inl ⟨t, by omega, t2, t3⟩
      · exact Or.inr ⟨lt_s t1 (by omega), t2⟩
/-- the arrays of the reference after a matching has been read -/
def sp_G (n x : Nat) (pl sk : Nat → Int32) : Prop :=
  (∀ t, t < n → pl t = nI (sp_d x t) - 1) ∧ ∀ p, p < n → (∃ t, t < n ∧ sp_d x t = p + 1 ∧ sk p = nI t) ∨ ((∀ t, t < n → sp_d x t ≠ p + 1) ∧ sk p = -1)
theorem sp_RI_G {n : Nat} {a b : Nat → Int32} {x : Nat} {pl sk : Nat → Int32} (hn : n ≤ 5) (h : sp_RI n a b x n pl sk) : sp_G n x pl sk :=
  ⟨h.2.1, fun p hp => h.2.2.2 p (by omega)⟩
theorem sp_lt6 {x n : Nat} : x / 6 ^ n = 0 ↔ x < 6 ^ n := by
  rw [Nat.div_eq_zero_iff]
  have : 6 ^ n ≠ 0 := by have := Nat.pow_pos (n := n) (show 0 < 6 by decide); omega
  omega
theorem sp_brB {c : Bool} {A B : Prop} (f : c = false → A) (t : c = true → B) : (sp_i c = 0 → A) ∧ (¬ sp_i c = 0 → B) := by
  cases c with
  | true => exact ⟨fun z => absurd z (by decide), fun _ => t rfl⟩
  | false => exact ⟨fun _ => f rfl, fun z => absurd rfl z⟩
theorem sp_bc {p q : Prop} (e : p ↔ q) : sp_b p = sp_b q := congrArg sp_b (propext e)
/-- how many pairs block, by seekers -/
noncomputable def sp_k2 (n : Nat) (a b : Nat → Int32) (x : Nat) : Nat → Nat
  | 0 => 0
  | i + 1 => sp_k2 n a b x i + sp_cn (fun p => sp_b (sp_Bk n a b x i p)) n
theorem sp_k2_s (n : Nat) (a b : Nat → Int32) (x i : Nat) : sp_k2 n a b x (i + 1) = sp_k2 n a b x i + sp_cn (fun p => sp_b (sp_Bk n a b x i p)) n := rfl
theorem sp_k2_le (n : Nat) (a b : Nat → Int32) (x : Nat) : ∀ i, sp_k2 n a b x i ≤ n * i
  | 0 => Nat.le_refl 0
  | i + 1 => by
    have h1 := sp_k2_le n a b x i
    have h2 := sp_cn_le (fun p => sp_b (sp_Bk n a b x i p)) n
    rw [sp_k2_s, Nat.mul_succ]; omega
theorem sp_cn_z {P : Nat → Bool} : ∀ {N : Nat}, sp_cn P N = 0 → ∀ k, k < N → P k = false
  | 0, _, k, hk => by omega
  | N + 1, h, k, hk => by
    rw [sp_cn_s] at h
    by_cases e : k = N
    · subst e
      cases c : P k with
      | false => rfl
      | true => rw [c] at h; have : true.toNat = 1 := rfl; omega
    · exact sp_cn_z (N := N) (by omega) k (by omega)
theorem sp_k2_z {n : Nat} {a b : Nat → Int32} {x : Nat} : ∀ i, sp_k2 n a b x i = 0 ↔ ∀ s, s < i → ∀ p, p < n → ¬ sp_Bk n a b x s p
  | 0 => ⟨fun _ => lt_0, fun _ => rfl⟩
  | i + 1 => by
    have ih := sp_k2_z (n := n) (a := a) (b := b) (x := x) i
    rw [sp_k2_s]
    constructor
    · intro h
      refine lt_s (ih.mp (by omega)) fun p hp => ?_
      exact sp_bf.mp (sp_cn_z (P := fun p => sp_b (sp_Bk n a b x i p)) (N := n) (by omega) p hp)
    · intro h
      have h1 := ih.mpr fun s hs => h s (by omega)
      have h2 : sp_cn (fun p => sp_b (sp_Bk n a b x i p)) n = 0 := sp_cn_none fun p hp => sp_bf.mpr (h i (by omega) p hp)
      omega
theorem sp_St_k2 {n : Nat} {a b : Nat → Int32} {x : Nat} : sp_St n a b x ↔ sp_M n a b x ∧ sp_k2 n a b x n = 0 := by
  rw [sp_k2_z]
  exact ⟨fun h => ⟨h.1, fun s hs p hp => h.2 s p hs hp⟩, fun h => ⟨h.1, fun s p hs hp => h.2 s hs p hp⟩⟩
/-- the number that better makes -/
noncomputable def sp_bw (a : Nat → Int32) (x y : Nat) : Nat → Nat
  | 0 => 0
  | k + 1 => sp_bw a x y k + sp_g a k (sp_d x k) (sp_d y k) * 6 ^ k
