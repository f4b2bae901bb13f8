/-! counts and folds over the numbers below a bound -/
noncomputable def sp_b (p : Prop) : Bool := @decide p (Classical.propDecidable p)
theorem sp_bt {p : Prop} : sp_b p = true ↔ p := @decide_eq_true_iff p (Classical.propDecidable p)
theorem sp_bf {p : Prop} : sp_b p = false ↔ ¬ p := by
  have h := sp_bt (p := p)
  cases c : sp_b p with
  | true => rw [c] at h; exact ⟨fun z => (by cases z), fun z => absurd (h.mp rfl) z⟩
  | false => rw [c] at h; exact ⟨fun _ z => (by cases h.mpr z), fun _ => rfl⟩
def sp_cn (P : Nat → Bool) : Nat → Nat
  | 0 => 0
  | k + 1 => sp_cn P k + (P k).toNat
theorem sp_cn_0 (P : Nat → Bool) : sp_cn P 0 = 0 := rfl
theorem sp_cn_s (P : Nat → Bool) (k : Nat) : sp_cn P (k + 1) = sp_cn P k + (P k).toNat := rfl
theorem sp_cn_t {P : Nat → Bool} {k : Nat} (h : P k = true) : sp_cn P (k + 1) = sp_cn P k + 1 := by rw [sp_cn_s, h]; rfl
theorem sp_cn_f {P : Nat → Bool} {k : Nat} (h : P k = false) : sp_cn P (k + 1) = sp_cn P k := by rw [sp_cn_s, h]; rfl
theorem sp_tn (c : Bool) : c.toNat ≤ 1 := by cases c <;> decide
theorem sp_cn_le (P : Nat → Bool) : ∀ k, sp_cn P k ≤ k
  | 0 => Nat.le_refl 0
  | k + 1 => by have := sp_cn_le P k; have := sp_tn (P k); rw [sp_cn_s]; omega
theorem sp_cn_mono (P : Nat → Bool) {j k : Nat} (h : j ≤ k) : sp_cn P j ≤ sp_cn P k := by
  induction k with
  | zero => rw [show j = 0 by omega]; exact Nat.le_refl _
  | succ k ih =>
    by_cases e : j = k + 1
    · rw [e]; exact Nat.le_refl _
    · have := ih (by omega); rw [sp_cn_s]; omega
theorem sp_cn_lt {P : Nat → Bool} {j k : Nat} (h : P j = true) (hj : j < k) : sp_cn P j < sp_cn P k := by
  have := sp_cn_mono P (j := j + 1) (k := k) hj
  rw [sp_cn_t h] at this
  omega
theorem sp_cn_nth {P : Nat → Bool} {i : Nat} : ∀ {N : Nat}, i < sp_cn P N → ∃ x, x < N ∧ P x = true ∧ sp_cn P x = i
  | 0, h => by rw [sp_cn_0] at h; omega
  | N + 1, h => by
    by_cases e : i < sp_cn P N
    · obtain ⟨x, h1, h2, h3⟩ := sp_cn_nth e
      exact ⟨x, by omega, h2, h3⟩
    · cases c : P N with
      | true => rw [sp_cn_t c] at h; exact ⟨N, by omega, c, by omega⟩
      | false => rw [sp_cn_f c] at h; omega
theorem sp_cn_inj {P : Nat → Bool} {x y : Nat} (hx : P x = true) (hy : P y = true) (h : sp_cn P x = sp_cn P y) : x = y := by
  rcases Nat.lt_trichotomy x y with e | e | e
  · have := sp_cn_lt hx e; omega
  · exact e
  · have := sp_cn_lt hy e; omega
theorem sp_cn_next {P : Nat → Bool} {y N : Nat} (h : sp_cn P y < sp_cn P N) : ∃ z, y ≤ z ∧ z < N ∧ P z = true ∧ sp_cn P z = sp_cn P y ∧ ∀ w, y ≤ w → w < z → P w = false := by
  obtain ⟨z, h1, h2, h3⟩ := sp_cn_nth h
  refine ⟨z, ?_, h1, h2, h3, ?_⟩
  · refine Nat.le_of_not_lt fun e => ?_
    have := sp_cn_lt h2 e; omega
  · intro w hw hz
    cases c : P w with
    | false => rfl
    | true =>
      have := sp_cn_lt c hz
      have := sp_cn_mono P hw
      omega
theorem sp_cn_none {P : Nat → Bool} : ∀ {N : Nat}, (∀ k, k < N → P k = false) → sp_cn P N = 0
  | 0, _ => rfl
  | N + 1, h => by rw [sp_cn_f (h N (by omega))]; exact sp_cn_none fun k hk => h k (by omega)
theorem sp_cn_sub {P Q : Nat → Bool} : ∀ {N : Nat}, (∀ k, k < N → P k = true → Q k = true) → sp_cn P N ≤ sp_cn Q N
  | 0, _ => Nat.le_refl 0
  | N + 1, h => by
    have h1 := sp_cn_sub (P := P) (Q := Q) (N := N) fun k hk => h k (by omega)
    cases c : P N with
    | true => rw [sp_cn_t c, sp_cn_t (h N (by omega) c)]; omega
    | false => rw [sp_cn_f c, sp_cn_s]; omega
theorem sp_cn_dec {P Q : Nat → Bool} {k0 : Nat} (hP : P k0 = false) (hQ : Q k0 = true) : ∀ {N : Nat}, k0 < N → (∀ k, k < N → P k = true → Q k = true) → sp_cn P N < sp_cn Q N
  | 0, h, _ => by omega
  | N + 1, h, hs => by
    by_cases e : k0 = N
    · subst e
      have := sp_cn_sub (P := P) (Q := Q) (N := k0) fun k hk => hs k (by omega)
      rw [sp_cn_f hP, sp_cn_t hQ]; omega
    · have h1 := sp_cn_dec hP hQ (N := N) (by omega) fun k hk => hs k (by omega)
      cases c : P N with
      | true => rw [sp_cn_t c, sp_cn_t (hs N (by omega) c)]; omega
      | false => rw [sp_cn_f c, sp_cn_s]; omega
theorem sp_cn_con {P Q : Nat → Bool} : ∀ {N : Nat}, (∀ k, k < N → P k = Q k) → sp_cn P N = sp_cn Q N
  | 0, _ => rfl
  | N + 1, h => by rw [sp_cn_s, sp_cn_s, h N (by omega), sp_cn_con fun k hk => h k (by omega)]
theorem sp_cn_6 (P : Nat → Bool) : ∀ N : Nat, sp_cn P (6 * N) = sp_cn (fun x => P (6 * x)) N + sp_cn (fun x => P (6 * x + 1)) N + sp_cn (fun x => P (6 * x + 2)) N + sp_cn (fun x => P (6 * x + 3)) N + sp_cn (fun x => P (6 * x + 4)) N + sp_cn (fun x => P (6 * x + 5)) N
  | 0 => rfl
  | N + 1 => by
    have h := sp_cn_6 P N
    rw [show 6 * (N + 1) = 6 * N + 1 + 1 + 1 + 1 + 1 + 1 by omega]
    simp only [sp_cn_s]
    rw [h]
    simp only [Nat.add_assoc]
    omega
def sp_fo {σ : Type} (P : Nat → Bool) (f : σ → Nat → σ) (s : σ) : Nat → σ
  | 0 => s
  | k + 1 => if P k = true then f (sp_fo P f s k) k else sp_fo P f s k
theorem sp_fo_t {σ : Type} {P : Nat → Bool} {f : σ → Nat → σ} {s : σ} {k : Nat} (h : P k = true) : sp_fo P f s (k + 1) = f (sp_fo P f s k) k := if_pos h
theorem sp_fo_f {σ : Type} {P : Nat → Bool} {f : σ → Nat → σ} {s : σ} {k : Nat} (h : P k = false) : sp_fo P f s (k + 1) = sp_fo P f s k := if_neg (by rw [h]; decide)
theorem sp_fo_gap {σ : Type} {P : Nat → Bool} {f : σ → Nat → σ} {s : σ} {y : Nat} : ∀ {z : Nat}, y ≤ z → (∀ w, y ≤ w → w < z → P w = false) → sp_fo P f s z = sp_fo P f s y
  | 0, h, _ => by rw [show y = 0 by omega]
  | z + 1, h, hw => by
    by_cases e : y = z + 1
    · rw [e]
    · rw [sp_fo_f (hw z (by omega) (by omega))]
      exact sp_fo_gap (by omega) fun w h1 h2 => hw w h1 (by omega)
/-- a loop over the list of those below N that satisfy P -/
theorem sp_lst {σ : Type} (P : Nat → Bool) (N : Nat) (W : Nat → Nat → σ → Prop) (f : σ → Nat → σ) (s0 : σ)
    (hx : ∀ n, W (n + 1) (sp_cn P N) (sp_fo P f s0 N))
    (hs : ∀ n x s, x < N → P x = true → sp_cn P x < sp_cn P N → W n (sp_cn P x + 1) (f s x) → W (n + 1) (sp_cn P x) s) : ∃ n, W n 0 s0 := by
  have key : ∀ d y, y ≤ N → sp_cn P y + d = sp_cn P N → W (d + 1) (sp_cn P y) (sp_fo P f s0 y) := by
    intro d
    induction d with
    | zero =>
      intro y hy he
      have e : sp_fo P f s0 N = sp_fo P f s0 y := sp_fo_gap hy fun w h1 h2 => by
        cases c : P w with
        | false => rfl
        | true =>
          have := sp_cn_lt c h2
          have := sp_cn_mono P h1
          omega
      rw [← e, show sp_cn P y = sp_cn P N by omega]
      exact hx 0
    | succ d ih =>
      intro y hy he
      obtain ⟨z, h1, h2, h3, h4, h5⟩ := sp_cn_next (P := P) (y := y) (N := N) (by omega)
      have e : sp_fo P f s0 z = sp_fo P f s0 y := sp_fo_gap h1 h5
      have h6 := ih (z + 1) (by omega) (by rw [sp_cn_t h3]; omega)
      rw [sp_cn_t h3, sp_fo_t h3, e] at h6
      rw [← h4]
      exact hs _ z _ h2 h3 (by omega) h6
  exact ⟨_, key (sp_cn P N) 0 (Nat.zero_le _) (by rw [sp_cn_0]; omega)⟩
/-- a loop over all below N that acts on those that satisfy P -/
theorem sp_xl {σ : Type} (P : Nat → Bool) (N : Nat) (W : Nat → Nat → σ → Prop) (f : σ → Nat → σ) (s0 : σ)
    (hx : ∀ n, W (n + 1) N (sp_fo P f s0 N))
    (hs : ∀ n x s, x < N → (P x = true → W n (x + 1) (f s x)) → (P x = false → W n (x + 1) s) → W (n + 1) x s) : ∃ n, W n 0 s0 :=
  loop_0 W (fun i s => s = sp_fo P f s0 i) N s0 rfl (fun n s h => by rw [h]; exact hx n) (fun n i s hi h k => by
    have h1 : P i = true → W n (i + 1) (f s i) := fun c => k _ (by rw [sp_fo_t c, h])
    have h2 : P i = false → W n (i + 1) s := fun c => k _ (by rw [sp_fo_f c, h])
    exact hs n i s hi h1 h2)
/-- what holds of all folds -/
theorem sp_fo_ind {σ : Type} {P : Nat → Bool} {f : σ → Nat → σ} {s : σ} (I : Nat → σ → Prop) (h0 : I 0 s) {N : Nat}
    (ht : ∀ k t, k < N → P k = true → I k t → I (k + 1) (f t k)) (hf : ∀ k t, k < N → P k = false → I k t → I (k + 1) t) : ∀ k, k ≤ N → I k (sp_fo P f s k)
  | 0, _ => h0
  | k + 1, hk => by
    have ih := sp_fo_ind I h0 ht hf k (by omega)
    cases c : P k with
    | true => rw [sp_fo_t c]; exact ht k _ (by omega) c ih
    | false => rw [sp_fo_f c]; exact hf k _ (by omega) c ih
/-- the same loop by what holds of its state -/
theorem sp_lsi {σ : Type} (P : Nat → Bool) (N : Nat) (W : Nat → Nat → σ → Prop) (I : Nat → σ → Prop) (s0 : σ) (h0 : I 0 s0)
    (hgap : ∀ y s, y < N → P y = false → I y s → I (y + 1) s)
    (hx : ∀ n s, I N s → W (n + 1) (sp_cn P N) s)
    (hs : ∀ n x s, x < N → P x = true → sp_cn P x < sp_cn P N → I x s → (∀ s', I (x + 1) s' → W n (sp_cn P x + 1) s') → W (n + 1) (sp_cn P x) s) : ∃ n, W n 0 s0 := by
  have gap : ∀ z y s, y ≤ z → z ≤ N → (∀ w, y ≤ w → w < z → P w = false) → I y s → I z s := by
    intro z
    induction z with
    | zero => intro y s h _ _ k; rw [show y = 0 by omega] at k; exact k
    | succ z ih =>
      intro y s h hz hw k
      by_cases e : y = z + 1
      · rw [← e]; exact k
      · exact hgap z s (by omega) (hw z (by omega) (by omega)) (ih y s (by omega) (by omega) (fun w h1 h2 => hw w h1 (by omega)) k)
  have key : ∀ d y s, y ≤ N → sp_cn P y + d = sp_cn P N → I y s → W (d + 1) (sp_cn P y) s := by
    intro d
    induction d with
    | zero =>
      intro y s hy he k
      rw [show sp_cn P y = sp_cn P N by omega]
      refine hx 0 s (gap N y s hy (Nat.le_refl N) (fun w h1 h2 => ?_) k)
      cases c : P w with
      | false => rfl
      | true =>
        have := sp_cn_lt c h2
        have := sp_cn_mono P h1
        omega
    | succ d ih =>
      intro y s hy he k
      obtain ⟨z, h1, h2, h3, h4, h5⟩ := sp_cn_next (P := P) (y := y) (N := N) (by omega)
      have kz := gap z y s h1 (by omega) h5 k
      rw [← h4]
      refine hs _ z s h2 h3 (by omega) kz fun s' k' => ?_
      have h6 := ih (z + 1) s' (by omega) (by rw [sp_cn_t h3]; omega) k'
      rw [sp_cn_t h3] at h6
      exact h6
  exact ⟨_, key (sp_cn P N) 0 s0 (Nat.zero_le _) (by rw [sp_cn_0]; omega) h0⟩
