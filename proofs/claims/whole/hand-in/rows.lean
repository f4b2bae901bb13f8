section
/-! rows pasted from kit/rows -/
theorem pk_us {f : Nat → Int32} {k : Nat} {x : Int32} : upd f k x k = x := if_pos rfl
theorem pk_un {f : Nat → Int32} {k j : Nat} {x : Int32} (h : j ≠ k) : upd f k x j = f j := if_neg h
theorem pk_sub {a b : Nat} (h : b ≤ a) : nI a - nI b = nI (a - b) := by
  obtain ⟨c, rfl⟩ : ∃ c, a = c + b := ⟨a - b, by omega⟩
  rw [← nI_add, Int32.add_sub_cancel, Nat.add_sub_cancel]
theorem pk_m1 (n : Nat) : nI (n + 1) + (-1) = nI n := by
  rw [← nI_1, Int32.add_assoc, show (1 : Int32) + (-1) = 0 from rfl, Int32.add_zero]
theorem pk_mul (a b : Nat) : nI a * nI b = nI (a * b) := (Int32.ofNat_mul a b).symm
theorem pk_div {a d : Nat} (ha : a < 2 ^ 31) (h0 : 0 < d) (hd : d < 2 ^ 31) : nI a / nI d = nI (a / d) := by
  apply Int32.toInt_inj.mp
  rw [lg_idiv_nonneg (by rw [nI_toInt ha]; omega) (by rw [nI_toInt hd]; omega), nI_toInt ha, nI_toInt hd, nI_toInt (Nat.lt_of_le_of_lt (Nat.div_le_self a d) ha)]
  first | rfl | exact (Int.natCast_ediv _ _).symm
theorem pk_rem {a d : Nat} (ha : a < 2 ^ 31) (h0 : 0 < d) (hd : d < 2 ^ 31) : nI a - nI a / nI d * nI d = nI (a % d) := by
  rw [pk_div ha h0 hd, pk_mul, pk_sub (Nat.div_mul_le_self a d)]
  exact congrArg nI (by have := Nat.div_add_mod' a d; omega)
theorem pk_ix (x : Int32) {n : Nat} (hn : n < 2 ^ 31) : x < 0 ∨ nI n ≤ x ∨ ∃ j : Nat, j < n ∧ x = nI j := by
  by_cases h : x < 0
  · exact Or.inl h
  · obtain ⟨j, hj, rfl⟩ := nI_of h
    by_cases h2 : j < n
    · exact Or.inr (Or.inr ⟨j, h2, rfl⟩)
    · exact Or.inr (Or.inl (nI_le (by omega) hj))
theorem pk_le {x y : Int32} {A B : Prop} (a b : Nat) (f : a ≤ b → A) (g : b < a → B) (hx : x = nI a := by rfl) (hy : y = nI b := by rfl) (ha : a < 2 ^ 31 := by omega) (hb : b < 2 ^ 31 := by omega) : (x ≤ y → A) ∧ (¬ x ≤ y → B) := by
  subst hx hy
  rw [nI_leI ha hb]
  exact ⟨f, fun z => g (by omega)⟩
theorem pk_lt {x y : Int32} {A B : Prop} (a b : Nat) (f : a < b → A) (g : b ≤ a → B) (hx : x = nI a := by rfl) (hy : y = nI b := by rfl) (ha : a < 2 ^ 31 := by omega) (hb : b < 2 ^ 31 := by omega) : (x < y → A) ∧ (¬ x < y → B) := by
  subst hx hy
  rw [nI_ltI ha hb]
  exact ⟨f, fun z => g (by omega)⟩
theorem pk_eq {x y : Int32} {A B : Prop} (a b : Nat) (f : a = b → A) (g : a ≠ b → B) (hx : x = nI a := by rfl) (hy : y = nI b := by rfl) (ha : a < 2 ^ 31 := by omega) (hb : b < 2 ^ 31 := by omega) : (x = y → A) ∧ (¬ x = y → B) := by
  subst hx hy
  rw [nI_eq ha hb]
  exact ⟨f, g⟩
theorem pk_in {x : Int32} (n N : Nat) (h : n < N) (hx : x = nI n := by rfl) (hN : N < 2 ^ 31 := by omega) : vp_in x N := by
  subst hx
  exact vp_in_nI h hN
theorem pk_cl {x : Int32} (n : Nat) (hx : x = nI n := by rfl) (h : n < 2 ^ 31 := by omega) : x.toNatClampNeg = n := by
  subst hx
  exact nI_clamp h
theorem pk_tn {n : Nat} (h : n < 2 ^ 32) : (nI n).toBitVec.toNat = n := Nat.mod_eq_of_lt h
theorem pk_loop {σ : Type} (W : Nat → Nat → σ → Prop) (I : Nat → σ → Prop) (e i0 : Nat) (s : σ) (hi : i0 ≤ e) (h0 : I i0 s) (hx : ∀ n s, I e s → W (n + 1) e s)
    (hs : ∀ n i s, i < e → I i s → (∀ s', I (i + 1) s' → W n (i + 1) s') → W (n + 1) i s) : ∃ n, W n i0 s :=
  ⟨e + 1, loop_i W I e hx hs (e + 1) i0 s hi (by omega) h0⟩
theorem pk_least (P : Nat → Prop) (h : ∃ k, P k) : ∃ k, P k ∧ ∀ j, j < k → ¬ P j := by
  obtain ⟨k, hk⟩ := h
  induction k using Nat.strongRecOn with
  | ind k ih =>
    by_cases e : ∃ j, j < k ∧ P j
    · obtain ⟨j, hj, pj⟩ := e
      exact ih j hj pj
    · exact ⟨k, hk, fun j hj pj => e ⟨j, hj, pj⟩⟩
end
section
/-! counts and folds over the numbers below a bound -/
noncomputable def sp_b (p : Prop) : Bool := @decide p (Classical.propDecidable p)
theorem sp_bt {p : Prop} : sp_b p = true ↔ p := @decide_eq_true_iff p (Classical.propDecidable p)
theorem sp_bf {p : Prop} : sp_b p = false ↔ ¬ p := by
  have h := sp_bt (p := p)
  cases c : sp_b p with
  | true => rw [c] at h; exact ⟨fun z => (by cases z), fun z => absurd (h.mp rfl) z⟩
  | false => rw [c] at h; exact ⟨fun _ z => (by cases h.mpr z), fun _ => rfl⟩
def sp_cn (P : Nat → Bool) : Nat → Nat
  | 0 => 0
  | k + 1 => sp_cn P k + (P k).toNat
theorem sp_cn_0 (P : Nat → Bool) : sp_cn P 0 = 0 := rfl
theorem sp_cn_s (P : Nat → Bool) (k : Nat) : sp_cn P (k + 1) = sp_cn P k + (P k).toNat := rfl
theorem sp_cn_t {P : Nat → Bool} {k : Nat} (h : P k = true) : sp_cn P (k + 1) = sp_cn P k + 1 := by rw [sp_cn_s, h]; rfl
theorem sp_cn_f {P : Nat → Bool} {k : Nat} (h : P k = false) : sp_cn P (k + 1) = sp_cn P k := by rw [sp_cn_s, h]; rfl
theorem sp_tn (c : Bool) : c.toNat ≤ 1 := by cases c <;> decide
theorem sp_cn_le (P : Nat → Bool) : ∀ k, sp_cn P k ≤ k
  | 0 => Nat.le_refl 0
  | k + 1 => by have := sp_cn_le P k; have := sp_tn (P k); rw [sp_cn_s]; omega
theorem sp_cn_mono (P : Nat → Bool) {j k : Nat} (h : j ≤ k) : sp_cn P j ≤ sp_cn P k := by
  induction k with
  | zero => rw [show j = 0 by omega]; exact Nat.le_refl _
  | succ k ih =>
    by_cases e : j = k + 1
    · rw [e]; exact Nat.le_refl _
    · have := ih (by omega); rw [sp_cn_s]; omega
theorem sp_cn_lt {P : Nat → Bool} {j k : Nat} (h : P j = true) (hj : j < k) : sp_cn P j < sp_cn P k := by
  have := sp_cn_mono P (j := j + 1) (k := k) hj
  rw [sp_cn_t h] at this
  omega
theorem sp_cn_nth {P : Nat → Bool} {i : Nat} : ∀ {N : Nat}, i < sp_cn P N → ∃ x, x < N ∧ P x = true ∧ sp_cn P x = i
  | 0, h => by rw [sp_cn_0] at h; omega
  | N + 1, h => by
    by_cases e : i < sp_cn P N
    · obtain ⟨x, h1, h2, h3⟩ := sp_cn_nth e
      exact ⟨x, by omega, h2, h3⟩
    · cases c : P N with
      | true => rw [sp_cn_t c] at h; exact ⟨N, by omega, c, by omega⟩
      | false => rw [sp_cn_f c] at h; omega
theorem sp_cn_inj {P : Nat → Bool} {x y : Nat} (hx : P x = true) (hy : P y = true) (h : sp_cn P x = sp_cn P y) : x = y := by
  rcases Nat.lt_trichotomy x y with e | e | e
  · have := sp_cn_lt hx e; omega
  · exact e
  · have := sp_cn_lt hy e; omega
theorem sp_cn_next {P : Nat → Bool} {y N : Nat} (h : sp_cn P y < sp_cn P N) : ∃ z, y ≤ z ∧ z < N ∧ P z = true ∧ sp_cn P z = sp_cn P y ∧ ∀ w, y ≤ w → w < z → P w = false := by
  obtain ⟨z, h1, h2, h3⟩ := sp_cn_nth h
  refine ⟨z, ?_, h1, h2, h3, ?_⟩
  · refine Nat.le_of_not_lt fun e => ?_
    have := sp_cn_lt h2 e; omega
  · intro w hw hz
    cases c : P w with
    | false => rfl
    | true =>
      have := sp_cn_lt c hz
      have := sp_cn_mono P hw
      omega
theorem sp_cn_none {P : Nat → Bool} : ∀ {N : Nat}, (∀ k, k < N → P k = false) → sp_cn P N = 0
  | 0, _ => rfl
  | N + 1, h => by rw [sp_cn_f (h N (by omega))]; exact sp_cn_none fun k hk => h k (by omega)
theorem sp_cn_sub {P Q : Nat → Bool} : ∀ {N : Nat}, (∀ k, k < N → P k = true → Q k = true) → sp_cn P N ≤ sp_cn Q N
  | 0, _ => Nat.le_refl 0
  | N + 1, h => by
    have h1 := sp_cn_sub (P := P) (Q := Q) (N := N) fun k hk => h k (by omega)
    cases c : P N with
    | true => rw [sp_cn_t c, sp_cn_t (h N (by omega) c)]; omega
    | false => rw [sp_cn_f c, sp_cn_s]; omega
theorem sp_cn_dec {P Q : Nat → Bool} {k0 : Nat} (hP : P k0 = false) (hQ : Q k0 = true) : ∀ {N : Nat}, k0 < N → (∀ k, k < N → P k = true → Q k = true) → sp_cn P N < sp_cn Q N
  | 0, h, _ => by omega
  | N + 1, h, hs => by
    by_cases e : k0 = N
    · subst e
      have := sp_cn_sub (P := P) (Q := Q) (N := k0) fun k hk => hs k (by omega)
      rw [sp_cn_f hP, sp_cn_t hQ]; omega
    · have h1 := sp_cn_dec hP hQ (N := N) (by omega) fun k hk => hs k (by omega)
      cases c : P N with
      | true => rw [sp_cn_t c, sp_cn_t (hs N (by omega) c)]; omega
      | false => rw [sp_cn_f c, sp_cn_s]; omega
theorem sp_cn_con {P Q : Nat → Bool} : ∀ {N : Nat}, (∀ k, k < N → P k = Q k) → sp_cn P N = sp_cn Q N
  | 0, _ => rfl
  | N + 1, h => by rw [sp_cn_s, sp_cn_s, h N (by omega), sp_cn_con fun k hk => h k (by omega)]
theorem sp_cn_6 (P : Nat → Bool) : ∀ N : Nat, sp_cn P (6 * N) = sp_cn (fun x => P (6 * x)) N + sp_cn (fun x => P (6 * x + 1)) N + sp_cn (fun x => P (6 * x + 2)) N + sp_cn (fun x => P (6 * x + 3)) N + sp_cn (fun x => P (6 * x + 4)) N + sp_cn (fun x => P (6 * x + 5)) N
  | 0 => rfl
  | N + 1 => by
    have h := sp_cn_6 P N
    rw [show 6 * (N + 1) = 6 * N + 1 + 1 + 1 + 1 + 1 + 1 by omega]
    simp only [sp_cn_s]
    rw [h]
    simp only [Nat.add_assoc]
    omega
def sp_fo {σ : Type} (P : Nat → Bool) (f : σ → Nat → σ) (s : σ) : Nat → σ
  | 0 => s
  | k + 1 => if P k = true then f (sp_fo P f s k) k else sp_fo P f s k
theorem sp_fo_t {σ : Type} {P : Nat → Bool} {f : σ → Nat → σ} {s : σ} {k : Nat} (h : P k = true) : sp_fo P f s (k + 1) = f (sp_fo P f s k) k := if_pos h
theorem sp_fo_f {σ : Type} {P : Nat → Bool} {f : σ → Nat → σ} {s : σ} {k : Nat} (h : P k = false) : sp_fo P f s (k + 1) = sp_fo P f s k := if_neg (by rw [h]; decide)
theorem sp_fo_gap {σ : Type} {P : Nat → Bool} {f : σ → Nat → σ} {s : σ} {y : Nat} : ∀ {z : Nat}, y ≤ z → (∀ w, y ≤ w → w < z → P w = false) → sp_fo P f s z = sp_fo P f s y
  | 0, h, _ => by rw [show y = 0 by omega]
  | z + 1, h, hw => by
    by_cases e : y = z + 1
    · rw [e]
    · rw [sp_fo_f (hw z (by omega) (by omega))]
      exact sp_fo_gap (by omega) fun w h1 h2 => hw w h1 (by omega)
/-- a loop over the list of those below N that satisfy P -/
theorem sp_lst {σ : Type} (P : Nat → Bool) (N : Nat) (W : Nat → Nat → σ → Prop) (f : σ → Nat → σ) (s0 : σ)
    (hx : ∀ n, W (n + 1) (sp_cn P N) (sp_fo P f s0 N))
    (hs : ∀ n x s, x < N → P x = true → sp_cn P x < sp_cn P N → W n (sp_cn P x + 1) (f s x) → W (n + 1) (sp_cn P x) s) : ∃ n, W n 0 s0 := by
  have key : ∀ d y, y ≤ N → sp_cn P y + d = sp_cn P N → W (d + 1) (sp_cn P y) (sp_fo P f s0 y) := by
    intro d
    induction d with
    | zero =>
      intro y hy he
      have e : sp_fo P f s0 N = sp_fo P f s0 y := sp_fo_gap hy fun w h1 h2 => by
        cases c : P w with
        | false => rfl
        | true =>
          have := sp_cn_lt c h2
          have := sp_cn_mono P h1
          omega
      rw [← e, show sp_cn P y = sp_cn P N by omega]
      exact hx 0
    | succ d ih =>
      intro y hy he
      obtain ⟨z, h1, h2, h3, h4, h5⟩ := sp_cn_next (P := P) (y := y) (N := N) (by omega)
      have e : sp_fo P f s0 z = sp_fo P f s0 y := sp_fo_gap h1 h5
      have h6 := ih (z + 1) (by omega) (by rw [sp_cn_t h3]; omega)
      rw [sp_cn_t h3, sp_fo_t h3, e] at h6
      rw [← h4]
      exact hs _ z _ h2 h3 (by omega) h6
  exact ⟨_, key (sp_cn P N) 0 (Nat.zero_le _) (by rw [sp_cn_0]; omega)⟩
/-- a loop over all below N that acts on those that satisfy P -/
theorem sp_xl {σ : Type} (P : Nat → Bool) (N : Nat) (W : Nat → Nat → σ → Prop) (f : σ → Nat → σ) (s0 : σ)
    (hx : ∀ n, W (n + 1) N (sp_fo P f s0 N))
    (hs : ∀ n x s, x < N → (P x = true → W n (x + 1) (f s x)) → (P x = false → W n (x + 1) s) → W (n + 1) x s) : ∃ n, W n 0 s0 :=
  loop_0 W (fun i s => s = sp_fo P f s0 i) N s0 rfl (fun n s h => by rw [h]; exact hx n) (fun n i s hi h k => by
    have h1 : P i = true → W n (i + 1) (f s i) := fun c => k _ (by rw [sp_fo_t c, h])
    have h2 : P i = false → W n (i + 1) s := fun c => k _ (by rw [sp_fo_f c, h])
    exact hs n i s hi h1 h2)
/-- what holds of all folds -/
theorem sp_fo_ind {σ : Type} {P : Nat → Bool} {f : σ → Nat → σ} {s : σ} (I : Nat → σ → Prop) (h0 : I 0 s) {N : Nat}
    (ht : ∀ k t, k < N → P k = true → I k t → I (k + 1) (f t k)) (hf : ∀ k t, k < N → P k = false → I k t → I (k + 1) t) : ∀ k, k ≤ N → I k (sp_fo P f s k)
  | 0, _ => h0
  | k + 1, hk => by
    have ih := sp_fo_ind I h0 ht hf k (by omega)
    cases c : P k with
    | true => rw [sp_fo_t c]; exact ht k _ (by omega) c ih
    | false => rw [sp_fo_f c]; exact hf k _ (by omega) c ih
/-- the same loop by what holds of its state -/
theorem sp_lsi {σ : Type} (P : Nat → Bool) (N : Nat) (W : Nat → Nat → σ → Prop) (I : Nat → σ → Prop) (s0 : σ) (h0 : I 0 s0)
    (hgap : ∀ y s, y < N → P y = false → I y s → I (y + 1) s)
    (hx : ∀ n s, I N s → W (n + 1) (sp_cn P N) s)
    (hs : ∀ n x s, x < N → P x = true → sp_cn P x < sp_cn P N → I x s → (∀ s', I (x + 1) s' → W n (sp_cn P x + 1) s') → W (n + 1) (sp_cn P x) s) : ∃ n, W n 0 s0 := by
  have gap : ∀ z y s, y ≤ z → z ≤ N → (∀ w, y ≤ w → w < z → P w = false) → I y s → I z s := by
    intro z
    induction z with
    | zero => intro y s h _ _ k; rw [show y = 0 by omega] at k; exact k
    | succ z ih =>
      intro y s h hz hw k
      by_cases e : y = z + 1
      · rw [← e]; exact k
      · exact hgap z s (by omega) (hw z (by omega) (by omega)) (ih y s (by omega) (by omega) (fun w h1 h2 => hw w h1 (by omega)) k)
  have key : ∀ d y s, y ≤ N → sp_cn P y + d = sp_cn P N → I y s → W (d + 1) (sp_cn P y) s := by
    intro d
    induction d with
    | zero =>
      intro y s hy he k
      rw [show sp_cn P y = sp_cn P N by omega]
      refine hx 0 s (gap N y s hy (Nat.le_refl N) (fun w h1 h2 => ?_) k)
      cases c : P w with
      | false => rfl
      | true =>
        have := sp_cn_lt c h2
        have := sp_cn_mono P h1
        omega
    | succ d ih =>
      intro y s hy he k
      obtain ⟨z, h1, h2, h3, h4, h5⟩ := sp_cn_next (P := P) (y := y) (N := N) (by omega)
      have kz := gap z y s h1 (by omega) h5 k
      rw [← h4]
      refine hs _ z s h2 h3 (by omega) kz fun s' k' => ?_
      have h6 := ih (z + 1) s' (by omega) (by rw [sp_cn_t h3]; omega) k'
      rw [sp_cn_t h3] at h6
      exact h6
  exact ⟨_, key (sp_cn P N) 0 s0 (Nat.zero_le _) (by rw [sp_cn_0]; omega) h0⟩
end
section
/-! stable matchings: there is one, all pair the same seekers, there are few -/
def sp_d (x s : Nat) : Nat := x / 6 ^ s % 6
theorem sp_d_0 (x : Nat) : sp_d x 0 = x % 6 := by rw [sp_d, Nat.pow_zero, Nat.div_one]
theorem sp_d_s (x s : Nat) : sp_d x (s + 1) = sp_d (x / 6) s := by
  rw [sp_d, sp_d, Nat.pow_succ, Nat.mul_comm, ← Nat.div_div_eq_div_mul]
theorem sp_d_lt (x s : Nat) : sp_d x s < 6 := Nat.mod_lt _ (by decide)
theorem sp_enc : ∀ (n : Nat) (m : Nat → Nat), (∀ s, s < n → m s < 6) → ∃ x, x < 6 ^ n ∧ ∀ s, s < n → sp_d x s = m s
  | 0, _, _ => ⟨0, by decide, fun s hs => by omega⟩
  | n + 1, m, h => by
    obtain ⟨x, hx, hd⟩ := sp_enc n (fun s => m (s + 1)) fun s hs => h (s + 1) (by omega)
    have h0 := h 0 (by omega)
    refine ⟨m 0 + 6 * x, ?_, ?_⟩
    · rw [Nat.pow_succ]; omega
    · intro s hs
      cases s with
      | zero => rw [sp_d_0]; omega
      | succ s =>
        rw [sp_d_s, show (m 0 + 6 * x) / 6 = x by omega]
        exact hd s (by omega)
def sp_fit (a b : Nat → Int32) (s p : Nat) : Prop := 0 < a (5 * s + p) ∧ 0 < b (5 * p + s)
def sp_pr (a : Nat → Int32) (s p q : Nat) : Prop := a (5 * s + q) < a (5 * s + p) ∨ (a (5 * s + p) = a (5 * s + q) ∧ p < q)
theorem sp_pr_i {a : Nat → Int32} {s p q : Nat} : sp_pr a s p q ↔ (a (5 * s + q)).toInt < (a (5 * s + p)).toInt ∨ ((a (5 * s + p)).toInt = (a (5 * s + q)).toInt ∧ p < q) := by
  rw [sp_pr, Int32.lt_iff_toInt_lt, Int32.toInt_inj]
theorem sp_pr_irr {a : Nat → Int32} {s p : Nat} : ¬ sp_pr a s p p := by
  rw [sp_pr_i]; omega
theorem sp_pr_tr {a : Nat → Int32} {s p q r : Nat} (h : sp_pr a s p q) (k : sp_pr a s q r) : sp_pr a s p r := by
  rw [sp_pr_i] at h k ⊢; omega
theorem sp_pr_tot {a : Nat → Int32} {s p q : Nat} (h : p ≠ q) : sp_pr a s p q ∨ sp_pr a s q p := by
  rw [sp_pr_i, sp_pr_i]; omega
/-- a choice of digits that is a matching which no pair blocks -/
def sp_SM (n : Nat) (F : Nat → Nat → Prop) (A B : Nat → Nat → Nat → Prop) (m : Nat → Nat) : Prop :=
  (∀ s, s < n → m s ≠ 0 → m s ≤ n ∧ F s (m s - 1)) ∧ (∀ s t, s < n → t < n → m s ≠ 0 → m s = m t → s = t) ∧
  (∀ s p, s < n → p < n → F s p → (m s = 0 ∨ A s p (m s - 1)) → ¬ ∀ t, t < n → m t = p + 1 → B p s t)
theorem sp_bst (G : Nat → Prop) (R : Nat → Nat → Prop) (htr : ∀ p q r, R p q → R q r → R p r) (htot : ∀ p q, p ≠ q → R p q ∨ R q p) : ∀ n : Nat, (∀ p, p < n → ¬ G p) ∨ ∃ p, p < n ∧ G p ∧ ∀ q, q < n → G q → q = p ∨ R p q
  | 0 => Or.inl fun p hp => by omega
  | n + 1 => by
    by_cases g : G n
    · rcases sp_bst G R htr htot n with h | ⟨p, h1, h2, h3⟩
      · refine Or.inr ⟨n, by omega, g, fun q hq gq => ?_⟩
        by_cases e : q = n
        · exact Or.inl e
        · exact absurd gq (h q (by omega))
      · rcases htot p n (by omega) with r | r
        · refine Or.inr ⟨p, by omega, h2, fun q hq gq => ?_⟩
          by_cases e : q = n
          · exact Or.inr (e ▸ r)
          · exact h3 q (by omega) gq
        · refine Or.inr ⟨n, by omega, g, fun q hq gq => ?_⟩
          by_cases e : q = n
          · exact Or.inl e
          · rcases h3 q (by omega) gq with k | k
            · exact Or.inr (k ▸ r)
            · exact Or.inr (htr _ _ _ r k)
    · rcases sp_bst G R htr htot n with h | ⟨p, h1, h2, h3⟩
      · refine Or.inl fun p hp gp => ?_
        by_cases e : p = n
        · exact g (e ▸ gp)
        · exact h p (by omega) gp
      · refine Or.inr ⟨p, by omega, h2, fun q hq gq => ?_⟩
        by_cases e : q = n
        · exact (g (e ▸ gq)).elim
        · exact h3 q (by omega) gq
theorem sp_SM_cut {n : Nat} {F : Nat → Nat → Prop} {A B : Nat → Nat → Nat → Prop} {m : Nat → Nat} {s t p : Nat}
    (Btr : ∀ p q r u, B p q r → B p r u → B p q u) (Birr : ∀ p q, ¬ B p q q)
    (hs : s < n) (hp : p < n) (hst : s ≠ t) (hB : B p s t) (hF : F s p) (hbest : ∀ q, q < n → F s q → q = p ∨ A s p q)
    (h : sp_SM n (fun s' q => F s' q ∧ ¬ (s' = t ∧ q = p)) A B m) : sp_SM n F A B m := by
  obtain ⟨h1, h2, h3⟩ := h
  refine ⟨fun s' hs' hm => ⟨(h1 s' hs' hm).1, (h1 s' hs' hm).2.1⟩, h2, ?_⟩
  intro s' q hs' hq hf hc hall
  by_cases e : s' = t ∧ q = p
  · obtain ⟨e1, e2⟩ := e
    subst e1
    subst e2
    refine h3 s q hs hq ⟨hF, fun z => hst z.1⟩ ?_ fun t' ht' hm => Btr _ _ _ _ hB (hall t' ht' hm)
    by_cases z : m s = 0
    · exact Or.inl z
    · obtain ⟨k1, k2⟩ := h1 s hs z
      rcases hbest (m s - 1) (by omega) k2.1 with k | k
      · exact absurd (Btr _ _ _ _ hB (hall s hs (by omega))) (Birr _ _)
      · exact Or.inr k
  · exact h3 s' q hs' hq ⟨hf, e⟩ hc hall
theorem sp_SM_ex {n : Nat} (hn : n ≤ 5) {A B : Nat → Nat → Nat → Prop}
    (Atr : ∀ p q r u, A p q r → A p r u → A p q u) (Airr : ∀ p q, ¬ A p q q) (Atot : ∀ p q r, q ≠ r → A p q r ∨ A p r q)
    (Btr : ∀ p q r u, B p q r → B p r u → B p q u) (Birr : ∀ p q, ¬ B p q q) (Btot : ∀ p q r, q ≠ r → B p q r ∨ B p r q) :
    ∀ (c : Nat) (F : Nat → Nat → Prop), sp_cn (fun k => sp_b (F (k / 5) (k % 5))) 25 < c → ∃ m, sp_SM n F A B m := by
  intro c
  induction c with
  | zero => intro F h; omega
  | succ c ih =>
    intro F hc
    have hb : ∀ s, ∃ d, (d = 0 ∧ ∀ p, p < n → ¬ F s p) ∨ ∃ p, p < n ∧ d = p + 1 ∧ F s p ∧ ∀ q, q < n → F s q → q = p ∨ A s p q := by
      intro s
      rcases sp_bst (F s) (A s) (Atr s) (Atot s) n with h | ⟨p, h1, h2, h3⟩
      · exact ⟨0, Or.inl ⟨rfl, h⟩⟩
      · exact ⟨p + 1, Or.inr ⟨p, h1, rfl, h2, h3⟩⟩
    obtain ⟨m, hm⟩ := Classical.axiomOfChoice hb
    by_cases inj : ∀ s t, s < n → t < n → m s ≠ 0 → m s = m t → s = t
    · refine ⟨m, ?_, inj, ?_⟩
      · intro s hs z
        rcases hm s with ⟨h, _⟩ | ⟨p, h1, h2, h3, _⟩
        · exact absurd h z
        · rw [h2]; exact ⟨h1, h3⟩
      · intro s p hs hp hf hcond _
        rcases hm s with ⟨_, h⟩ | ⟨q, h1, h2, h3, h4⟩
        · exact h p hp hf
        · rw [h2] at hcond
          rcases hcond with z | z
          · omega
          · rw [Nat.add_sub_cancel] at z
            rcases h4 p hp hf with k | k
            · subst k; exact Airr _ _ z
            · exact Airr _ _ (Atr _ _ _ _ z k)
    · have inj' : ∃ s t, s < n ∧ t < n ∧ m s ≠ 0 ∧ m s = m t ∧ s ≠ t := by
        refine Classical.byContradiction fun z => inj fun s t hs ht h0 he => ?_
        refine Classical.byContradiction fun k => z ⟨s, t, hs, ht, h0, he, k⟩
      have key : ∀ s t p, s < n → t < n → p < n → s ≠ t → F s p → F t p → B p s t → (∀ q, q < n → F s q → q = p ∨ A s p q) → ∃ m, sp_SM n F A B m := by
        intro s t p hs ht hp hst f1 f2 hB hbest
        obtain ⟨m', hm'⟩ := ih (fun s' q => F s' q ∧ ¬ (s' = t ∧ q = p)) (by
          refine Nat.lt_of_lt_of_le (sp_cn_dec (Q := fun k => sp_b (F (k / 5) (k % 5))) (k0 := 5 * t + p) ?_ ?_ (by omega) ?_) (Nat.le_of_lt_succ hc)
          · exact sp_bf.mpr fun z => z.2 ⟨by omega, by omega⟩
          · refine sp_bt.mpr ?_
            show F ((5 * t + p) / 5) ((5 * t + p) % 5)
            rw [show (5 * t + p) / 5 = t by omega, show (5 * t + p) % 5 = p by omega]
            exact f2
          · exact fun k _ z => sp_bt.mpr (sp_bt.mp z).1)
        exact ⟨m', sp_SM_cut Btr Birr hs hp hst hB f1 hbest hm'⟩
      obtain ⟨s, t, hs, ht, h0, he, hst⟩ := inj'
      rcases hm s with ⟨h, _⟩ | ⟨p, h1, h2, h3, h4⟩
      · exact absurd h h0
      · rcases hm t with ⟨h, _⟩ | ⟨q, k1, k2, k3, k4⟩
        · omega
        · have e : q = p := by omega
          subst e
          rcases Btot q s t hst with r | r
          · exact key s t q hs ht h1 hst h3 k3 r h4
          · exact key t s q ht hs h1 (Ne.symm hst) k3 h3 r k4
/-- x is the number of a matching -/
def sp_M (n : Nat) (a b : Nat → Int32) (x : Nat) : Prop :=
  x < 6 ^ n ∧ (∀ s, s < n → sp_d x s ≠ 0 → sp_d x s ≤ n ∧ sp_fit a b s (sp_d x s - 1)) ∧ (∀ s t, s < n → t < n → sp_d x s ≠ 0 → sp_d x s = sp_d x t → s = t)
def sp_Bk (n : Nat) (a b : Nat → Int32) (x s p : Nat) : Prop :=
  sp_fit a b s p ∧ (sp_d x s = 0 ∨ sp_pr a s p (sp_d x s - 1)) ∧ ∀ t, t < n → sp_d x t = p + 1 → sp_pr b p s t
def sp_St (n : Nat) (a b : Nat → Int32) (x : Nat) : Prop := sp_M n a b x ∧ ∀ s p, s < n → p < n → ¬ sp_Bk n a b x s p
theorem sp_ex {n : Nat} (hn : n ≤ 5) (a b : Nat → Int32) : ∃ x, x < 6 ^ n ∧ sp_St n a b x := by
  obtain ⟨m, h1, h2, h3⟩ := sp_SM_ex hn (A := sp_pr a) (B := sp_pr b) (fun _ _ _ _ => sp_pr_tr) (fun _ _ => sp_pr_irr) (fun _ _ _ => sp_pr_tot)
    (fun _ _ _ _ => sp_pr_tr) (fun _ _ => sp_pr_irr) (fun _ _ _ => sp_pr_tot) _ (sp_fit a b) (Nat.lt_succ_self _)
  obtain ⟨x, hx, hd⟩ := sp_enc n m fun s hs => by
    by_cases z : m s = 0
    · omega
    · have := (h1 s hs z).1; omega
  refine ⟨x, hx, ⟨hx, ?_, ?_⟩, ?_⟩
  · intro s hs; rw [hd s hs]; exact h1 s hs
  · intro s t hs ht; rw [hd s hs, hd t ht]; exact h2 s t hs ht
  · intro s p hs hp ⟨k1, k2, k3⟩
    rw [hd s hs] at k2
    exact h3 s p hs hp k1 k2 fun t ht e => k3 t ht (by rw [hd t ht]; exact e)
theorem sp_pig : ∀ (n : Nat) (g : Nat → Nat), (∀ i, i ≤ n → g i < n) → (∀ i j, i < j → j ≤ n → g i ≠ g j) → False
  | 0, g, h, _ => by have := h 0 (Nat.le_refl 0); omega
  | n + 1, g, h, k => by
    refine sp_pig n (fun i => if g i = n then g (n + 1) else g i) ?_ ?_
    · intro i hi
      have h1 := h i (by omega)
      have h2 := h (n + 1) (Nat.le_refl _)
      have h3 := k i (n + 1) (by omega) (Nat.le_refl _)
      show (if g i = n then g (n + 1) else g i) < n
      split <;> omega
    · intro i j hij hj
      have h1 := k i j hij (by omega)
      have h2 := k i (n + 1) (by omega) (Nat.le_refl _)
      have h3 := k j (n + 1) (by omega) (Nat.le_refl _)
      show (if g i = n then g (n + 1) else g i) ≠ (if g j = n then g (n + 1) else g j)
      split <;> split <;> omega
/-- the seekers that have it better in x than in y -/
def sp_A (n : Nat) (a : Nat → Int32) (x y t : Nat) : Prop := t < n ∧ sp_d x t ≠ 0 ∧ (sp_d y t = 0 ∨ sp_pr a t (sp_d x t - 1) (sp_d y t - 1))
theorem sp_A_step {n : Nat} {a b : Nat → Int32} {x y : Nat} (hx : sp_St n a b x) (hy : sp_St n a b y) {t : Nat} (ht : sp_A n a x y t) : ∃ t', sp_A n a x y t' ∧ sp_d y t' = sp_d x t := by
  obtain ⟨t1, t2, t3⟩ := ht
  obtain ⟨⟨_, x2, x3⟩, x4⟩ := hx
  obtain ⟨⟨_, y2, y3⟩, y4⟩ := hy
  obtain ⟨p1, p2⟩ := x2 t t1 t2
  have hp : sp_d x t - 1 < n := by omega
  have hex : ∃ t', t' < n ∧ sp_d y t' = sp_d x t - 1 + 1 ∧ ¬ sp_pr b (sp_d x t - 1) t t' := by
    refine Classical.byContradiction fun z => y4 t (sp_d x t - 1) t1 hp ⟨p2, t3, fun t' h1 h2 => ?_⟩
    exact Classical.byContradiction fun k => z ⟨t', h1, h2, k⟩
  obtain ⟨t', h1, h2, h3⟩ := hex
  have e : sp_d y t' = sp_d x t := by omega
  have hne : t ≠ t' := by
    intro z
    subst z
    rcases t3 with k | k
    · omega
    · rw [e] at k; exact sp_pr_irr k
  have hb : sp_pr b (sp_d x t - 1) t' t := (sp_pr_tot hne).resolve_left h3
  have hf := (y2 t' h1 (by omega)).2
  rw [e] at hf
  have hnb : ¬ (sp_d x t' = 0 ∨ sp_pr a t' (sp_d x t - 1) (sp_d x t' - 1)) := by
    intro z
    refine x4 t' (sp_d x t - 1) h1 hp ⟨hf, z, fun t'' k1 k2 => ?_⟩
    have : t = t'' := x3 t t'' t1 k1 t2 (by omega)
    exact this ▸ hb
  have n1 : sp_d x t' ≠ 0 := fun z => hnb (Or.inl z)
  have n2 : sp_d x t - 1 ≠ sp_d x t' - 1 := by
    intro z
    exact hne (x3 t t' t1 h1 t2 (by omega))
  refine ⟨t', ⟨h1, n1, Or.inr ?_⟩, e⟩
  rw [e]
  exact (sp_pr_tot n2).resolve_left fun z => hnb (Or.inr z)
theorem sp_rur {n : Nat} {a b : Nat → Int32} {x y : Nat} (hx : sp_St n a b x) (hy : sp_St n a b y) {s : Nat} (hs : s < n) (h : sp_d x s ≠ 0) : sp_d y s ≠ 0 := by
  intro hz
  have hch : ∀ t, ∃ t', sp_A n a x y t → sp_A n a x y t' ∧ sp_d y t' = sp_d x t := by
    intro t
    by_cases e : sp_A n a x y t
    · obtain ⟨t', h⟩ := sp_A_step hx hy e
      exact ⟨t', fun _ => h⟩
    · exact ⟨0, fun z => absurd z e⟩
  obtain ⟨f, hf⟩ := Classical.axiomOfChoice hch
  have hg : ∃ g : Nat → Nat, g 0 = s ∧ ∀ i, g (i + 1) = f (g i) := ⟨fun i => @Nat.rec (fun _ => Nat) s (fun _ r => f r) i, rfl, fun _ => rfl⟩
  obtain ⟨g, g0, gs⟩ := hg
  have hA : ∀ i, sp_A n a x y (g i) := by
    intro i
    induction i with
    | zero => rw [g0]; exact ⟨hs, h, Or.inl hz⟩
    | succ i ih => rw [gs]; exact (hf _ ih).1
  have hd : ∀ i, sp_d y (g (i + 1)) = sp_d x (g i) := fun i => by rw [gs]; exact (hf _ (hA i)).2
  have hne : ∀ i j, i < j → g i ≠ g j := by
    intro i
    induction i with
    | zero =>
      intro j hj e
      obtain ⟨j, rfl⟩ : ∃ k, j = k + 1 := ⟨j - 1, by omega⟩
      have h1 := hd j
      rw [← e, g0, hz] at h1
      exact (hA j).2.1 h1.symm
    | succ i ih =>
      intro j hj e
      obtain ⟨j, rfl⟩ : ∃ k, j = k + 1 := ⟨j - 1, by omega⟩
      have h1 := hd j
      rw [← e, hd i] at h1
      exact ih j (by omega) (hx.1.2.2 _ _ (hA i).1 (hA j).1 (hA i).2.1 h1)
  exact sp_pig n g (fun i _ => (hA i).1) (fun i j hij _ => hne i j hij)
/-- words without a repeated digit other than 0, which stands where the list says so -/
def sp_Q : List Bool → List Nat → Nat → Bool
  | [], _, _ => true
  | true :: zs, us, x => x % 6 == 0 && sp_Q zs us (x / 6)
  | false :: zs, us, x => !(x % 6 == 0) && (!(us.contains (x % 6)) && sp_Q zs (x % 6 :: us) (x / 6))
def sp_T : List Bool → List Nat → Nat
  | [], _ => 1
  | true :: zs, us => sp_T zs us
  | false :: zs, us => (bif us.contains 1 then 0 else sp_T zs (1 :: us)) + (bif us.contains 2 then 0 else sp_T zs (2 :: us)) + (bif us.contains 3 then 0 else sp_T zs (3 :: us)) + (bif us.contains 4 then 0 else sp_T zs (4 :: us)) + (bif us.contains 5 then 0 else sp_T zs (5 :: us))
theorem sp_Qt (zs : List Bool) (us : List Nat) (x d : Nat) (hd : d < 6) : sp_Q (true :: zs) us (6 * x + d) = (d == 0 && sp_Q zs us x) := by
  show ((6 * x + d) % 6 == 0 && sp_Q zs us ((6 * x + d) / 6)) = _
  rw [show (6 * x + d) % 6 = d by omega, show (6 * x + d) / 6 = x by omega]
theorem sp_Qf (zs : List Bool) (us : List Nat) (x d : Nat) (hd : d < 6) : sp_Q (false :: zs) us (6 * x + d) = (!(d == 0) && (!(us.contains d) && sp_Q zs (d :: us) x)) := by
  show (!((6 * x + d) % 6 == 0) && (!(us.contains ((6 * x + d) % 6)) && sp_Q zs ((6 * x + d) % 6 :: us) ((6 * x + d) / 6))) = _
  rw [show (6 * x + d) % 6 = d by omega, show (6 * x + d) / 6 = x by omega]
theorem sp_Qt0 (zs : List Bool) (us : List Nat) (N d : Nat) (h0 : 0 < d) (hd : d < 6) : sp_cn (fun x => sp_Q (true :: zs) us (6 * x + d)) N = 0 :=
  sp_cn_none fun k _ => by
    show sp_Q (true :: zs) us (6 * k + d) = false
    rw [sp_Qt zs us k d hd, show (d == 0) = false from beq_eq_false_iff_ne.mpr (by omega)]
    rfl
theorem sp_Qc (zs : List Bool) (us : List Nat) (N d : Nat) (h0 : 0 < d) (hd : d < 6) (h : sp_cn (sp_Q zs (d :: us)) N ≤ sp_T zs (d :: us)) : sp_cn (fun x => sp_Q (false :: zs) us (6 * x + d)) N ≤ bif us.contains d then 0 else sp_T zs (d :: us) := by
  have e0 : (d == 0) = false := beq_eq_false_iff_ne.mpr (by omega)
  cases c : us.contains d with
  | true =>
    have h1 : sp_cn (fun x => sp_Q (false :: zs) us (6 * x + d)) N = 0 := sp_cn_none fun k _ => by
      show sp_Q (false :: zs) us (6 * k + d) = false
      rw [sp_Qf zs us k d hd, e0, c]; rfl
    rw [h1]
    exact Nat.le_refl 0
  | false =>
    have h1 : sp_cn (fun x => sp_Q (false :: zs) us (6 * x + d)) N = sp_cn (sp_Q zs (d :: us)) N := sp_cn_con fun k _ => by
      show sp_Q (false :: zs) us (6 * k + d) = _
      rw [sp_Qf zs us k d hd, e0, c]; rfl
    rw [h1]
    exact h
theorem sp_Qf0 (zs : List Bool) (us : List Nat) (N : Nat) : sp_cn (fun x => sp_Q (false :: zs) us (6 * x)) N = 0 :=
  sp_cn_none fun k _ => by
    show sp_Q (false :: zs) us (6 * k + 0) = false
    rw [sp_Qf zs us k 0 (by decide)]; rfl
theorem sp_T_le : ∀ (zs : List Bool) (us : List Nat), sp_cn (sp_Q zs us) (6 ^ zs.length) ≤ sp_T zs us
  | [], us => sp_cn_le _ 1
  | true :: zs, us => by
    have ih := sp_T_le zs us
    rw [List.length_cons, Nat.pow_succ, Nat.mul_comm, sp_cn_6]
    rw [sp_Qt0 zs us _ 1 (by decide) (by decide), sp_Qt0 zs us _ 2 (by decide) (by decide), sp_Qt0 zs us _ 3 (by decide) (by decide), sp_Qt0 zs us _ 4 (by decide) (by decide), sp_Qt0 zs us _ 5 (by decide) (by decide)]
    have h1 : sp_cn (fun x => sp_Q (true :: zs) us (6 * x)) (6 ^ zs.length) = sp_cn (sp_Q zs us) (6 ^ zs.length) := sp_cn_con fun k _ => by
      show sp_Q (true :: zs) us (6 * k + 0) = _
      rw [sp_Qt zs us k 0 (by decide)]; rfl
    rw [h1]
    exact ih
  | false :: zs, us => by
    rw [List.length_cons, Nat.pow_succ, Nat.mul_comm, sp_cn_6, sp_Qf0]
    have h1 := sp_Qc zs us (6 ^ zs.length) 1 (by decide) (by decide) (sp_T_le zs _)
    have h2 := sp_Qc zs us (6 ^ zs.length) 2 (by decide) (by decide) (sp_T_le zs _)
    have h3 := sp_Qc zs us (6 ^ zs.length) 3 (by decide) (by decide) (sp_T_le zs _)
    have h4 := sp_Qc zs us (6 ^ zs.length) 4 (by decide) (by decide) (sp_T_le zs _)
    have h5 := sp_Qc zs us (6 ^ zs.length) 5 (by decide) (by decide) (sp_T_le zs _)
    show _ ≤ (bif us.contains 1 then 0 else sp_T zs (1 :: us)) + (bif us.contains 2 then 0 else sp_T zs (2 :: us)) + (bif us.contains 3 then 0 else sp_T zs (3 :: us)) + (bif us.contains 4 then 0 else sp_T zs (4 :: us)) + (bif us.contains 5 then 0 else sp_T zs (5 :: us))
    omega
def sp_pat : Nat → Nat → List Bool
  | 0, _ => []
  | k + 1, x => (x % 6 == 0) :: sp_pat k (x / 6)
theorem sp_pat_len : ∀ k x, (sp_pat k x).length = k
  | 0, _ => rfl
  | k + 1, x => by show (sp_pat k (x / 6)).length + 1 = k + 1; rw [sp_pat_len]
theorem sp_lk : ∀ (k : Nat) (us : List Nat) (x0 x : Nat), (∀ i, i < k → (sp_d x i = 0 ↔ sp_d x0 i = 0)) → (∀ i, i < k → sp_d x i ≠ 0 → us.contains (sp_d x i) = false) → (∀ i j, i < k → j < k → sp_d x i ≠ 0 → sp_d x i = sp_d x j → i = j) → sp_Q (sp_pat k x0) us x = true
  | 0, _, _, _, _, _, _ => rfl
  | k + 1, us, x0, x, h1, h2, h3 => by
    have z := h1 0 (by omega)
    rw [sp_d_0, sp_d_0] at z
    have g1 : ∀ i, i < k → (sp_d (x / 6) i = 0 ↔ sp_d (x0 / 6) i = 0) := fun i hi => by
      rw [← sp_d_s, ← sp_d_s]; exact h1 (i + 1) (by omega)
    have g3 : ∀ i j, i < k → j < k → sp_d (x / 6) i ≠ 0 → sp_d (x / 6) i = sp_d (x / 6) j → i = j := fun i j hi hj => by
      rw [← sp_d_s, ← sp_d_s]
      intro p q
      have := h3 (i + 1) (j + 1) (by omega) (by omega) p q
      omega
    show sp_Q ((x0 % 6 == 0) :: sp_pat k (x0 / 6)) us x = true
    by_cases e : x0 % 6 = 0
    · have e2 : x % 6 = 0 := z.mpr e
      have ih := sp_lk k us (x0 / 6) (x / 6) g1 (fun i hi => by rw [← sp_d_s]; exact h2 (i + 1) (by omega)) g3
      rw [e]
      show (x % 6 == 0 && sp_Q (sp_pat k (x0 / 6)) us (x / 6)) = true
      have h9 : (x % 6 == 0 && sp_Q (sp_pat k (x0 / 6)) us (x / 6)) = (0 == 0 && true) := by rw [e2, ih]
      exact h9
    · have e2 : x % 6 ≠ 0 := fun c => e (z.mp c)
      have hu : us.contains (x % 6) = false := by
        have := h2 0 (by omega)
        rw [sp_d_0] at this
        exact this e2
      have ih := sp_lk k (x % 6 :: us) (x0 / 6) (x / 6) g1 (fun i hi => by
        rw [← sp_d_s]
        intro hz
        rw [List.contains_cons, h2 (i + 1) (by omega) hz, Bool.or_false]
        refine beq_eq_false_iff_ne.mpr fun c => ?_
        have := h3 (i + 1) 0 (by omega) (by omega) hz (by rw [sp_d_0]; exact c)
        omega) g3
      rw [show (x0 % 6 == 0) = false from beq_eq_false_iff_ne.mpr e]
      show (!(x % 6 == 0) && (!(us.contains (x % 6)) && sp_Q (sp_pat k (x0 / 6)) (x % 6 :: us) (x / 6))) = true
      have h9 : (!(x % 6 == 0) && (!(us.contains (x % 6)) && sp_Q (sp_pat k (x0 / 6)) (x % 6 :: us) (x / 6))) = (!false && (!false && true)) := by
        rw [hu, ih, show (x % 6 == 0) = false from beq_eq_false_iff_ne.mpr e2]
      exact h9
theorem sp_T2 : ∀ a b : Bool, sp_T [a, b] [] ≤ 256 := by decide +kernel
theorem sp_T3 : ∀ a b c : Bool, sp_T [a, b, c] [] ≤ 256 := by decide +kernel
theorem sp_T4 : ∀ a b c d : Bool, sp_T [a, b, c, d] [] ≤ 256 := by decide +kernel
theorem sp_T5 : ∀ a b c d e : Bool, sp_T [a, b, c, d, e] [] ≤ 256 := by decide +kernel
theorem sp_pat_T {n : Nat} (h2 : 2 ≤ n) (h5 : n ≤ 5) (x : Nat) : sp_T (sp_pat n x) [] ≤ 256 := by
  have : n = 2 ∨ n = 3 ∨ n = 4 ∨ n = 5 := by omega
  rcases this with rfl | rfl | rfl | rfl
  · exact sp_T2 _ _
  · exact sp_T3 _ _ _
  · exact sp_T4 _ _ _ _
  · exact sp_T5 _ _ _ _ _
/-- is x the number of a stable matching -/
noncomputable def sp_P (n : Nat) (a b : Nat → Int32) (x : Nat) : Bool := sp_b (sp_St n a b x)
theorem sp_few {n : Nat} (h2 : 2 ≤ n) (h5 : n ≤ 5) (a b : Nat → Int32) : sp_cn (sp_P n a b) (6 ^ n) ≤ 256 := by
  obtain ⟨x0, _, h0⟩ := sp_ex h5 a b
  have k1 : sp_cn (sp_P n a b) (6 ^ n) ≤ sp_cn (sp_Q (sp_pat n x0) []) (6 ^ n) := sp_cn_sub fun k _ hk => by
    have hk' : sp_St n a b k := sp_bt.mp hk
    refine sp_lk n [] x0 k (fun i hi => ⟨fun z => ?_, fun z => ?_⟩) (fun _ _ _ => rfl) hk'.1.2.2
    · exact Classical.byContradiction fun c => sp_rur h0 hk' hi c z
    · exact Classical.byContradiction fun c => sp_rur hk' h0 hi c z
  have k2 := sp_T_le (sp_pat n x0) []
  rw [sp_pat_len] at k2
  exact Nat.le_trans k1 (Nat.le_trans k2 (sp_pat_T h2 h5 x0))
/-! ranks and costs -/
noncomputable def sp_rk (n : Nat) (a b : Nat → Int32) (s p : Nat) : Nat := sp_cn (fun k => sp_b (sp_fit a b s k ∧ sp_pr a s k p)) n
noncomputable def sp_rq (n : Nat) (a b : Nat → Int32) (s p : Nat) : Nat := sp_cn (fun k => sp_b (sp_fit a b k p ∧ sp_pr b p k s)) n
noncomputable def sp_co (n : Nat) (a b : Nat → Int32) (x : Nat) : Nat → Nat
  | 0 => 0
  | s + 1 => sp_co n a b x s + (if sp_d x s = 0 then 0 else sp_rk n a b s (sp_d x s - 1) + sp_rq n a b s (sp_d x s - 1))
theorem sp_cn_hole {P : Nat → Bool} {k0 N : Nat} (h : P k0 = false) (hk : k0 < N) : sp_cn P N < N :=
  Nat.lt_of_lt_of_le (sp_cn_dec (Q := fun _ => true) h rfl hk fun _ _ _ => rfl) (sp_cn_le _ _)
theorem sp_co_le {n : Nat} {a b : Nat → Int32} {x : Nat} (h5 : n ≤ 5) (h : sp_M n a b x) : ∀ k, k ≤ n → sp_co n a b x k ≤ 8 * k
  | 0, _ => Nat.le_refl 0
  | k + 1, hk => by
    have ih := sp_co_le h5 h k (by omega)
    show sp_co n a b x k + (if sp_d x k = 0 then 0 else sp_rk n a b k (sp_d x k - 1) + sp_rq n a b k (sp_d x k - 1)) ≤ _
    by_cases z : sp_d x k = 0
    · rw [if_pos z]; omega
    · rw [if_neg z]
      have hp := (h.2.1 k (by omega) z).1
      have r1 : sp_rk n a b k (sp_d x k - 1) < n := sp_cn_hole (k0 := sp_d x k - 1) (sp_bf.mpr fun c => sp_pr_irr c.2) (by omega)
      have r2 : sp_rq n a b k (sp_d x k - 1) < n := sp_cn_hole (k0 := k) (sp_bf.mpr fun c => sp_pr_irr c.2) (by omega)
      omega
end
section
/-! the two tables as one, the pure steps of the questions, searches -/
def sp_jo (a b : Nat → Int32) : Nat → Int32 := fun j => if j < 25 then a j else b (j - 25)
theorem sp_jo_lo {a b : Nat → Int32} {j : Nat} (h : j < 25) : sp_jo a b j = a j := if_pos h
theorem sp_jo_hi {a b : Nat → Int32} (j : Nat) : sp_jo a b (25 + j) = b j := by
  rw [sp_jo, if_neg (by omega), Nat.add_sub_cancel_left]
theorem sp_jo_0 : sp_jo (fun _ => 0) (fun _ => 0) = fun _ => 0 := by
  funext j
  show (if j < 25 then (0 : Int32) else 0) = 0
  split <;> rfl
theorem sp_jo_ul {a b : Nat → Int32} {i : Nat} (v : Int32) (h : i < 25) : upd (sp_jo a b) i v = sp_jo (upd a i v) b := by
  funext j
  show (if j = i then v else (if j < 25 then a j else b (j - 25))) = (if j < 25 then (if j = i then v else a j) else b (j - 25))
  by_cases e : j = i
  · rw [if_pos e, if_pos (by omega), if_pos e]
  · rw [if_neg e, if_neg e]
theorem sp_jo_uh {a b : Nat → Int32} {i : Nat} (v : Int32) : upd (sp_jo a b) (25 + i) v = sp_jo a (upd b i v) := by
  funext j
  show (if j = 25 + i then v else (if j < 25 then a j else b (j - 25))) = (if j < 25 then a j else (if j - 25 = i then v else b (j - 25)))
  by_cases e : j = 25 + i
  · rw [if_pos e, if_neg (by omega), if_pos (by omega)]
  · rw [if_neg e]
    by_cases k : j < 25
    · rw [if_pos k, if_pos k]
    · rw [if_neg k, if_neg k, if_neg (by omega)]
theorem sp_6 {n : Nat} (h5 : n ≤ 5) : 6 ^ n ≤ 7776 := Nat.le_trans (Nat.pow_le_pow_right (by decide) h5) (by decide)
theorem sp_dv (x k : Nat) : x / 6 ^ k / 6 = x / 6 ^ (k + 1) := by rw [Nat.div_div_eq_div_mul, ← Nat.pow_succ]
/-! places as ints: the digit less one -/
theorem sp_pl0 {d : Nat} (h : d < 6) : nI d - 1 = -1 ↔ d = 0 := by
  have : ∀ d, d < 6 → (nI d - 1 = -1 ↔ d = 0) := by decide +kernel
  exact this d h
theorem sp_plp {d : Nat} (h : d ≠ 0) : nI d - 1 = nI (d - 1) := by
  obtain ⟨e, rfl⟩ : ∃ e, d = e + 1 := ⟨d - 1, by omega⟩
  rw [nI_pred]; rfl
theorem sp_plq {d p : Nat} (h : d < 6) (hp : p < 6) : nI d - 1 = nI p ↔ d = p + 1 := by
  have : ∀ d, d < 6 → ∀ p, p < 6 → (nI d - 1 = nI p ↔ d = p + 1) := by decide +kernel
  exact this d h p hp
theorem sp_pll {d : Nat} (h : d < 6) : nI d - 1 < 0 ↔ d = 0 := by
  have : ∀ d, d < 6 → (nI d - 1 < 0 ↔ d = 0) := by decide +kernel
  exact this d h
theorem sp_plz {d : Nat} (h : d < 6) : (0 : Int32) ≤ nI d - 1 ↔ d ≠ 0 := by
  have : ∀ d, d < 6 → ((0 : Int32) ≤ nI d - 1 ↔ d ≠ 0) := by decide +kernel
  exact this d h
theorem sp_plg {d n : Nat} (h : d < 6) (hn : n < 6) : nI n ≤ nI d - 1 ↔ n < d := by
  have : ∀ d, d < 6 → ∀ n, n < 6 → (nI n ≤ nI d - 1 ↔ n < d) := by decide +kernel
  exact this d h n hn
/-- the better of two digits for a seeker -/
noncomputable def sp_g (a : Nat → Int32) (s e d : Nat) : Nat := if e = 0 then d else if d = 0 then e else if sp_b (sp_pr a s (d - 1) (e - 1)) = true then d else e
/-- the worse of two digits for a seeker -/
noncomputable def sp_h (a : Nat → Int32) (s e d : Nat) : Nat := if d = 0 then e else if e = 0 then d else if sp_b (sp_pr a s (e - 1) (d - 1)) = true then d else e
theorem sp_g_lt {a : Nat → Int32} {s e d : Nat} {N : Nat} (he : e < N) (hd : d < N) : sp_g a s e d < N := by
  unfold sp_g; split
  · exact hd
  · split
    · exact he
    · split
      · exact hd
      · exact he
theorem sp_h_lt {a : Nat → Int32} {s e d : Nat} {N : Nat} (he : e < N) (hd : d < N) : sp_h a s e d < N := by
  unfold sp_h; split
  · exact he
  · split
    · exact hd
    · split
      · exact hd
      · exact he
theorem sp_fo_lt {P : Nat → Bool} {f : Nat → Nat → Nat} {s N : Nat} (h0 : s < N) (h : ∀ e x, e < N → f e x < N) : ∀ k, sp_fo P f s k < N := fun k =>
  sp_fo_ind (N := k) (fun _ t => t < N) h0 (fun k t _ _ ht => h t k ht) (fun _ _ _ _ ht => ht) k (Nat.le_refl k)
/-- the answer of stable(i) -/
def sp_nth (P : Nat → Bool) (N : Nat) (i r : Int32) : Prop := (∃ q, q < N ∧ P q = true ∧ i = nI (sp_cn P q) ∧ r = nI q) ∨ ((i < 0 ∨ nI (sp_cn P N) ≤ i) ∧ r = -1)
theorem sp_nth_ex (P : Nat → Bool) {N : Nat} (hN : N ≤ 7776) (i : Int32) : ∃ r, sp_nth P N i r := by
  have hl := sp_cn_le P N
  rcases pk_ix i (n := sp_cn P N) (by omega) with h | h | ⟨j, hj, rfl⟩
  · exact ⟨-1, Or.inr ⟨Or.inl h, rfl⟩⟩
  · exact ⟨-1, Or.inr ⟨Or.inr h, rfl⟩⟩
  · obtain ⟨q, h1, h2, h3⟩ := sp_cn_nth hj
    exact ⟨nI q, Or.inl ⟨q, h1, h2, by rw [h3], rfl⟩⟩
/-- a search in the list, up to the one that is looked for -/
theorem sp_srch (P : Nat → Bool) (q : Nat) (W : Nat → Nat → Prop) (hit : ∀ n, W (n + 1) (sp_cn P q))
    (miss : ∀ n x, x < q → P x = true → W n (sp_cn P x + 1) → W (n + 1) (sp_cn P x)) : ∃ n, W n 0 := by
  have key : ∀ d y, y ≤ q → sp_cn P y + d = sp_cn P q → W (d + 1) (sp_cn P y) := by
    intro d
    induction d with
    | zero => intro y hy he; rw [show sp_cn P y = sp_cn P q by omega]; exact hit 0
    | succ d ih =>
      intro y hy he
      obtain ⟨z, h1, h2, h3, h4, h5⟩ := sp_cn_next (P := P) (y := y) (N := q) (by omega)
      have h6 := ih (z + 1) (by omega) (by rw [sp_cn_t h3]; omega)
      rw [sp_cn_t h3] at h6
      rw [← h4]
      exact miss _ z h2 h3 h6
  exact ⟨_, key (sp_cn P q) 0 (Nat.zero_le _) (by rw [sp_cn_0]; omega)⟩
/-- the cheapest: both ways to look for it -/
def sp_fX (C : Nat → Nat) (t : Nat × Nat) (x : Nat) : Nat × Nat := if C x < t.2 then (x, C x) else t
def sp_fY (C : Nat → Nat) (l x : Nat) : Nat := if C x < l then C x else l
theorem sp_fair {P : Nat → Bool} {C : Nat → Nat} {N : Nat} (hC : ∀ x, x < N → P x = true → C x < 41) (hex : ∃ x, x < N ∧ P x = true) :
    ∃ q, q < N ∧ P q = true ∧ sp_fo P (sp_fX C) (0, 41) N = (q, C q) ∧ sp_fo P (sp_fY C) 1000 N = C q ∧ ∀ x, x < q → P x = true → C x ≠ C q := by
  have hX := sp_fo_ind (P := P) (f := sp_fX C) (s := (0, 41)) (N := N)
    (fun k t => (t.2 = 41 ∧ ∀ y, y < k → P y = false) ∨ (t.1 < k ∧ P t.1 = true ∧ C t.1 = t.2 ∧ ∀ y, y < k → P y = true → t.2 ≤ C y ∧ (y < t.1 → t.2 < C y)))
    (Or.inl ⟨rfl, fun y hy => by omega⟩)
    (fun k t hk hp h => by
      unfold sp_fX
      by_cases c : C k < t.2
      · rw [if_pos c]
        refine Or.inr ⟨Nat.lt_succ_self k, hp, rfl, fun y hy py => ?_⟩
        rcases h with ⟨_, h2⟩ | ⟨h1, h2, h3, h4⟩
        · by_cases e : y = k
          · subst e; exact ⟨Nat.le_refl _, fun z => by simp at z⟩
          · have := h2 y (by omega); rw [this] at py; cases py
        · by_cases e : y = k
          · subst e; exact ⟨Nat.le_refl _, fun z => by simp at z⟩
          · have := (h4 y (by omega) py).1
            exact ⟨by show C k ≤ C y; omega, fun _ => by show C k < C y; omega⟩
      · rw [if_neg c]
        rcases h with ⟨h1, _⟩ | ⟨h1, h2, h3, h4⟩
        · have := hC k hk hp; omega
        · refine Or.inr ⟨by omega, h2, h3, fun y hy py => ?_⟩
          by_cases e : y = k
          · subst e; exact ⟨by omega, fun z => by omega⟩
          · exact h4 y (by omega) py)
    (fun k t hk hp h => by
      rcases h with ⟨h1, h2⟩ | ⟨h1, h2, h3, h4⟩
      · refine Or.inl ⟨h1, fun y hy => ?_⟩
        by_cases e : y = k
        · rw [e]; exact hp
        · exact h2 y (by omega)
      · refine Or.inr ⟨by omega, h2, h3, fun y hy py => ?_⟩
        by_cases e : y = k
        · rw [e, hp] at py; cases py
        · exact h4 y (by omega) py) N (Nat.le_refl N)
  have hY := sp_fo_ind (P := P) (f := sp_fY C) (s := 1000) (N := N)
    (fun k l => (l = 1000 ∧ ∀ y, y < k → P y = false) ∨ ((∃ y, y < k ∧ P y = true ∧ C y = l) ∧ ∀ y, y < k → P y = true → l ≤ C y))
    (Or.inl ⟨rfl, fun y hy => by omega⟩)
    (fun k l hk hp h => by
      unfold sp_fY
      by_cases c : C k < l
      · rw [if_pos c]
        refine Or.inr ⟨⟨k, Nat.lt_succ_self k, hp, rfl⟩, fun y hy py => ?_⟩
        rcases h with ⟨_, h2⟩ | ⟨_, h4⟩
        · by_cases e : y = k
          · rw [e]; exact Nat.le_refl _
          · have := h2 y (by omega); rw [this] at py; cases py
        · by_cases e : y = k
          · rw [e]; exact Nat.le_refl _
          · have := h4 y (by omega) py; omega
      · rw [if_neg c]
        rcases h with ⟨h1, _⟩ | ⟨⟨z, z1, z2, z3⟩, h4⟩
        · have := hC k hk hp; omega
        · refine Or.inr ⟨⟨z, by omega, z2, z3⟩, fun y hy py => ?_⟩
          by_cases e : y = k
          · rw [e]; omega
          · exact h4 y (by omega) py)
    (fun k l hk hp h => by
      rcases h with ⟨h1, h2⟩ | ⟨⟨z, z1, z2, z3⟩, h4⟩
      · refine Or.inl ⟨h1, fun y hy => ?_⟩
        by_cases e : y = k
        · rw [e]; exact hp
        · exact h2 y (by omega)
      · refine Or.inr ⟨⟨z, by omega, z2, z3⟩, fun y hy py => ?_⟩
        by_cases e : y = k
        · rw [e, hp] at py; cases py
        · exact h4 y (by omega) py) N (Nat.le_refl N)
  obtain ⟨w, w1, w2⟩ := hex
  generalize hA : sp_fo P (sp_fX C) (0, 41) N = A at hX ⊢
  generalize hB : sp_fo P (sp_fY C) 1000 N = B at hY ⊢
  rcases hX with ⟨_, h2⟩ | ⟨h1, h2, h3, h4⟩
  · have := h2 w w1; rw [this] at w2; cases w2
  · rcases hY with ⟨_, k2⟩ | ⟨⟨z, z1, z2, z3⟩, k4⟩
    · have := k2 w w1; rw [this] at w2; cases w2
    · refine ⟨A.1, h1, h2, ?_, ?_, ?_⟩
      · rw [h3]
      · have := (h4 z z1 z2).1
        have := k4 A.1 h1 h2
        omega
      · intro x hx px e
        have := (h4 x (by omega) px).2 hx
        omega
/-! masks of five bits -/
def sp_cl (m s : Nat) : Nat := if m / 2 ^ s % 2 = 1 then m - 2 ^ s else m
theorem sp_clI : ∀ m, m < 32 → ∀ s, s < 5 → nI m &&& (((1 : Int32) <<< (nI s &&& 31)) ^^^ (-1)) = nI (sp_cl m s) := by decide +kernel
theorem sp_clB : ∀ m, m < 32 → ∀ s, s < 5 → sp_cl m s < 32 ∧ ∀ j, j < 5 → sp_cl m s / 2 ^ j % 2 = if j = s then 0 else m / 2 ^ j % 2 := by decide +kernel
theorem sp_bit : ∀ m, m < 32 → ∀ s, s < 5 → (nI m >>> (nI s &&& 31)) &&& 1 = nI (m / 2 ^ s % 2) := by decide +kernel
theorem sp_all : ∀ n, n < 6 → ((1 : Int32) <<< (nI n &&& 31)) - 1 = nI (2 ^ n - 1) := by decide +kernel
theorem sp_allB : ∀ n, n < 6 → 2 ^ n - 1 < 32 ∧ ∀ j, j < n → (2 ^ n - 1) / 2 ^ j % 2 = 1 := by decide +kernel
end
section
/-! reading a number: what both sides know after the digits below s -/
noncomputable def sp_i (c : Bool) : Int32 := if c = true then 1 else 0
theorem sp_i1 {p : Prop} (h : p) : sp_i (sp_b p) = 1 := if_pos (sp_bt.mpr h)
theorem sp_i0 {p : Prop} (h : ¬ p) : sp_i (sp_b p) = 0 := if_neg fun c => h (sp_bt.mp c)
theorem sp_br {p A B : Prop} (f : ¬ p → A) (t : p → B) : (sp_i (sp_b p) = 0 → A) ∧ (¬ sp_i (sp_b p) = 0 → B) := by
  by_cases h : p
  · rw [sp_i1 h]; exact ⟨fun z => absurd z (by decide), fun _ => t h⟩
  · rw [sp_i0 h]; exact ⟨fun _ => f h, fun z => absurd rfl z⟩
theorem sp_bn {p A B : Prop} (t : p → A) (f : ¬ p → B) : (¬ sp_i (sp_b p) = 0 → A) ∧ (¬ ¬ sp_i (sp_b p) = 0 → B) := by
  by_cases h : p
  · rw [sp_i1 h]; exact ⟨fun _ => t h, fun z => absurd (by decide) z⟩
  · rw [sp_i0 h]; exact ⟨fun z => absurd rfl z, fun _ => f h⟩
theorem sp_ite {p : Prop} {post : Int32 → Prop} (h : post (sp_i (sp_b p))) : (p → post 1) ∧ (¬ p → post 0) :=
  ⟨fun z => by rw [sp_i1 z] at h; exact h, fun z => by rw [sp_i0 z] at h; exact h⟩
theorem sp_nb (p : Prop) : narrow .boolean (.int (sp_i (sp_b p))) = .int (sp_i (sp_b p)) := by
  by_cases h : p
  · rw [sp_i1 h]; rfl
  · rw [sp_i0 h]; rfl
/-- what the digit of seeker t must keep -/
def sp_C (n : Nat) (a b : Nat → Int32) (x t : Nat) : Prop := sp_d x t ≠ 0 → sp_d x t ≤ n ∧ sp_fit a b t (sp_d x t - 1) ∧ ∀ t', t' < t → sp_d x t' ≠ sp_d x t
theorem sp_M_C {n : Nat} {a b : Nat → Int32} {x : Nat} : sp_M n a b x ↔ x < 6 ^ n ∧ ∀ t, t < n → sp_C n a b x t := by
  constructor
  · intro ⟨h1, h2, h3⟩
    refine ⟨h1, fun t ht z => ⟨(h2 t ht z).1, (h2 t ht z).2, fun t' k e => ?_⟩⟩
    have := h3 t t' ht (by omega) z e.symm
    omega
  · intro ⟨h1, h2⟩
    refine ⟨h1, fun t ht z => ⟨(h2 t ht z).1, (h2 t ht z).2.1⟩, fun s t hs ht z e => ?_⟩
    rcases Nat.lt_trichotomy s t with k | k | k
    · exact absurd e ((h2 t ht (by omega)).2.2 s k)
    · exact k
    · exact absurd e.symm ((h2 s hs z).2.2 t k)
/-- the first seeker with this place -/
def sp_so (n x p : Nat) (r : Int32) : Prop := (∃ t, t < n ∧ sp_d x t = p + 1 ∧ (∀ t', t' < t → sp_d x t' ≠ p + 1) ∧ r = nI t) ∨ ((∀ t, t < n → sp_d x t ≠ p + 1) ∧ r = -1)
/-- the arrays of the reference, read up to s -/
def sp_RI (n : Nat) (a b : Nat → Int32) (x s : Nat) (pl sk : Nat → Int32) : Prop :=
  (∀ t, t < s → sp_C n a b x t) ∧ (∀ t, t < s → pl t = nI (sp_d x t) - 1) ∧ (∀ t, s ≤ t → t < 8 → pl t = -1) ∧
  ∀ p, p < 8 → (∃ t, t < s ∧ sp_d x t = p + 1 ∧ sk p = nI t) ∨ ((∀ t, t < s → sp_d x t ≠ p + 1) ∧ sk p = -1)
theorem sp_RI_0 {n : Nat} {a b : Nat → Int32} {x : Nat} {pl sk : Nat → Int32} (h1 : ∀ t, t < 8 → pl t = -1) (h2 : ∀ t, t < 8 → sk t = -1) : sp_RI n a b x 0 pl sk :=
  ⟨fun t ht => by omega, fun t ht => by omega, fun t _ ht => h1 t ht, fun p hp => Or.inr ⟨fun t ht => by omega, h2 p hp⟩⟩
theorem sp_RI_z {n : Nat} {a b : Nat → Int32} {x s : Nat} {pl sk : Nat → Int32} (h : sp_RI n a b x s pl sk) (hs : s < 8) (z : sp_d x s = 0) : sp_RI n a b x (s + 1) pl sk := by
  obtain ⟨h1, h2, h3, h4⟩ := h
  refine ⟨lt_s h1 fun c => absurd z c, lt_s h2 ?_, fun t k1 k2 => h3 t (by omega) k2, fun p hp => ?_⟩
  · rw [h3 s (Nat.le_refl s) hs, z]; decide
  · rcases h4 p hp with ⟨t, t1, t2, t3⟩ | ⟨t1, t2⟩
    · exact Or.inl ⟨t, by omega, t2, t3⟩
    · exact Or.inr ⟨lt_s t1 (by omega), t2⟩
theorem sp_RI_s {n : Nat} {a b : Nat → Int32} {x s : Nat} {pl sk : Nat → Int32} (h : sp_RI n a b x s pl sk) (hs : s < 8) (z : sp_d x s ≠ 0) (hC : sp_C n a b x s) :
    sp_RI n a b x (s + 1) (upd pl s (nI (sp_d x s) - 1)) (upd sk (sp_d x s - 1) (nI s)) := by
  obtain ⟨h1, h2, h3, h4⟩ := h
  refine ⟨lt_s h1 hC, lt_s (fun t ht => ?_) ?_, fun t k1 k2 => ?_, fun p hp => ?_⟩
  · rw [pk_un (by omega)]; exact h2 t ht
  · rw [pk_us]
  · rw [pk_un (by omega)]; exact h3 t (by omega) k2
  · by_cases e : p = sp_d x s - 1
    · subst e
      rw [pk_us]
      exact Or.inl ⟨s, by omega, by omega, rfl⟩
    · rw [pk_un e]
      rcases h4 p hp with ⟨t, t1, t2, t3⟩ | ⟨t1, t2⟩
      · exact Or.inl ⟨t, by omega, t2, t3⟩
      · exact Or.inr ⟨lt_s t1 (by omega), t2⟩
/-- the arrays of the reference after a matching has been read -/
def sp_G (n x : Nat) (pl sk : Nat → Int32) : Prop :=
  (∀ t, t < n → pl t = nI (sp_d x t) - 1) ∧ ∀ p, p < n → (∃ t, t < n ∧ sp_d x t = p + 1 ∧ sk p = nI t) ∨ ((∀ t, t < n → sp_d x t ≠ p + 1) ∧ sk p = -1)
theorem sp_RI_G {n : Nat} {a b : Nat → Int32} {x : Nat} {pl sk : Nat → Int32} (hn : n ≤ 5) (h : sp_RI n a b x n pl sk) : sp_G n x pl sk :=
  ⟨h.2.1, fun p hp => h.2.2.2 p (by omega)⟩
theorem sp_lt6 {x n : Nat} : x / 6 ^ n = 0 ↔ x < 6 ^ n := by
  rw [Nat.div_eq_zero_iff]
  have : 6 ^ n ≠ 0 := by have := Nat.pow_pos (n := n) (show 0 < 6 by decide); omega
  omega
theorem sp_brB {c : Bool} {A B : Prop} (f : c = false → A) (t : c = true → B) : (sp_i c = 0 → A) ∧ (¬ sp_i c = 0 → B) := by
  cases c with
  | true => exact ⟨fun z => absurd z (by decide), fun _ => t rfl⟩
  | false => exact ⟨fun _ => f rfl, fun z => absurd rfl z⟩
theorem sp_bc {p q : Prop} (e : p ↔ q) : sp_b p = sp_b q := congrArg sp_b (propext e)
/-- how many pairs block, by seekers -/
noncomputable def sp_k2 (n : Nat) (a b : Nat → Int32) (x : Nat) : Nat → Nat
  | 0 => 0
  | i + 1 => sp_k2 n a b x i + sp_cn (fun p => sp_b (sp_Bk n a b x i p)) n
theorem sp_k2_s (n : Nat) (a b : Nat → Int32) (x i : Nat) : sp_k2 n a b x (i + 1) = sp_k2 n a b x i + sp_cn (fun p => sp_b (sp_Bk n a b x i p)) n := rfl
theorem sp_k2_le (n : Nat) (a b : Nat → Int32) (x : Nat) : ∀ i, sp_k2 n a b x i ≤ n * i
  | 0 => Nat.le_refl 0
  | i + 1 => by
    have h1 := sp_k2_le n a b x i
    have h2 := sp_cn_le (fun p => sp_b (sp_Bk n a b x i p)) n
    rw [sp_k2_s, Nat.mul_succ]; omega
theorem sp_cn_z {P : Nat → Bool} : ∀ {N : Nat}, sp_cn P N = 0 → ∀ k, k < N → P k = false
  | 0, _, k, hk => by omega
  | N + 1, h, k, hk => by
    rw [sp_cn_s] at h
    by_cases e : k = N
    · subst e
      cases c : P k with
      | false => rfl
      | true => rw [c] at h; have : true.toNat = 1 := rfl; omega
    · exact sp_cn_z (N := N) (by omega) k (by omega)
theorem sp_k2_z {n : Nat} {a b : Nat → Int32} {x : Nat} : ∀ i, sp_k2 n a b x i = 0 ↔ ∀ s, s < i → ∀ p, p < n → ¬ sp_Bk n a b x s p
  | 0 => ⟨fun _ => lt_0, fun _ => rfl⟩
  | i + 1 => by
    have ih := sp_k2_z (n := n) (a := a) (b := b) (x := x) i
    rw [sp_k2_s]
    constructor
    · intro h
      refine lt_s (ih.mp (by omega)) fun p hp => ?_
      exact sp_bf.mp (sp_cn_z (P := fun p => sp_b (sp_Bk n a b x i p)) (N := n) (by omega) p hp)
    · intro h
      have h1 := ih.mpr fun s hs => h s (by omega)
      have h2 : sp_cn (fun p => sp_b (sp_Bk n a b x i p)) n = 0 := sp_cn_none fun p hp => sp_bf.mpr (h i (by omega) p hp)
      omega
theorem sp_St_k2 {n : Nat} {a b : Nat → Int32} {x : Nat} : sp_St n a b x ↔ sp_M n a b x ∧ sp_k2 n a b x n = 0 := by
  rw [sp_k2_z]
  exact ⟨fun h => ⟨h.1, fun s hs p hp => h.2 s p hs hp⟩, fun h => ⟨h.1, fun s p hs hp => h.2 s hs p hp⟩⟩
/-- the number that better makes -/
noncomputable def sp_bw (a : Nat → Int32) (x y : Nat) : Nat → Nat
  | 0 => 0
  | k + 1 => sp_bw a x y k + sp_g a k (sp_d x k) (sp_d y k) * 6 ^ k
end
section
/-! the walks of X, from the small ones up to isStable; the state is (nI n, nI (6 ^ n), sp_jo a b) -/
abbrev sx_u (n : Nat) (a b : Nat → Int32) : SX := (nI n, nI (6 ^ n), sp_jo a b)
theorem sx_s0 (s p : Nat) : (((0 : Int32) * 5 + nI s) * 5) + nI p = nI (5 * s + p) := by
  rw [Int32.zero_mul, Int32.zero_add, show (5 : Int32) = nI 5 from rfl, pk_mul, nI_add, Nat.mul_comm]
theorem sx_s1 (s p : Nat) : (((1 : Int32) * 5 + nI s) * 5) + nI p = nI (25 + (5 * s + p)) := by
  rw [Int32.one_mul, show (5 : Int32) = nI 5 from rfl, nI_add, pk_mul, nI_add]
  exact congrArg nI (by omega)
theorem sx_slot0 {P : Int32 → Prop} {s p : Nat} (h : P (nI (5 * s + p))) : wpX_slot P 0 (nI s) (nI p) := by
  unfold wpX_slot; rw [sx_s0]; exact h
theorem sx_slot1 {P : Int32 → Prop} {s p : Nat} (h : P (nI (25 + (5 * s + p)))) : wpX_slot P 1 (nI s) (nI p) := by
  unfold wpX_slot; rw [sx_s1]; exact h
theorem sx_e0 {a b : Nat → Int32} {s p : Nat} (hs : s < 5) (hp : p < 5) : sp_jo a b (nI (5 * s + p)).toNatClampNeg = a (5 * s + p) := by
  rw [nI_clamp (by omega), sp_jo_lo (by omega)]
theorem sx_e1 {a b : Nat → Int32} {s p : Nat} (hs : s < 5) (hp : p < 5) : sp_jo a b (nI (25 + (5 * s + p))).toNatClampNeg = b (5 * s + p) := by
  rw [nI_clamp (by omega), sp_jo_hi]
theorem sx_v0 {s p : Nat} (hs : s < 5) (hp : p < 5) : vp_in (nI (5 * s + p)) 50 := vp_in_nI (by omega) (by decide)
theorem sx_v1 {s p : Nat} (hs : s < 5) (hp : p < 5) : vp_in (nI (25 + (5 * s + p))) 50 := vp_in_nI (by omega) (by decide)
theorem sx_good {post : Int32 → Prop} {n : Nat} {a b : Nat → Int32} (h5 : n ≤ 5) (x : Int32) (f : (x < 0 ∨ nI n ≤ x) → post 0) (t : ∀ j, j < n → x = nI j → post 1) : wpX_isGood post (sx_u n a b) x := by
  rcases pk_ix x (n := n) (by omega) with h | h | ⟨j, hj, rfl⟩
  · exact br_t h (f (Or.inl h))
  · by_cases h0 : x < 0
    · exact br_t h0 (f (Or.inl h0))
    · exact br_f h0 (br_t h (f (Or.inr h)))
  · exact br_f (nI_pos (by omega)) (br_f (nI_ge hj (by omega)) (t j hj rfl))
theorem sx_fits0 {post : Int32 → Prop} {n : Nat} {a b : Nat → Int32} {s p : Nat} (hs : s < 5) (hp : p < 5) (h : post (sp_i (sp_b (sp_fit a b s p)))) : wpX_fits post (sx_u n a b) 0 (nI s) (nI p) := by
  refine nm_r (e' := 1) (by decide) ?_
  refine sx_slot0 ⟨sx_v0 hs hp, ?_⟩
  by_cases c1 : a (5 * s + p) ≤ 0
  · refine br_t (by rw [sx_e0 hs hp]; exact c1) ?_
    rw [sp_i0 fun z => Int32.not_lt.mpr c1 z.1] at h; exact h
  · refine br_f (by rw [sx_e0 hs hp]; exact c1) ?_
    refine sx_slot1 ⟨sx_v1 hp hs, ?_⟩
    by_cases c2 : b (5 * p + s) ≤ 0
    · refine br_t (by rw [sx_e1 hp hs]; exact c2) ?_
      rw [sp_i0 fun z => Int32.not_lt.mpr c2 z.2] at h; exact h
    · refine br_f (by rw [sx_e1 hp hs]; exact c2) ?_
      rw [sp_i1 ⟨Int32.not_le.mp c1, Int32.not_le.mp c2⟩] at h; exact h
theorem sx_fits1 {post : Int32 → Prop} {n : Nat} {a b : Nat → Int32} {s p : Nat} (hs : s < 5) (hp : p < 5) (h : post (sp_i (sp_b (sp_fit a b s p)))) : wpX_fits post (sx_u n a b) 1 (nI p) (nI s) := by
  refine nm_r (e' := 0) (by decide) ?_
  refine sx_slot1 ⟨sx_v1 hp hs, ?_⟩
  by_cases c2 : b (5 * p + s) ≤ 0
  · refine br_t (by rw [sx_e1 hp hs]; exact c2) ?_
    rw [sp_i0 fun z => Int32.not_lt.mpr c2 z.2] at h; exact h
  · refine br_f (by rw [sx_e1 hp hs]; exact c2) ?_
    refine sx_slot0 ⟨sx_v0 hs hp, ?_⟩
    by_cases c1 : a (5 * s + p) ≤ 0
    · refine br_t (by rw [sx_e0 hs hp]; exact c1) ?_
      rw [sp_i0 fun z => Int32.not_lt.mpr c1 z.1] at h; exact h
    · refine br_f (by rw [sx_e0 hs hp]; exact c1) ?_
      rw [sp_i1 ⟨Int32.not_le.mp c1, Int32.not_le.mp c2⟩] at h; exact h
/-- the branches of a preference, as both sides print them -/
theorem sx_cmp {post : Int32 → Prop} {c : Nat → Int32} {s p q : Nat} {x y P Q : Int32} (hx : x = c (5 * s + p)) (hy : y = c (5 * s + q)) (hP : P = nI p) (hQ : Q = nI q) (hp : p < 5) (hq : q < 5)
    (h : post (sp_i (sp_b (sp_pr c s p q)))) : (y < x → post 1) ∧ (¬ y < x → (x = y → (Q ≤ P → post 0) ∧ (¬ Q ≤ P → post 1)) ∧ (¬ x = y → post 0)) := by
  subst hx hy hP hQ
  by_cases c1 : c (5 * s + q) < c (5 * s + p)
  · refine br_t c1 ?_
    rw [sp_i1 (p := sp_pr c s p q) (Or.inl c1)] at h; exact h
  · refine br_f c1 ?_
    by_cases c2 : c (5 * s + p) = c (5 * s + q)
    · refine br_t c2 (pk_le q p (fun k => ?_) (fun k => ?_))
      · rw [sp_i0 fun z => z.elim c1 fun w => by omega] at h; exact h
      · rw [sp_i1 (p := sp_pr c s p q) (Or.inr ⟨c2, k⟩)] at h; exact h
    · refine br_f c2 ?_
      rw [sp_i0 fun z => z.elim c1 fun w => c2 w.1] at h; exact h
theorem sx_pref0 {post : Int32 → Prop} {n : Nat} {a b : Nat → Int32} {s p q : Nat} (hs : s < 5) (hp : p < 5) (hq : q < 5) (h : post (sp_i (sp_b (sp_pr a s p q)))) : wpX_prefers post (sx_u n a b) 0 (nI s) (nI p) (nI q) := by
  unfold wpX_prefers
  dsimp only
  refine sx_slot0 ⟨sx_v0 hs hp, fun x ex => sx_slot0 ⟨sx_v0 hs hq, fun y ey => ?_⟩⟩
  exact sx_cmp (ex.trans (sx_e0 hs hp)) (ey.trans (sx_e0 hs hq)) rfl rfl hp hq h
theorem sx_pref1 {post : Int32 → Prop} {n : Nat} {a b : Nat → Int32} {p s t : Nat} (hp : p < 5) (hs : s < 5) (ht : t < 5) (h : post (sp_i (sp_b (sp_pr b p s t)))) : wpX_prefers post (sx_u n a b) 1 (nI p) (nI s) (nI t) := by
  unfold wpX_prefers
  dsimp only
  refine sx_slot1 ⟨sx_v1 hp hs, fun x ex => sx_slot1 ⟨sx_v1 hp ht, fun y ey => ?_⟩⟩
  exact sx_cmp (ex.trans (sx_e1 hp hs)) (ey.trans (sx_e1 hp ht)) rfl rfl hs ht h
theorem sx_6 : ¬ (6 : Int32) = 0 := by decide
theorem sx_dig {x s : Nat} (hx : x < 2 ^ 31) : (nI (x / 6 ^ s) - nI (x / 6 ^ s) / 6 * 6) - 1 = nI (sp_d x s) - 1 := by
  rw [show (6 : Int32) = nI 6 from rfl, pk_rem (Nat.lt_of_le_of_lt (Nat.div_le_self _ _) hx) (by decide) (by decide)]
  rfl
theorem sx_div {x s : Nat} (hx : x < 2 ^ 31) : nI (x / 6 ^ s) / 6 = nI (x / 6 ^ (s + 1)) := by
  rw [show (6 : Int32) = nI 6 from rfl, pk_div (Nat.lt_of_le_of_lt (Nat.div_le_self _ _) hx) (by decide) (by decide), sp_dv]
theorem sx_placeOf {post : Int32 → Prop} {x s : Nat} (hx : x < 2 ^ 31) (hs : s < 2 ^ 31) (h : post (nI (sp_d x s) - 1)) : wpX_placeOf post (nI s) (nI x) := by
  refine loop_0 (fun m i (r : Int32) => wX_placeOf_4 post (nI s) m r (nI i)) (fun i r => r = nI (x / 6 ^ i)) s (nI x) (by rw [Nat.pow_zero, Nat.div_one]) ?_ ?_
  · intro m r e
    refine br_t (nI_le (Nat.le_refl s) hs) ⟨sx_6, ?_⟩
    rw [e, sx_dig hx]; exact h
  · intro m i r hi e k
    refine br_f (nI_ge hi hs) ⟨sx_6, nm_r (e' := nI (x / 6 ^ (i + 1))) (by rw [e, sx_div hx]) (nm_r (nI_1 i) ?_)⟩
    exact k _ rfl
theorem sx_seekerOf {post : Int32 → Prop} {n : Nat} {a b : Nat → Int32} {x p : Nat} (h5 : n ≤ 5) (hx : x < 2 ^ 31) (hp : p < 5) (h : ∀ r, sp_so n x p r → post r) : wpX_seekerOf post (sx_u n a b) (nI p) (nI x) := by
  refine loop_0 (fun m i (r : Int32) => wX_seekerOf_5 post (nI p) (nI n) (nI (6 ^ n)) (sp_jo a b) m r (nI i)) (fun i r => r = nI (x / 6 ^ i) ∧ ∀ t, t < i → sp_d x t ≠ p + 1) n (nI x) ⟨by rw [Nat.pow_zero, Nat.div_one], lt_0⟩ ?_ ?_
  · intro m r ⟨e, k⟩
    exact br_t (nI_le (Nat.le_refl n) (by omega)) (h _ (Or.inr ⟨k, rfl⟩))
  · intro m i r hi ⟨e, k⟩ c
    refine br_f (nI_ge hi (by omega)) ⟨sx_6, ?_⟩
    subst e
    by_cases z : sp_d x i = p + 1
    · refine br_t ?_ (h _ (Or.inl ⟨i, hi, z, k, rfl⟩))
      rw [sx_dig hx]; exact (sp_plq (sp_d_lt x i) (by omega)).mpr z
    · refine br_f ?_ ⟨sx_6, nm_r (sx_div hx) (nm_r (nI_1 i) (c _ ⟨rfl, lt_s k z⟩))⟩
      rw [sx_dig hx]; exact fun w => z ((sp_plq (sp_d_lt x i) (by omega)).mp w)
theorem sx_isMatching {post : Int32 → Prop} {n : Nat} {a b : Nat → Int32} (h5 : n ≤ 5) {x : Nat} (hx : x < 2 ^ 31) (h : post (sp_i (sp_b (sp_M n a b x)))) : wpX_isMatching post (sx_u n a b) (nI x) := by
  have hN := sp_6 h5
  refine br_f (nI_pos hx) (pk_lt x (6 ^ n) (fun hlt => ?_) (fun hge => ?_) rfl rfl hx (by omega))
  · refine loop_0 (fun m i (_ : Unit) => wX_isMatching_16 post (nI x) (nI n) (nI (6 ^ n)) (sp_jo a b) m (nI i)) (fun i _ => ∀ t, t < i → sp_C n a b x t) n () lt_0 ?_ ?_
    · intro m _ k
      refine br_t (nI_le (Nat.le_refl n) (by omega)) ?_
      rw [sp_i1 (sp_M_C.mpr ⟨hlt, k⟩)] at h; exact h
    · intro m i _ hi k c
      have hd := sp_d_lt x i
      have fail : ¬ sp_C n a b x i → post 0 := fun z => by
        rw [sp_i0 fun w => z ((sp_M_C.mp w).2 i hi)] at h; exact h
      refine br_f (nI_ge hi (by omega)) (sx_placeOf hx (by omega) ?_)
      by_cases z : sp_d x i = 0
      · exact br_t ((sp_pl0 hd).mpr z) (nm_r (nI_1 i) (c () (lt_s k fun w => absurd z w)))
      · refine br_f (fun w => z ((sp_pl0 hd).mp w)) ?_
        rw [sp_plp z]
        refine sx_good h5 _ (fun w => ?_) (fun j hj ej => ?_)
        · refine br_t rfl (fail fun hC => ?_)
          rcases w with w | w
          · exact nI_pos (by omega) w
          · rw [nI_leI (by omega) (by omega)] at w
            have := (hC z).1; omega
        · refine br_f (by decide) ?_
          have hj5 : sp_d x i - 1 < n := by
            have := (nI_eq (by omega) (by omega)).mp ej; omega
          refine sx_fits0 (by omega) (by omega) (sp_br (fun w => fail fun hC => w (hC z).2.1) fun hf => ?_)
          refine sx_seekerOf h5 hx (by omega) fun r hr => ?_
          rcases hr with ⟨t, t1, t2, t3, rfl⟩ | ⟨t1, _⟩
          · refine pk_eq t i (fun e => nm_r (nI_1 i) (c () (lt_s k ?_))) (fun e => fail fun hC => ?_)
            · subst e
              exact fun _ => ⟨by omega, hf, fun t' ht' w => t3 t' ht' (by omega)⟩
            · rcases Nat.lt_trichotomy t i with q | q | q
              · exact (hC z).2.2 t q (by omega)
              · exact e q
              · exact t3 i q (by omega)
          · exact absurd (show sp_d x i = sp_d x i - 1 + 1 by omega) (t1 i hi)
  · rw [sp_i0 fun w => absurd w.1 (by omega)] at h; exact h
theorem sx_nm {t : Nat} (h : t < 2 ^ 31) : ¬ nI t = -1 := fun e => nI_pos h (by rw [e]; decide)
theorem sx_blocks39 {post : Int32 → Prop} {n : Nat} {a b : Nat → Int32} (h5 : n ≤ 5) {x s p : Nat} (hx : x < 2 ^ 31) (hM : sp_M n a b x) (hs : s < n) (hp : p < n) (c : post (sp_i (sp_b (∀ t, t < n → sp_d x t = p + 1 → sp_pr b p s t)))) :
    wX_blocks_39 post (nI s) (nI p) (nI x) (nI n) (nI (6 ^ n)) (sp_jo a b) := by
  unfold wX_blocks_39
  refine sx_seekerOf h5 hx (by omega) fun r hr => ?_
  rcases hr with ⟨t, t1, t2, t3, rfl⟩ | ⟨t1, rfl⟩
  · refine br_f (sx_nm (by omega)) ?_
    refine sx_pref1 (by omega) (by omega) (by omega) (sp_br (fun w => ?_) fun w => ?_)
    · rw [sp_i0 fun z => w (z t t1 t2)] at c; exact c
    · rw [sp_i1 fun t' k1 k2 => by
        have : t = t' := hM.2.2 t t' t1 k1 (by omega) (by omega)
        subst this; exact w] at c
      exact c
  · refine br_t rfl ?_
    rw [sp_i1 fun t k1 k2 => absurd k2 (t1 t k1)] at c; exact c
theorem sx_blocks {post : Int32 → Prop} {n : Nat} {a b : Nat → Int32} (h5 : n ≤ 5) {x s p : Nat} (hM : sp_M n a b x) (hs : s < n) (hp : p < n) (h : post (sp_i (sp_b (sp_Bk n a b x s p)))) : wpX_blocks post (sx_u n a b) (nI s) (nI p) (nI x) := by
  have hx : x < 2 ^ 31 := by have := sp_6 h5; have := hM.1; omega
  have hd := sp_d_lt x s
  unfold wpX_blocks
  dsimp only
  refine sx_fits0 (by omega) (by omega) (sp_br (fun w => ?_) fun hf => ?_)
  · rw [sp_i0 fun z => w z.1] at h; exact h
  · refine sx_placeOf hx (by omega) ?_
    by_cases z : sp_d x s = 0
    · refine br_t ((sp_pl0 hd).mpr z) (sx_blocks39 h5 hx hM hs hp ?_)
      rw [sp_bc (q := ∀ t, t < n → sp_d x t = p + 1 → sp_pr b p s t) ⟨fun w => w.2.2, fun w => ⟨hf, Or.inl z, w⟩⟩] at h; exact h
    · refine br_f (fun w => z ((sp_pl0 hd).mp w)) ?_
      rw [sp_plp z]
      have hle := (hM.2.1 s hs z).1
      refine sx_pref0 (by omega) (by omega) (by omega) (sp_br (fun w => ?_) fun w => sx_blocks39 h5 hx hM hs hp ?_)
      · rw [sp_i0 fun q => q.2.1.elim z w] at h; exact h
      · rw [sp_bc (q := ∀ t, t < n → sp_d x t = p + 1 → sp_pr b p s t) ⟨fun q => q.2.2, fun q => ⟨hf, Or.inr w, q⟩⟩] at h; exact h
theorem sx_isStable {post : Int32 → Prop} {n : Nat} {a b : Nat → Int32} (h5 : n ≤ 5) {x : Nat} (hx : x < 2 ^ 31) (h : post (sp_i (sp_P n a b x))) : wpX_isStable post (sx_u n a b) (nI x) := by
  unfold wpX_isStable
  dsimp only
  refine sx_isMatching h5 hx (sp_br (fun w => ?_) fun hM => ?_)
  · rw [sp_P, sp_i0 fun z => w z.1] at h; exact h
  · refine loop_0 (fun m i (_ : Unit) => wX_isStable_12 post (nI x) (nI n) (nI (6 ^ n)) (sp_jo a b) m (nI i)) (fun i _ => ∀ s, s < i → ∀ p, p < n → ¬ sp_Bk n a b x s p) n () lt_0 ?_ ?_
    · intro m _ k
      refine br_t (nI_le (Nat.le_refl n) (by omega)) ?_
      rw [sp_P, sp_i1 ⟨hM, fun s p hs hp => k s hs p hp⟩] at h; exact h
    · intro m i _ hi k c
      refine br_f (nI_ge hi (by omega)) ?_
      refine loop_0 (fun m' j (_ : Unit) => wX_isStable_22 post (wX_isStable_12 post (nI x) (nI n) (nI (6 ^ n)) (sp_jo a b) m) (nI x) (nI i) (nI n) (nI (6 ^ n)) (sp_jo a b) m' (nI j)) (fun j _ => ∀ p, p < j → ¬ sp_Bk n a b x i p) n () lt_0 ?_ ?_
      · intro m' _ k'
        exact br_t (nI_le (Nat.le_refl n) (by omega)) (nm_r (nI_1 i) (c () (lt_s k k')))
      · intro m' j _ hj k' c'
        refine br_f (nI_ge hj (by omega)) (sx_blocks h5 hM hi hj (sp_br (fun w => nm_r (nI_1 j) (c' () (lt_s k' w))) fun w => ?_))
        rw [sp_P, sp_i0 fun z => z.2 i j hi hj w] at h; exact h
end
section
/-! the walks of X: the questions -/
theorem sx_goodT {post : Int32 → Prop} {n : Nat} {a b : Nat → Int32} (h5 : n ≤ 5) {s : Nat} (hs : s < n) (h : post 1) : wpX_isGood post (sx_u n a b) (nI s) :=
  br_f (nI_pos (by omega)) (br_f (nI_ge hs (by omega)) h)
theorem sx_goodF {post : Int32 → Prop} {n : Nat} {a b : Nat → Int32} {x : Int32} (hx : x < 0 ∨ nI n ≤ x) (h : post 0) : wpX_isGood post (sx_u n a b) x := by
  by_cases h0 : x < 0
  · exact br_t h0 h
  · exact br_f h0 (br_t (hx.resolve_left h0) h)
theorem sx_stables {post : Int32 → Prop} {n : Nat} {a b : Nat → Int32} (h5 : n ≤ 5) (h : post (nI (sp_cn (sp_P n a b) (6 ^ n)))) : wpX_stables post (sx_u n a b) := by
  have hN := sp_6 h5
  refine loop_0 (fun m i (c : Int32) => wX_stables_4 post (nI n) (nI (6 ^ n)) (sp_jo a b) m c (nI i)) (fun i c => c = nI (sp_cn (sp_P n a b) i)) (6 ^ n) 0 rfl ?_ ?_
  · intro m c e
    exact br_t (nI_le (Nat.le_refl _) (by omega)) (by rw [e]; exact h)
  · intro m i c hi e k
    refine br_f (nI_ge hi (by omega)) (sx_isStable h5 (by omega) (sp_brB (fun q => nm_r (nI_1 i) (k _ (by rw [sp_cn_f q]; exact e))) fun q => ?_))
    exact nm_r (e' := nI (sp_cn (sp_P n a b) (i + 1))) (by rw [e, nI_1, sp_cn_t q]) (nm_r (nI_1 i) (k _ rfl))
theorem sx_stable {post : Int32 → Prop} {n : Nat} {a b : Nat → Int32} (h5 : n ≤ 5) (v : Int32) (h : ∀ r, sp_nth (sp_P n a b) (6 ^ n) v r → post r) : wpX_stable post (sx_u n a b) v := by
  have hN := sp_6 h5
  refine loop_0 (fun m i (c : Int32) => wX_stable_4 post v (nI n) (nI (6 ^ n)) (sp_jo a b) m c (nI i)) (fun i c => c = nI (sp_cn (sp_P n a b) i) ∧ ∀ y, y < i → sp_P n a b y = true → v ≠ nI (sp_cn (sp_P n a b) y)) (6 ^ n) 0 ⟨rfl, lt_0⟩ ?_ ?_
  · intro m c ⟨e, k⟩
    refine br_t (nI_le (Nat.le_refl _) (by omega)) (h _ (Or.inr ⟨?_, rfl⟩))
    rcases pk_ix v (n := sp_cn (sp_P n a b) (6 ^ n)) (by have := sp_cn_le (sp_P n a b) (6 ^ n); omega) with q | q | ⟨j, hj, rfl⟩
    · exact Or.inl q
    · exact Or.inr q
    · obtain ⟨y, y1, y2, y3⟩ := sp_cn_nth hj
      exact absurd (by rw [y3]) (k y y1 y2)
  · intro m i c hi ⟨e, k⟩ w
    subst e
    refine br_f (nI_ge hi (by omega)) (sx_isStable h5 (by omega) (sp_brB (fun q => nm_r (nI_1 i) (w _ ⟨by rw [sp_cn_f q], lt_s k fun z => ?_⟩)) fun q => ?_))
    · rw [q] at z; cases z
    · by_cases z : nI (sp_cn (sp_P n a b) i) = v
      · exact br_t z (h _ (Or.inl ⟨i, hi, q, z.symm, rfl⟩))
      · exact br_f z (nm_r (e' := nI (sp_cn (sp_P n a b) (i + 1))) (by rw [nI_1, sp_cn_t q]) (nm_r (nI_1 i) (w _ ⟨rfl, lt_s k fun _ y => z y.symm⟩)))
theorem sx_blocking {post : Int32 → Prop} {n : Nat} {a b : Nat → Int32} (h5 : n ≤ 5) {x : Nat} (hx : x < 2 ^ 31) (hf : ¬ sp_M n a b x → post (-1)) (ht : sp_M n a b x → post (nI (sp_k2 n a b x n))) : wpX_blocking post (sx_u n a b) (nI x) := by
  unfold wpX_blocking
  dsimp only
  refine sx_isMatching h5 hx (sp_br hf fun hM => ?_)
  refine loop_0 (fun m i (c : Int32) => wX_blocking_14 post (nI x) (nI n) (nI (6 ^ n)) (sp_jo a b) m c (nI i)) (fun i c => c = nI (sp_k2 n a b x i)) n 0 rfl ?_ ?_
  · intro m c e
    exact br_t (nI_le (Nat.le_refl _) (by omega)) (by rw [e]; exact ht hM)
  · intro m i c hi e k
    refine br_f (nI_ge hi (by omega)) ?_
    refine loop_0 (fun m' j (c' : Int32) => wX_blocking_25 post (wX_blocking_14 post (nI x) (nI n) (nI (6 ^ n)) (sp_jo a b) m) (nI x) (nI i) (nI n) (nI (6 ^ n)) (sp_jo a b) m' c' (nI j)) (fun j c' => c' = nI (sp_k2 n a b x i + sp_cn (fun p => sp_b (sp_Bk n a b x i p)) j)) n c e ?_ ?_
    · intro m' c' e'
      exact br_t (nI_le (Nat.le_refl _) (by omega)) (nm_r (nI_1 i) (k _ e'))
    · intro m' j c' hj e' k'
      refine br_f (nI_ge hj (by omega)) (sx_blocks h5 hM hi hj (sp_br (fun w => nm_r (nI_1 j) (k' _ ?_)) fun w => ?_))
      · rw [sp_cn_f (P := fun p => sp_b (sp_Bk n a b x i p)) (sp_bf.mpr w)]; exact e'
      · refine nm_r (e' := nI (sp_k2 n a b x i + sp_cn (fun p => sp_b (sp_Bk n a b x i p)) (j + 1))) ?_ (nm_r (nI_1 j) (k' _ rfl))
        rw [e', nI_1, sp_cn_t (P := fun p => sp_b (sp_Bk n a b x i p)) (sp_bt.mpr w), Nat.add_assoc]
theorem sx_ppl {post : Int32 → Prop} {n : Nat} {a b : Nat → Int32} {s e d : Nat} (hs : s < 5) (he : e < 6) (hd : d < 6) (h : post (nI (sp_g a s e d) - 1)) : wpX_preferredPlace post (sx_u n a b) (nI s) (nI e - 1) (nI d - 1) := by
  by_cases z : e = 0
  · refine br_t ((sp_pl0 he).mpr z) ?_
    rw [sp_g, if_pos z] at h; exact h
  · refine br_f (fun w => z ((sp_pl0 he).mp w)) ?_
    by_cases y : d = 0
    · refine br_t ((sp_pl0 hd).mpr y) ?_
      rw [sp_g, if_neg z, if_pos y] at h; exact h
    · refine br_f (fun w => y ((sp_pl0 hd).mp w)) ?_
      rw [sp_plp z, sp_plp y]
      refine sx_pref0 hs (by omega) (by omega) (sp_br (fun w => ?_) fun w => ?_)
      · rw [sp_g, if_neg z, if_neg y, if_neg (fun c => w (sp_bt.mp c)), sp_plp z] at h; exact h
      · rw [sp_g, if_neg z, if_neg y, if_pos (sp_bt.mpr w), sp_plp y] at h; exact h
theorem sx_m1 : (-1 : Int32) = nI 0 - 1 := by decide
noncomputable def sp_E (n : Nat) (a b : Nat → Int32) (s : Nat) : Nat → Nat := sp_fo (sp_P n a b) (fun e x => sp_g a s e (sp_d x s)) 0
noncomputable def sp_F (n : Nat) (a b : Nat → Int32) (s : Nat) : Nat → Nat := sp_fo (sp_P n a b) (fun e x => sp_h a s e (sp_d x s)) 0
theorem sp_E_lt (n : Nat) (a b : Nat → Int32) (s k : Nat) : sp_E n a b s k < 6 := sp_fo_lt (by decide) (fun _ _ he => sp_g_lt he (sp_d_lt _ _)) k
theorem sp_F_lt (n : Nat) (a b : Nat → Int32) (s k : Nat) : sp_F n a b s k < 6 := sp_fo_lt (by decide) (fun _ _ he => sp_h_lt he (sp_d_lt _ _)) k
theorem sx_bestFor {post : Int32 → Prop} {n : Nat} {a b : Nat → Int32} (h5 : n ≤ 5) {s : Nat} (hs : s < n) (h0 : sp_E n a b s (6 ^ n) = 0 → post (-2)) (h1 : sp_E n a b s (6 ^ n) ≠ 0 → post (nI (sp_E n a b s (6 ^ n)) - 1)) : wpX_bestFor post (sx_u n a b) (nI s) := by
  have hN := sp_6 h5
  unfold wpX_bestFor
  dsimp only
  refine sx_goodT h5 hs (br_f (by decide) ?_)
  refine loop_0 (fun m i (c : Int32) => wX_bestFor_14 post (nI s) (nI n) (nI (6 ^ n)) (sp_jo a b) m c (nI i)) (fun i c => c = nI (sp_E n a b s i) - 1) (6 ^ n) (-1) sx_m1 ?_ ?_
  · intro m c e
    subst e
    refine br_t (nI_le (Nat.le_refl _) (by omega)) ?_
    by_cases z : sp_E n a b s (6 ^ n) = 0
    · exact br_t ((sp_pl0 (sp_E_lt n a b s _)).mpr z) (h0 z)
    · exact br_f (fun w => z ((sp_pl0 (sp_E_lt n a b s _)).mp w)) (h1 z)
  · intro m i c hi e k
    subst e
    refine br_f (nI_ge hi (by omega)) (sx_isStable h5 (by omega) (sp_brB (fun q => nm_r (nI_1 i) (k _ (by rw [sp_E, sp_fo_f q]))) fun q => ?_))
    refine sx_placeOf (by omega) (by omega) (sx_ppl (by omega) (sp_E_lt n a b s i) (sp_d_lt i s) (nm_r (nI_1 i) (k _ ?_)))
    rw [sp_E, sp_fo_t q]
theorem sx_worstFor {post : Int32 → Prop} {n : Nat} {a b : Nat → Int32} (h5 : n ≤ 5) {s : Nat} (hs : s < n) (h0 : sp_F n a b s (6 ^ n) = 0 → post (-2)) (h1 : sp_F n a b s (6 ^ n) ≠ 0 → post (nI (sp_F n a b s (6 ^ n)) - 1)) : wpX_worstFor post (sx_u n a b) (nI s) := by
  have hN := sp_6 h5
  unfold wpX_worstFor
  dsimp only
  refine sx_goodT h5 hs (br_f (by decide) ?_)
  refine loop_0 (fun m i (c : Int32) => wX_worstFor_14 post (nI s) (nI n) (nI (6 ^ n)) (sp_jo a b) m c (nI i)) (fun i c => c = nI (sp_F n a b s i) - 1) (6 ^ n) (-1) sx_m1 ?_ ?_
  · intro m c e
    subst e
    refine br_t (nI_le (Nat.le_refl _) (by omega)) ?_
    by_cases z : sp_F n a b s (6 ^ n) = 0
    · exact br_t ((sp_pl0 (sp_F_lt n a b s _)).mpr z) (h0 z)
    · exact br_f (fun w => z ((sp_pl0 (sp_F_lt n a b s _)).mp w)) (h1 z)
  · intro m i c hi e k
    subst e
    refine br_f (nI_ge hi (by omega)) (sx_isStable h5 (by omega) (sp_brB (fun q => nm_r (nI_1 i) (k _ (by rw [sp_F, sp_fo_f q]))) fun q => ?_))
    have hd := sp_d_lt i s
    have hE := sp_F_lt n a b s i
    have es : sp_F n a b s (i + 1) = sp_h a s (sp_F n a b s i) (sp_d i s) := by rw [sp_F, sp_fo_t q]
    refine sx_placeOf (by omega) (by omega) ?_
    by_cases z : sp_d i s = 0
    · exact br_t ((sp_pl0 hd).mpr z) (nm_r (nI_1 i) (k _ (by rw [es, sp_h, if_pos z])))
    · refine br_f (fun w => z ((sp_pl0 hd).mp w)) ?_
      by_cases y : sp_F n a b s i = 0
      · exact br_t ((sp_pl0 hE).mpr y) (nm_r (nI_1 i) (k _ (by rw [es, sp_h, if_neg z, if_pos y])))
      · refine br_f (fun w => y ((sp_pl0 hE).mp w)) ?_
        rw [sp_plp z, sp_plp y]
        refine sx_pref0 (by omega) (by omega) (by omega) (sp_br (fun w => nm_r (nI_1 i) (k _ ?_)) fun w => nm_r (nI_1 i) (k _ ?_))
        · rw [es, sp_h, if_neg z, if_neg y, if_neg (fun c => w (sp_bt.mp c)), sp_plp y]
        · rw [es, sp_h, if_neg z, if_neg y, if_pos (sp_bt.mpr w), sp_plp z]
noncomputable def sp_tg (n : Nat) (a b : Nat → Int32) (s p : Nat) : Nat → Nat := sp_fo (sp_P n a b) (fun c x => if sp_d x s = p + 1 then c + 1 else c) 0
theorem sx_together {post : Int32 → Prop} {n : Nat} {a b : Nat → Int32} (h5 : n ≤ 5) {s p : Nat} (hs : s < n) (hp : p < n) (h : post (nI (sp_tg n a b s p (6 ^ n)))) : wpX_together post (sx_u n a b) (nI s) (nI p) := by
  have hN := sp_6 h5
  unfold wpX_together
  dsimp only
  refine sx_goodT h5 hs (br_f (by decide) (sx_goodT h5 hp (br_f (by decide) ?_)))
  refine loop_0 (fun m i (c : Int32) => wX_together_23 post (nI s) (nI p) (nI n) (nI (6 ^ n)) (sp_jo a b) m c (nI i)) (fun i c => c = nI (sp_tg n a b s p i)) (6 ^ n) 0 rfl ?_ ?_
  · intro m c e
    exact br_t (nI_le (Nat.le_refl _) (by omega)) (by rw [e]; exact h)
  · intro m i c hi e k
    subst e
    have hd := sp_d_lt i s
    refine br_f (nI_ge hi (by omega)) (sx_placeOf (by omega) (by omega) ?_)
    by_cases z : sp_d i s = p + 1
    · refine br_t ((sp_plq hd (by omega)).mpr z) (sx_isStable h5 (by omega) (sp_brB (fun q => nm_r (nI_1 i) (k _ (by rw [sp_tg, sp_fo_f q]))) fun q => ?_))
      exact nm_r (e' := nI (sp_tg n a b s p (i + 1))) (by rw [nI_1, sp_tg, sp_fo_t q, if_pos z]) (nm_r (nI_1 i) (k _ rfl))
    · refine br_f (fun w => z ((sp_plq hd (by omega)).mp w)) (nm_r (nI_1 i) (k _ ?_))
      cases q : sp_P n a b i with
      | true => rw [sp_tg, sp_fo_t q, if_neg z]
      | false => rw [sp_tg, sp_fo_f q]
def sp_al (n : Nat) (a b : Nat → Int32) (s : Nat) : Prop := ∀ x, x < 6 ^ n → sp_P n a b x = true → sp_d x s ≠ 0
theorem sx_always {post : Int32 → Prop} {n : Nat} {a b : Nat → Int32} (h5 : n ≤ 5) {s : Nat} (hs : s < n) (h : post (sp_i (sp_b (sp_al n a b s)))) : wpX_isAlwaysPaired post (sx_u n a b) (nI s) := by
  have hN := sp_6 h5
  refine loop_0 (fun m i (_ : Unit) => wX_isAlwaysPaired_2 post (nI s) (nI n) (nI (6 ^ n)) (sp_jo a b) m (nI i)) (fun i _ => ∀ x, x < i → sp_P n a b x = true → sp_d x s ≠ 0) (6 ^ n) () lt_0 ?_ ?_
  · intro m _ k
    refine br_t (nI_le (Nat.le_refl _) (by omega)) ?_
    rw [sp_i1 (p := sp_al n a b s) k] at h; exact h
  · intro m i _ hi k c
    have hd := sp_d_lt i s
    refine br_f (nI_ge hi (by omega)) (sx_placeOf (by omega) (by omega) ?_)
    by_cases z : sp_d i s = 0
    · refine br_t ((sp_pl0 hd).mpr z) (sx_isStable h5 (by omega) (sp_brB (fun q => nm_r (nI_1 i) (c () (lt_s k fun w => ?_))) fun q => ?_))
      · rw [q] at w; cases w
      · rw [sp_i0 fun w => w i hi q z] at h; exact h
    · exact br_f (fun w => z ((sp_pl0 hd).mp w)) (nm_r (nI_1 i) (c () (lt_s k fun _ => z)))
theorem sx_placed {post : Int32 → Prop} {n : Nat} {a b : Nat → Int32} (h5 : n ≤ 5) (h : post (nI (sp_cn (fun s => sp_b (sp_al n a b s)) n))) : wpX_placed post (sx_u n a b) := by
  refine loop_0 (fun m i (c : Int32) => wX_placed_4 post (nI n) (nI (6 ^ n)) (sp_jo a b) m c (nI i)) (fun i c => c = nI (sp_cn (fun s => sp_b (sp_al n a b s)) i)) n 0 rfl ?_ ?_
  · intro m c e
    exact br_t (nI_le (Nat.le_refl _) (by omega)) (by rw [e]; exact h)
  · intro m i c hi e k
    refine br_f (nI_ge hi (by omega)) (sx_always h5 hi (sp_br (fun q => nm_r (nI_1 i) (k _ (by rw [sp_cn_f (P := fun s => sp_b (sp_al n a b s)) (sp_bf.mpr q)]; exact e))) fun q => ?_))
    exact nm_r (e' := nI (sp_cn (fun s => sp_b (sp_al n a b s)) (i + 1))) (by rw [e, nI_1, sp_cn_t (P := fun s => sp_b (sp_al n a b s)) (sp_bt.mpr q)]) (nm_r (nI_1 i) (k _ rfl))
theorem sx_rank0 {post : Int32 → Prop} {n : Nat} {a b : Nat → Int32} (h5 : n ≤ 5) {s p : Nat} (hs : s < 5) (hp : p < 5) (h : post (nI (sp_rk n a b s p))) : wpX_rank post (sx_u n a b) 0 (nI s) (nI p) := by
  refine loop_0 (fun m i (c : Int32) => wX_rank_6 post 0 (nI s) (nI p) (nI n) (nI (6 ^ n)) (sp_jo a b) m c (nI i)) (fun i c => c = nI (sp_cn (fun k => sp_b (sp_fit a b s k ∧ sp_pr a s k p)) i)) n 0 rfl ?_ ?_
  · intro m c e
    exact br_t (nI_le (Nat.le_refl _) (by omega)) (by rw [e]; exact h)
  · intro m i c hi e k
    refine br_f (nI_ge hi (by omega)) (sx_fits0 hs (by omega) (sp_br (fun q => nm_r (nI_1 i) (k _ ?_)) fun q1 => sx_pref0 hs (by omega) hp (sp_br (fun q => nm_r (nI_1 i) (k _ ?_)) fun q2 => ?_)))
    · rw [sp_cn_f (P := fun k => sp_b (sp_fit a b s k ∧ sp_pr a s k p)) (sp_bf.mpr fun w => q w.1)]; exact e
    · rw [sp_cn_f (P := fun k => sp_b (sp_fit a b s k ∧ sp_pr a s k p)) (sp_bf.mpr fun w => q w.2)]; exact e
    · exact nm_r (e' := nI (sp_cn (fun k => sp_b (sp_fit a b s k ∧ sp_pr a s k p)) (i + 1))) (by rw [e, nI_1, sp_cn_t (P := fun k => sp_b (sp_fit a b s k ∧ sp_pr a s k p)) (sp_bt.mpr ⟨q1, q2⟩)]) (nm_r (nI_1 i) (k _ rfl))
theorem sx_rank1 {post : Int32 → Prop} {n : Nat} {a b : Nat → Int32} (h5 : n ≤ 5) {s p : Nat} (hs : s < 5) (hp : p < 5) (h : post (nI (sp_rq n a b s p))) : wpX_rank post (sx_u n a b) 1 (nI p) (nI s) := by
  refine loop_0 (fun m i (c : Int32) => wX_rank_6 post 1 (nI p) (nI s) (nI n) (nI (6 ^ n)) (sp_jo a b) m c (nI i)) (fun i c => c = nI (sp_cn (fun k => sp_b (sp_fit a b k p ∧ sp_pr b p k s)) i)) n 0 rfl ?_ ?_
  · intro m c e
    exact br_t (nI_le (Nat.le_refl _) (by omega)) (by rw [e]; exact h)
  · intro m i c hi e k
    refine br_f (nI_ge hi (by omega)) (sx_fits1 (by omega) hp (sp_br (fun q => nm_r (nI_1 i) (k _ ?_)) fun q1 => sx_pref1 hp (by omega) hs (sp_br (fun q => nm_r (nI_1 i) (k _ ?_)) fun q2 => ?_)))
    · rw [sp_cn_f (P := fun k => sp_b (sp_fit a b k p ∧ sp_pr b p k s)) (sp_bf.mpr fun w => q w.1)]; exact e
    · rw [sp_cn_f (P := fun k => sp_b (sp_fit a b k p ∧ sp_pr b p k s)) (sp_bf.mpr fun w => q w.2)]; exact e
    · exact nm_r (e' := nI (sp_cn (fun k => sp_b (sp_fit a b k p ∧ sp_pr b p k s)) (i + 1))) (by rw [e, nI_1, sp_cn_t (P := fun k => sp_b (sp_fit a b k p ∧ sp_pr b p k s)) (sp_bt.mpr ⟨q1, q2⟩)]) (nm_r (nI_1 i) (k _ rfl))
theorem sp_co_z {n : Nat} {a b : Nat → Int32} {x k : Nat} (z : sp_d x k = 0) : sp_co n a b x (k + 1) = sp_co n a b x k := by
  show sp_co n a b x k + (if sp_d x k = 0 then 0 else _) = _
  rw [if_pos z]; rfl
theorem sp_co_s {n : Nat} {a b : Nat → Int32} {x k : Nat} (z : sp_d x k ≠ 0) : sp_co n a b x (k + 1) = sp_co n a b x k + (sp_rk n a b k (sp_d x k - 1) + sp_rq n a b k (sp_d x k - 1)) := by
  show sp_co n a b x k + (if sp_d x k = 0 then 0 else _) = _
  rw [if_neg z]
theorem sx_cost {post : Int32 → Prop} {n : Nat} {a b : Nat → Int32} (h5 : n ≤ 5) {x : Nat} (hx : x < 2 ^ 31) (h : post (nI (sp_co n a b x n))) : wpX_costOf post (sx_u n a b) (nI x) := by
  refine loop_0 (fun m i (c : Int32) => wX_costOf_4 post (nI x) (nI n) (nI (6 ^ n)) (sp_jo a b) m c (nI i)) (fun i c => c = nI (sp_co n a b x i)) n 0 rfl ?_ ?_
  · intro m c e
    exact br_t (nI_le (Nat.le_refl _) (by omega)) (by rw [e]; exact h)
  · intro m i c hi e k
    subst e
    have hd := sp_d_lt x i
    refine br_f (nI_ge hi (by omega)) (sx_placeOf hx (by omega) ?_)
    by_cases z : sp_d x i = 0
    · exact br_t ((sp_pl0 hd).mpr z) (nm_r (nI_1 i) (k _ (by rw [sp_co_z z])))
    · refine br_f (fun w => z ((sp_pl0 hd).mp w)) ?_
      rw [sp_plp z]
      refine sx_rank0 h5 (by omega) (by omega) (sx_rank1 h5 (by omega) (by omega) ?_)
      exact nm_r (e' := nI (sp_co n a b x (i + 1))) (by rw [nI_add, nI_add, sp_co_s z]) (nm_r (nI_1 i) (k _ rfl))
noncomputable def sp_fx (n : Nat) (a b : Nat → Int32) : Nat → Nat × Nat := sp_fo (sp_P n a b) (sp_fX fun x => sp_co n a b x n) (0, 41)
theorem sp_cost_lt {n : Nat} {a b : Nat → Int32} {x : Nat} (h5 : n ≤ 5) (h : sp_P n a b x = true) : sp_co n a b x n < 41 := by
  have := sp_co_le h5 (sp_bt.mp h).1 n (Nat.le_refl n)
  omega
theorem sp_fx_le (n : Nat) (a b : Nat → Int32) (k : Nat) : (sp_fx n a b k).2 ≤ 41 :=
  sp_fo_ind (N := k) (fun _ (t : Nat × Nat) => t.2 ≤ 41) (Nat.le_refl 41) (fun k t _ _ ht => by
    unfold sp_fX
    by_cases c : sp_co n a b k n < t.2
    · rw [if_pos c]; show sp_co n a b k n ≤ 41; omega
    · rw [if_neg c]; exact ht) (fun _ _ _ _ ht => ht) k (Nat.le_refl k)
theorem sx_fairest {post : Int32 → Prop} {n : Nat} {a b : Nat → Int32} (h5 : n ≤ 5) (h : post (nI (sp_fx n a b (6 ^ n)).1)) : wpX_fairest post (sx_u n a b) := by
  have hN := sp_6 h5
  refine loop_0 (fun m i (c : Int32 × Int32) => wX_fairest_7 post (nI n) (nI (6 ^ n)) (sp_jo a b) m c.1 c.2 (nI i)) (fun i c => c = (nI (sp_fx n a b i).1, nI (sp_fx n a b i).2)) (6 ^ n) (0, 41) rfl ?_ ?_
  · intro m c e
    exact br_t (nI_le (Nat.le_refl _) (by omega)) (by rw [e]; exact h)
  · intro m i c hi e k
    subst e
    refine br_f (nI_ge hi (by omega)) (sx_isStable h5 (by omega) (sp_brB (fun q => nm_r (nI_1 i) ?_) fun q => ?_))
    · have := k (nI (sp_fx n a b i).1, nI (sp_fx n a b i).2) (by rw [sp_fx, sp_fo_f q])
      exact this
    · have hl := sp_fx_le n a b i
      have hc := sp_cost_lt h5 q
      refine sx_cost h5 (by omega) (pk_le (sp_fx n a b i).2 (sp_co n a b i n) (fun w => nm_r (nI_1 i) ?_) (fun w => nm_r (nI_1 i) ?_))
      · have := k (nI (sp_fx n a b i).1, nI (sp_fx n a b i).2) (by
          have e : sp_fx n a b (i + 1) = sp_fx n a b i := by
            rw [sp_fx, sp_fo_t q, sp_fX, if_neg (by show ¬ sp_co n a b i n < (sp_fx n a b i).2; omega)]
          rw [e])
        exact this
      · have := k (nI i, nI (sp_co n a b i n)) (by
          have e : sp_fx n a b (i + 1) = (i, sp_co n a b i n) := by
            rw [sp_fx, sp_fo_t q, sp_fX, if_pos (by show sp_co n a b i n < (sp_fx n a b i).2; omega)]
          rw [e])
        exact this
theorem sx_leastCost {post : Int32 → Prop} {n : Nat} {a b : Nat → Int32} (h5 : n ≤ 5) (hq : (sp_fx n a b (6 ^ n)).1 < 2 ^ 31) (h : post (nI (sp_co n a b (sp_fx n a b (6 ^ n)).1 n))) : wpX_leastCost post (sx_u n a b) := by
  unfold wpX_leastCost
  dsimp only
  exact sx_fairest h5 (sx_cost h5 hq h)
theorem sp_bw_s (a : Nat → Int32) (x y k : Nat) : sp_bw a x y (k + 1) = sp_bw a x y k + sp_g a k (sp_d x k) (sp_d y k) * 6 ^ k := rfl
theorem sx_betterL {post : Int32 → Prop} {n : Nat} {a b : Nat → Int32} (h5 : n ≤ 5) {x y : Nat} (hx : x < 2 ^ 31) (hy : y < 2 ^ 31) (h : post (nI (sp_bw a x y n))) : ∃ m, wX_better_33 post (nI x) (nI y) (nI n) (nI (6 ^ n)) (sp_jo a b) m 0 1 0 := by
  refine loop_0 (fun m i (c : Int32 × Int32) => wX_better_33 post (nI x) (nI y) (nI n) (nI (6 ^ n)) (sp_jo a b) m c.1 c.2 (nI i)) (fun i c => c = (nI (sp_bw a x y i), nI (6 ^ i))) n (0, 1) rfl ?_ ?_
  · intro m c e
    exact br_t (nI_le (Nat.le_refl _) (by omega)) (by rw [e]; exact h)
  · intro m i c hi e k
    subst e
    refine br_f (nI_ge hi (by omega)) (sx_placeOf hx (by omega) (sx_placeOf hy (by omega) (sx_ppl (by omega) (sp_d_lt x i) (sp_d_lt y i) ?_)))
    refine nm_r (e' := nI (sp_bw a x y (i + 1))) ?_ (nm_r (e' := nI (6 ^ (i + 1))) ?_ (nm_r (nI_1 i) (k (nI (sp_bw a x y (i + 1)), nI (6 ^ (i + 1))) rfl)))
    · rw [Int32.sub_add_cancel, pk_mul, nI_add, sp_bw_s]
    · rw [show (6 : Int32) = nI 6 from rfl, pk_mul, Nat.pow_succ]
theorem sx_better {post : Int32 → Prop} {n : Nat} {a b : Nat → Int32} (h5 : n ≤ 5) (v w : Int32)
    (h : ∀ r q, sp_nth (sp_P n a b) (6 ^ n) v r → sp_nth (sp_P n a b) (6 ^ n) w q → (r < 0 → post (-1)) ∧ (¬ r < 0 → (0 ≤ q → ∃ m, wX_better_33 post r q (nI n) (nI (6 ^ n)) (sp_jo a b) m 0 1 0) ∧ (¬ 0 ≤ q → post (-1)))) : wpX_better post (sx_u n a b) v w := by
  unfold wpX_better
  dsimp only
  exact sx_stable h5 v fun r hr => sx_stable h5 w fun q hq => h r q hr hq
end
section
/-! the walks of Y, from the small ones up to the list -/
abbrev sy_v (n : Nat) (fo : Int32) (a b pl sk nu : Nat → Int32) : SY := (nI n, fo, a, b, pl, sk, nu)
theorem sy_ix (s p : Nat) : (5 : Int32) * nI s + nI p = nI (5 * s + p) := by
  rw [show (5 : Int32) = nI 5 from rfl, pk_mul, nI_add]
theorem sy_badT {post : Int32 → Prop} {n : Nat} {fo : Int32} {a b pl sk nu : Nat → Int32} (h5 : n ≤ 5) {s : Nat} (hs : s < n) (h : post 0) : wpY_bad post (sy_v n fo a b pl sk nu) (nI s) :=
  br_f (nI_pos (by omega)) (br_f (nI_ge hs (by omega)) (br_t (nI_le (b := 4) (by omega) (by decide)) h))
theorem sy_badF {post : Int32 → Prop} {n : Nat} {fo : Int32} {a b pl sk nu : Nat → Int32} {x : Int32} (hx : x < 0 ∨ nI n ≤ x) (h : post 1) : wpY_bad post (sy_v n fo a b pl sk nu) x := by
  by_cases h0 : x < 0
  · exact br_t h0 h
  · exact br_f h0 (br_t (hx.resolve_left h0) h)
theorem sy_fits {post : Int32 → Prop} {n : Nat} {fo : Int32} {a b pl sk nu : Nat → Int32} {s p : Nat} (hs : s < 5) (hp : p < 5) (h : post (sp_i (sp_b (sp_fit a b s p)))) : wpY_fits post (sy_v n fo a b pl sk nu) (nI s) (nI p) := by
  unfold wpY_fits
  dsimp only
  rw [sy_ix s p, sy_ix p s, nI_clamp (show 5 * s + p < 2 ^ 31 by omega), nI_clamp (show 5 * p + s < 2 ^ 31 by omega)]
  refine ⟨vp_in_nI (by omega) (by decide), ?_⟩
  by_cases c1 : a (5 * s + p) ≤ 0
  · refine br_t c1 ?_
    rw [sp_i0 fun z => Int32.not_lt.mpr c1 z.1] at h; exact h
  · refine br_f c1 ⟨vp_in_nI (by omega) (by decide), ?_⟩
    by_cases c2 : b (5 * p + s) ≤ 0
    · refine br_t c2 ?_
      rw [sp_i0 fun z => Int32.not_lt.mpr c2 z.2] at h; exact h
    · refine br_f c2 ?_
      rw [sp_i1 ⟨Int32.not_le.mp c1, Int32.not_le.mp c2⟩] at h; exact h
theorem sy_sp {post : Int32 → Prop} {n : Nat} {fo : Int32} {a b pl sk nu : Nat → Int32} {s p q : Nat} (hs : s < 5) (hp : p < 5) (hq : q < 5) (h : post (sp_i (sp_b (sp_pr a s p q)))) : wpY_seekerPrefers post (sy_v n fo a b pl sk nu) (nI s) (nI p) (nI q) := by
  unfold wpY_seekerPrefers
  dsimp only
  rw [sy_ix s p, sy_ix s q, nI_clamp (show 5 * s + p < 2 ^ 31 by omega), nI_clamp (show 5 * s + q < 2 ^ 31 by omega)]
  exact ⟨vp_in_nI (by omega) (by decide), fun x ex => ⟨vp_in_nI (by omega) (by decide), fun y ey => sx_cmp ex ey rfl rfl hp hq h⟩⟩
theorem sy_pp {post : Int32 → Prop} {n : Nat} {fo : Int32} {a b pl sk nu : Nat → Int32} {p s t : Nat} (hp : p < 5) (hs : s < 5) (ht : t < 5) (h : post (sp_i (sp_b (sp_pr b p s t)))) : wpY_placePrefers post (sy_v n fo a b pl sk nu) (nI p) (nI s) (nI t) := by
  unfold wpY_placePrefers
  dsimp only
  rw [sy_ix p s, sy_ix p t, nI_clamp (show 5 * p + s < 2 ^ 31 by omega), nI_clamp (show 5 * p + t < 2 ^ 31 by omega)]
  exact ⟨vp_in_nI (by omega) (by decide), fun x ex => ⟨vp_in_nI (by omega) (by decide), fun y ey => sx_cmp ex ey rfl rfl hs ht h⟩⟩
theorem sp_pln {d n : Nat} (h : d < 6) (hn : n < 6) : nI d - 1 < nI n ↔ d ≤ n := by
  have : ∀ d, d < 6 → ∀ n, n < 6 → (nI d - 1 < nI n ↔ d ≤ n) := by decide +kernel
  exact this d h n hn
theorem sy_read {post : Int32 → SY → Prop} {n : Nat} {fo : Int32} {a b pl sk nu : Nat → Int32} (h5 : n ≤ 5) {x : Nat} (hx : x < 2 ^ 31)
    (hf : ¬ sp_M n a b x → ∀ pl' sk', post 0 (sy_v n fo a b pl' sk' nu)) (ht : sp_M n a b x → ∀ pl' sk', sp_G n x pl' sk' → post 1 (sy_v n fo a b pl' sk' nu)) : wpY_read post (sy_v n fo a b pl sk nu) (nI x) := by
  refine br_t (nI_pos' hx) ?_
  refine loop_0 (fun m i (c : (Nat → Int32) × (Nat → Int32)) => wY_read_10 post (nI x) (nI n) fo m (nI i) a b c.1 c.2 nu) (fun i c => ∀ t, t < i → c.1 t = -1 ∧ c.2 t = -1) 8 (pl, sk) lt_0 ?_ ?_
  · intro m c k
    refine br_t (nI_le (Nat.le_refl 8) (by decide)) ?_
    refine loop_0 (fun m i (c : Int32 × (Nat → Int32) × (Nat → Int32)) => wY_read_38 post (nI n) fo m c.1 (nI i) a b c.2.1 c.2.2 nu) (fun i c => c.1 = nI (x / 6 ^ i) ∧ sp_RI n a b x i c.2.1 c.2.2) n (nI x, c.1, c.2) ⟨by rw [Nat.pow_zero, Nat.div_one], sp_RI_0 (fun t h => (k t h).1) (fun t h => (k t h).2)⟩ ?_ ?_
    · intro m' c' ⟨e, hR⟩
      refine br_t (nI_le (Nat.le_refl n) (by omega)) ?_
      unfold wY_read_124
      rw [e]
      refine pk_eq (x / 6 ^ n) 0 (fun z => ?_) (fun z => ?_) rfl rfl (Nat.lt_of_le_of_lt (Nat.div_le_self _ _) hx)
      · exact ht (sp_M_C.mpr ⟨sp_lt6.mp z, hR.1⟩) _ _ (sp_RI_G h5 hR)
      · exact hf (fun w => z (sp_lt6.mpr w.1)) _ _
    · intro m' i c' hi ⟨e, hR⟩ k'
      obtain ⟨r, pl', sk'⟩ := c'
      have hd := sp_d_lt x i
      have fail : ¬ sp_C n a b x i → ∀ pl' sk', post 0 (sy_v n fo a b pl' sk' nu) := fun z => hf fun w => z ((sp_M_C.mp w).2 i hi)
      refine br_f (nI_ge hi (by omega)) (br_f (nI_ge (b := 5) (by omega) (by decide)) ⟨sx_6, nm_r (e' := nI (sp_d x i) - 1) (by rw [e, sx_dig hx]) ⟨sx_6, nm_r (e' := nI (x / 6 ^ (i + 1))) (by rw [e, sx_div hx]) ?_⟩⟩)
      by_cases hn : sp_d x i ≤ n
      · refine br_t ((sp_pln hd (by omega)).mpr hn) ?_
        by_cases z : sp_d x i = 0
        · exact br_t ((sp_pll hd).mpr z) (nm_r (nI_1 i) (k' (nI (x / 6 ^ (i + 1)), pl', sk') ⟨rfl, sp_RI_z hR (by omega) z⟩))
        · refine br_f (fun w => z ((sp_pll hd).mp w)) ?_
          rw [sp_plp z, nI_clamp (show sp_d x i - 1 < 2 ^ 31 by omega)]
          refine ⟨vp_in_nI (by omega) (by decide), ?_⟩
          rcases hR.2.2.2 (sp_d x i - 1) (by omega) with ⟨t, t1, t2, t3⟩ | ⟨t1, t2⟩
          · refine br_t ?_ (fail (fun hC => (hC z).2.2 t t1 (by omega)) _ _)
            show (0 : Int32) ≤ sk' (sp_d x i - 1)
            have t3' : sk' (sp_d x i - 1) = nI t := t3
            rw [t3']; exact nI_pos' (by omega)
          · refine br_f ?_ ?_
            · show ¬ (0 : Int32) ≤ sk' (sp_d x i - 1)
              have t2' : sk' (sp_d x i - 1) = -1 := t2
              rw [t2']; decide
            · refine sy_fits (by omega) (by omega) (sp_br (fun w => fail (fun hC => w (hC z).2.1) _ _) fun w => ?_)
              refine ⟨vp_in_nI (by omega) (by decide), nm_r (e' := upd pl' i (nI (sp_d x i) - 1)) (by rw [nI_clamp (by omega), sp_plp z]) ⟨vp_in_nI (by omega) (by decide), nm_r (e' := upd sk' (sp_d x i - 1) (nI i)) rfl (nm_r (nI_1 i) (k' (nI (x / 6 ^ (i + 1)), upd pl' i (nI (sp_d x i) - 1), upd sk' (sp_d x i - 1) (nI i)) ⟨rfl, ?_⟩))⟩⟩
              exact sp_RI_s hR (by omega) z fun _ => ⟨hn, w, fun t' h1 h2 => t1 t' h1 (by omega)⟩
      · exact br_f (fun w => hn ((sp_pln hd (by omega)).mp w)) (fail (fun hC => hn (hC (by omega)).1) _ _)
  · intro m i c hi h k
    refine br_f (nI_ge hi (by decide)) ⟨vp_in_nI hi (by decide), nm_r (e' := upd c.1 i (-1)) (by rw [nI_clamp (by omega)]) ⟨vp_in_nI hi (by decide), nm_r (e' := upd c.2 i (-1)) (by rw [nI_clamp (by omega)]) (nm_r (nI_1 i) (k (upd c.1 i (-1), upd c.2 i (-1)) ?_))⟩⟩
    refine lt_s (fun t ht => ⟨?_, ?_⟩) ⟨pk_us, pk_us⟩
    · show upd c.1 i (-1) t = -1
      rw [pk_un (by omega)]; exact (h t ht).1
    · show upd c.2 i (-1) t = -1
      rw [pk_un (by omega)]; exact (h t ht).2
theorem sy_blocks47 {post : Int32 → Prop} {n : Nat} {fo : Int32} {a b pl sk nu : Nat → Int32} (h5 : n ≤ 5) {x s p : Nat} (hM : sp_M n a b x) (hG : sp_G n x pl sk) (hs : s < n) (hp : p < n) (c : post (sp_i (sp_b (∀ t, t < n → sp_d x t = p + 1 → sp_pr b p s t)))) :
    wY_blocks_47 post (nI s) (nI p) (nI n) fo a b pl sk nu := by
  unfold wY_blocks_47
  rw [nI_clamp (show p < 2 ^ 31 by omega)]
  refine ⟨vp_in_nI (by omega) (by decide), ?_⟩
  rcases hG.2 p hp with ⟨t, t1, t2, t3⟩ | ⟨t1, t2⟩
  · rw [t3]
    refine br_f (nI_pos (by omega)) ⟨vp_in_nI (by omega) (by decide), sy_pp (by omega) (by omega) (by omega) (sp_br (fun w => ?_) fun w => ?_)⟩
    · rw [sp_i0 fun z => w (z t t1 t2)] at c; exact c
    · rw [sp_i1 fun t' k1 k2 => by
        have : t = t' := hM.2.2 t t' t1 k1 (by omega) (by omega)
        subst this; exact w] at c
      exact c
  · rw [t2]
    refine br_t (by decide) ?_
    rw [sp_i1 fun t k1 k2 => absurd k2 (t1 t k1)] at c; exact c
theorem sy_blocks {post : Int32 → Prop} {n : Nat} {fo : Int32} {a b pl sk nu : Nat → Int32} (h5 : n ≤ 5) {x s p : Nat} (hM : sp_M n a b x) (hG : sp_G n x pl sk) (hs : s < n) (hp : p < n) (h : post (sp_i (sp_b (sp_Bk n a b x s p)))) : wpY_blocks post (sy_v n fo a b pl sk nu) (nI s) (nI p) := by
  have hd := sp_d_lt x s
  unfold wpY_blocks
  dsimp only
  rw [nI_clamp (show s < 2 ^ 31 by omega), hG.1 s hs]
  refine sy_fits (by omega) (by omega) (sp_br (fun w => ?_) fun hf => ⟨vp_in_nI (by omega) (by decide), ?_⟩)
  · rw [sp_i0 fun z => w z.1] at h; exact h
  · by_cases y : sp_d x s = p + 1
    · refine br_t ((sp_plq hd (by omega)).mpr y) ?_
      rw [sp_i0 fun z => ?_] at h
      · exact h
      · rcases z.2.1 with k | k
        · omega
        · rw [y] at k; exact sp_pr_irr k
    · refine br_f (fun w => y ((sp_plq hd (by omega)).mp w)) ⟨vp_in_nI (by omega) (by decide), ?_⟩
      by_cases z : sp_d x s = 0
      · refine br_t ((sp_pll hd).mpr z) (sy_blocks47 h5 hM hG hs hp ?_)
        rw [sp_bc (q := ∀ t, t < n → sp_d x t = p + 1 → sp_pr b p s t) ⟨fun w => w.2.2, fun w => ⟨hf, Or.inl z, w⟩⟩] at h; exact h
      · refine br_f (fun w => z ((sp_pll hd).mp w)) ⟨vp_in_nI (by omega) (by decide), ?_⟩
        rw [sp_plp z]
        have hle := (hM.2.1 s hs z).1
        refine sy_sp (by omega) (by omega) (by omega) (sp_br (fun w => ?_) fun w => sy_blocks47 h5 hM hG hs hp ?_)
        · rw [sp_i0 fun q => q.2.1.elim z w] at h; exact h
        · rw [sp_bc (q := ∀ t, t < n → sp_d x t = p + 1 → sp_pr b p s t) ⟨fun q => q.2.2, fun q => ⟨hf, Or.inr w, q⟩⟩] at h; exact h
theorem sy_blockers {post : Int32 → Prop} {n : Nat} {fo : Int32} {a b pl sk nu : Nat → Int32} (h5 : n ≤ 5) {x : Nat} (hM : sp_M n a b x) (hG : sp_G n x pl sk) (h : post (nI (sp_k2 n a b x n))) : wpY_blockers post (sy_v n fo a b pl sk nu) := by
  refine loop_0 (fun m i (c : Int32) => wY_blockers_4 post (nI n) fo a b pl sk nu m c (nI i)) (fun i c => c = nI (sp_k2 n a b x i)) n 0 rfl ?_ ?_
  · intro m c e
    exact br_t (nI_le (Nat.le_refl _) (by omega)) (by rw [e]; exact h)
  · intro m i c hi e k
    refine br_f (nI_ge hi (by omega)) (br_f (nI_ge (b := 5) (by omega) (by decide)) ?_)
    refine loop_0 (fun m' j (c' : Int32) => wY_blockers_19 post (wY_blockers_4 post (nI n) fo a b pl sk nu m) (nI i) (nI n) fo a b pl sk nu m' c' (nI j)) (fun j c' => c' = nI (sp_k2 n a b x i + sp_cn (fun p => sp_b (sp_Bk n a b x i p)) j)) n c e ?_ ?_
    · intro m' c' e'
      exact br_t (nI_le (Nat.le_refl _) (by omega)) (nm_r (nI_1 i) (k _ e'))
    · intro m' j c' hj e' k'
      refine br_f (nI_ge hj (by omega)) (br_f (nI_ge (b := 5) (by omega) (by decide)) (sy_blocks h5 hM hG hi hj (sp_br (fun w => nm_r (nI_1 j) (k' _ ?_)) fun w => ?_)))
      · rw [sp_cn_f (P := fun p => sp_b (sp_Bk n a b x i p)) (sp_bf.mpr w)]; exact e'
      · refine nm_r (e' := nI (sp_k2 n a b x i + sp_cn (fun p => sp_b (sp_Bk n a b x i p)) (j + 1))) ?_ (nm_r (nI_1 j) (k' _ rfl))
        rw [e', nI_1, sp_cn_t (P := fun p => sp_b (sp_Bk n a b x i p)) (sp_bt.mpr w), Nat.add_assoc]
/-- the list holds the stable ones in order -/
def sp_L (n : Nat) (a b nu : Nat → Int32) : Prop := ∀ x, x < 6 ^ n → sp_P n a b x = true → nu (sp_cn (sp_P n a b) x) = nI x
theorem sy_list {post : SY → Prop} {n : Nat} {fo : Int32} {a b pl sk nu : Nat → Int32} (h2 : 2 ≤ n) (h5 : n ≤ 5) (h : ∀ pl' sk' nu', sp_L n a b nu' → post (sy_v n (nI (sp_cn (sp_P n a b) (6 ^ n))) a b pl' sk' nu')) : wpY_list post (sy_v n fo a b pl sk nu) := by
  have hN := sp_6 h5
  have hF := sp_few h2 h5 a b
  refine loop_0 (fun m i (c : Int32) => wY_list_9 post (nI n) 0 a b pl sk nu m c (nI i)) (fun i c => c = nI (6 ^ i)) n 1 rfl ?_ ?_
  · intro m c e
    subst e
    refine br_t (nI_le (Nat.le_refl _) (by omega)) ?_
    refine loop_0 (fun m i (c : Int32 × (Nat → Int32) × (Nat → Int32) × (Nat → Int32)) => wY_list_30 post (nI (6 ^ n)) m (nI i) (nI n) c.1 a b c.2.1 c.2.2.1 c.2.2.2)
      (fun i c => c.1 = nI (sp_cn (sp_P n a b) i) ∧ ∀ x, x < i → sp_P n a b x = true → c.2.2.2 (sp_cn (sp_P n a b) x) = nI x) (6 ^ n) (0, pl, sk, nu) ⟨rfl, lt_0⟩ ?_ ?_
    · intro m' c ⟨e, k⟩
      obtain ⟨f, pl', sk', nu'⟩ := c
      have e' : f = nI (sp_cn (sp_P n a b) (6 ^ n)) := e
      subst e'
      exact br_t (nI_le (Nat.le_refl _) (by omega)) (h pl' sk' nu' k)
    · intro m' i c hi ⟨e, k⟩ c'
      obtain ⟨f, pl', sk', nu'⟩ := c
      have e' : f = nI (sp_cn (sp_P n a b) i) := e
      subst e'
      have skip : sp_P n a b i = false → ∀ pl'' sk'', wY_list_30 post (nI (6 ^ n)) m' (nI (i + 1)) (nI n) (nI (sp_cn (sp_P n a b) i)) a b pl'' sk'' nu' := fun q pl'' sk'' =>
        c' (nI (sp_cn (sp_P n a b) i), pl'', sk'', nu') ⟨by show _ = _; rw [sp_cn_f q], lt_s k fun w => by rw [q] at w; cases w⟩
      refine br_f (nI_ge hi (by omega)) (sy_read h5 (by omega) (fun w pl'' sk'' => ?_) (fun hM pl'' sk'' hG => ?_))
      · exact br_t rfl (nm_r (nI_1 i) (skip (sp_bf.mpr fun z => w z.1) _ _))
      · refine br_f (by decide) (sy_blockers h5 hM hG ?_)
        have hk := sp_k2_le n a b i n
        have hk' : sp_k2 n a b i n ≤ 25 := Nat.le_trans hk (Nat.mul_le_mul h5 h5)
        refine pk_eq (sp_k2 n a b i n) 0 (fun z => ?_) (fun z => ?_)
        · have q : sp_P n a b i = true := sp_bt.mpr (sp_St_k2.mpr ⟨hM, z⟩)
          have hlt := sp_cn_lt q hi
          refine br_f (nI_ge (b := 256) (by omega) (by decide)) ⟨vp_in_nI (by omega) (by decide), nm_r (e' := upd nu' (sp_cn (sp_P n a b) i) (nI i)) (by rw [nI_clamp (by omega)]) (nm_r (e' := nI (sp_cn (sp_P n a b) (i + 1))) (by rw [nI_1, sp_cn_t q]) (nm_r (nI_1 i) ?_))⟩
          refine c' (nI (sp_cn (sp_P n a b) (i + 1)), pl'', sk'', upd nu' (sp_cn (sp_P n a b) i) (nI i)) ⟨rfl, lt_s (fun y hy py => ?_) fun _ => pk_us⟩
          show upd nu' (sp_cn (sp_P n a b) i) (nI i) (sp_cn (sp_P n a b) y) = nI y
          have := sp_cn_lt py hy
          rw [pk_un (by omega)]; exact k y hy py
        · exact nm_r (nI_1 i) (skip (sp_bf.mpr fun w => z (sp_St_k2.mp w).2) _ _)
  · intro m i c hi e k
    refine br_f (nI_ge hi (by omega)) (nm_r (e' := nI (6 ^ (i + 1))) ?_ (nm_r (nI_1 i) (k _ rfl)))
    rw [e, show (6 : Int32) = nI 6 from rfl, pk_mul, Nat.pow_succ, Nat.mul_comm]
end
section
/-! the walks of Y: the questions, over the list -/
theorem sy_hd {A B C : Prop} {i c : Nat} (hi : i < c) (hc : c ≤ 256) (h : C) : (nI c ≤ nI i → A) ∧ (¬ nI c ≤ nI i → (256 ≤ nI i → B) ∧ (¬ 256 ≤ nI i → vp_in (nI i) 256 ∧ C)) :=
  br_f (nI_ge hi (by omega)) (br_f (nI_ge (b := 256) (by omega) (by decide)) ⟨vp_in_nI (by omega) (by decide), h⟩)
theorem sy_rd {post : Int32 → SY → Prop} {n : Nat} {fo : Int32} {a b pl sk nu : Nat → Int32} (h5 : n ≤ 5) (hL : sp_L n a b nu) {x : Nat} (hx : x < 6 ^ n) (hP : sp_P n a b x = true)
    (h : ∀ pl' sk', sp_G n x pl' sk' → post 1 (sy_v n fo a b pl' sk' nu)) : wpY_read post (sy_v n fo a b pl sk nu) (nu (nI (sp_cn (sp_P n a b) x)).toNatClampNeg) := by
  have hN := sp_6 h5
  have hc := sp_cn_le (sp_P n a b) x
  rw [nI_clamp (by omega), hL x hx hP]
  exact sy_read h5 (by omega) (fun w => absurd (sp_bt.mp hP).1 w) (fun _ pl' sk' hG => h pl' sk' hG)
theorem sy_stables {post : Int32 → SY → Prop} {n : Nat} {fo : Int32} {a b pl sk nu : Nat → Int32} (h2 : 2 ≤ n) (h5 : n ≤ 5) (h : ∀ fo' pl' sk' nu', post (nI (sp_cn (sp_P n a b) (6 ^ n))) (sy_v n fo' a b pl' sk' nu')) : wpY_stables post (sy_v n fo a b pl sk nu) := by
  unfold wpY_stables
  dsimp only
  exact sy_list h2 h5 fun pl' sk' nu' _ => h _ pl' sk' nu'
theorem sy_nth {n : Nat} {a b nu : Nat → Int32} (h2 : 2 ≤ n) (h5 : n ≤ 5) (hL : sp_L n a b nu) {v r : Int32} (hr : sp_nth (sp_P n a b) (6 ^ n) v r) :
    (r = -1 ∧ (v < 0 ∨ nI (sp_cn (sp_P n a b) (6 ^ n)) ≤ v)) ∨ ∃ q, q < 6 ^ n ∧ sp_P n a b q = true ∧ r = nI q ∧ ¬ v < 0 ∧ v < nI (sp_cn (sp_P n a b) (6 ^ n)) ∧ ¬ nI (sp_cn (sp_P n a b) (6 ^ n)) ≤ v ∧ vp_in v 256 ∧ nu v.toNatClampNeg = nI q := by
  have hF := sp_few h2 h5 a b
  rcases hr with ⟨q, q1, q2, rfl, rfl⟩ | ⟨h1, h2⟩
  · have := sp_cn_lt q2 q1
    exact Or.inr ⟨q, q1, q2, rfl, nI_pos (by omega), nI_lt this (by omega), nI_ge this (by omega), vp_in_nI (by omega) (by decide), by rw [nI_clamp (by omega)]; exact hL q q1 q2⟩
  · exact Or.inl ⟨h2, h1⟩
theorem sy_stable {post : Int32 → SY → Prop} {n : Nat} {fo : Int32} {a b pl sk nu : Nat → Int32} (h2 : 2 ≤ n) (h5 : n ≤ 5) {v r : Int32} (hr : sp_nth (sp_P n a b) (6 ^ n) v r) (h : ∀ fo' pl' sk' nu', post r (sy_v n fo' a b pl' sk' nu')) : wpY_stable post (sy_v n fo a b pl sk nu) v := by
  unfold wpY_stable
  dsimp only
  refine sy_list h2 h5 fun pl' sk' nu' hL => ?_
  rcases sy_nth h2 h5 hL hr with ⟨rfl, k⟩ | ⟨q, q1, q2, rfl, q4, q5, q6, q7, q8⟩
  · by_cases z : v < 0
    · exact br_t z (h _ _ _ _)
    · refine br_f z (br_f ?_ (h _ _ _ _))
      exact Int32.not_lt.mpr (k.resolve_left z)
  · refine br_f q4 (br_t q5 ⟨q7, ?_⟩)
    show post (nu' v.toNatClampNeg) (sy_v n (nI (sp_cn (sp_P n a b) (6 ^ n))) a b pl' sk' nu')
    rw [q8]; exact h _ _ _ _
theorem sy_blocking {post : Int32 → SY → Prop} {n : Nat} {fo : Int32} {a b pl sk nu : Nat → Int32} (h5 : n ≤ 5) {x : Nat} (hx : x < 2 ^ 31) (hf : ¬ sp_M n a b x → ∀ pl' sk', post (-1) (sy_v n fo a b pl' sk' nu)) (ht : sp_M n a b x → ∀ pl' sk', post (nI (sp_k2 n a b x n)) (sy_v n fo a b pl' sk' nu)) : wpY_blocking post (sy_v n fo a b pl sk nu) (nI x) := by
  unfold wpY_blocking
  dsimp only
  exact sy_read h5 hx (fun w pl' sk' => br_t rfl (hf w pl' sk')) (fun hM pl' sk' hG => br_f (by decide) (sy_blockers h5 hM hG (ht hM pl' sk')))
noncomputable def sp_ch (e : Nat) : Int32 := if e = 0 then -2 else nI (e - 1)
theorem sp_ch0 : sp_ch 0 = -2 := if_pos rfl
theorem sp_chs {e : Nat} (h : e ≠ 0) : sp_ch e = nI (e - 1) := if_neg h
theorem sy_ext {post : Int32 → SY → Prop} {n : Nat} {fo : Int32} {a b pl sk nu : Nat → Int32} (h2 : 2 ≤ n) (h5 : n ≤ 5) {s : Nat} (hs : s < n) (f : Nat → Nat → Nat) (z : Int32)
    (f0 : ∀ e, f e 0 = e) (f1 : ∀ d, d ≠ 0 → f 0 d = d) (f2 : ∀ e, f e e = e) (f3 : ∀ e d, e ≠ 0 → d ≠ 0 → d ≠ e → (sp_i (sp_b (sp_pr a s (d - 1) (e - 1))) = z → f e d = d) ∧ (¬ sp_i (sp_b (sp_pr a s (d - 1) (e - 1))) = z → f e d = e)) (fl : ∀ e d, e < 6 → d < 6 → f e d < 6)
    (h : ∀ fo' pl' sk' nu', post (sp_ch (sp_fo (sp_P n a b) (fun e x => f e (sp_d x s)) 0 (6 ^ n))) (sy_v n fo' a b pl' sk' nu')) : wpY_extreme post (sy_v n fo a b pl sk nu) (nI s) z := by
  have hF := sp_few h2 h5 a b
  unfold wpY_extreme
  dsimp only
  refine sy_list h2 h5 fun pl0 sk0 nu' hL => ?_
  have key : ∃ m, ∀ pl' sk' : Nat → Int32, wY_extreme_10 post (nI s) z m (sp_ch 0) (nI 0) (nI n) (nI (sp_cn (sp_P n a b) (6 ^ n))) a b pl' sk' nu' := by
    refine sp_lsi (sp_P n a b) (6 ^ n) (fun m i (e : Nat) => ∀ pl' sk' : Nat → Int32, wY_extreme_10 post (nI s) z m (sp_ch e) (nI i) (nI n) (nI (sp_cn (sp_P n a b) (6 ^ n))) a b pl' sk' nu')
      (fun y e => e < 6 ∧ e = sp_fo (sp_P n a b) (fun e x => f e (sp_d x s)) 0 y) 0 ⟨by decide, rfl⟩ ?_ ?_ ?_
    · intro y e _ q ⟨k1, k2⟩
      exact ⟨k1, by rw [sp_fo_f q]; exact k2⟩
    · intro m e ⟨_, k⟩ pl' sk'
      exact br_t (nI_le (Nat.le_refl _) (by omega)) (by rw [k]; exact h _ _ _ _)
    · intro m x e hx hP hc ⟨he, ee⟩ k pl' sk'
      refine sy_hd hc hF (sy_rd h5 hL hx hP fun pl2 sk2 hG => ?_)
      have hd := sp_d_lt x s
      have go : ∀ e', e' = f e (sp_d x s) → ∀ pl2 sk2 : Nat → Int32, wY_extreme_10 post (nI s) z m (sp_ch e') (nI (sp_cn (sp_P n a b) x + 1)) (nI n) (nI (sp_cn (sp_P n a b) (6 ^ n))) a b pl2 sk2 nu' := fun e' ee' => k e' ⟨by rw [ee']; exact fl e _ he hd, by rw [sp_fo_t hP, ← ee]; exact ee'⟩
      refine ⟨vp_in_nI (by omega) (by decide), nm_r (e' := nI (sp_d x s) - 1) (by rw [nI_clamp (by omega)]; exact hG.1 s hs) ?_⟩
      by_cases y : sp_d x s = 0
      · refine br_t ((sp_pll hd).mpr y) (br_t ((sp_pll hd).mpr y) (nm_r (nI_1 _) (go e ?_ _ _)))
        rw [y, f0]
      · refine br_f (fun w => y ((sp_pll hd).mp w)) ?_
        by_cases e0 : e = 0
        · refine br_f ?_ (nm_r (nI_1 _) ?_)
          · rw [e0, sp_ch0]; decide
          · have := go (sp_d x s) (by rw [e0, f1 _ y]) pl2 sk2
            rw [sp_chs y, ← sp_plp y] at this
            exact this
        · refine br_t ?_ (br_f (fun w => y ((sp_pll hd).mp w)) ?_)
          · rw [sp_chs e0]; exact nI_pos' (by omega)
          · by_cases de : sp_d x s = e
            · refine br_t ?_ (nm_r (nI_1 _) (go e ?_ _ _))
              · rw [sp_chs e0, sp_plp y, de]
              · rw [de, f2]
            · refine br_f ?_ ?_
              · rw [sp_chs e0]
                exact fun w => de (by have := (sp_plq hd (by omega)).mp w; omega)
              · rw [sp_plp y, sp_chs e0]
                have f3' := f3 e (sp_d x s) e0 y de
                refine sy_sp (by omega) (by omega) (by omega) (br_c (fun w => nm_r (nI_1 _) ?_) (fun w => nm_r (nI_1 _) ?_))
                · have := go (sp_d x s) (f3'.1 w).symm pl2 sk2
                  rw [sp_chs y] at this; exact this
                · have := go e (f3'.2 w).symm pl2 sk2
                  rw [sp_chs e0] at this; exact this
  obtain ⟨m, hm⟩ := key
  exact ⟨m, hm pl0 sk0⟩
theorem sp_g_z (a : Nat → Int32) (s e : Nat) : sp_g a s e 0 = e := by
  by_cases z : e = 0
  · rw [sp_g, if_pos z, z]
  · rw [sp_g, if_neg z, if_pos rfl]
theorem sp_h_z (a : Nat → Int32) (s e : Nat) : sp_h a s e 0 = e := by rw [sp_h, if_pos rfl]
theorem sy_bestFor {post : Int32 → SY → Prop} {n : Nat} {fo : Int32} {a b pl sk nu : Nat → Int32} (h2 : 2 ≤ n) (h5 : n ≤ 5) {s : Nat} (hs : s < n) (h : ∀ fo' pl' sk' nu', post (sp_ch (sp_E n a b s (6 ^ n))) (sy_v n fo' a b pl' sk' nu')) : wpY_bestFor post (sy_v n fo a b pl sk nu) (nI s) := by
  unfold wpY_bestFor
  dsimp only
  refine sy_badT h5 hs (br_t rfl (sy_ext h2 h5 hs (sp_g a s) 1 (sp_g_z a s) (fun d _ => ?_) (fun e => ?_) (fun e d he hd hn => ⟨fun w => ?_, fun w => ?_⟩) (fun e d he hd => sp_g_lt he hd) h))
  · rw [sp_g, if_pos rfl]
  · unfold sp_g
    split
    · rfl
    · split <;> rfl
  · have : sp_pr a s (d - 1) (e - 1) := Classical.byContradiction fun c => by rw [sp_i0 c] at w; exact absurd w (by decide)
    rw [sp_g, if_neg he, if_neg hd, if_pos (sp_bt.mpr this)]
  · rw [sp_g, if_neg he, if_neg hd, if_neg fun c => w (sp_i1 (sp_bt.mp c))]
theorem sy_worstFor {post : Int32 → SY → Prop} {n : Nat} {fo : Int32} {a b pl sk nu : Nat → Int32} (h2 : 2 ≤ n) (h5 : n ≤ 5) {s : Nat} (hs : s < n) (h : ∀ fo' pl' sk' nu', post (sp_ch (sp_F n a b s (6 ^ n))) (sy_v n fo' a b pl' sk' nu')) : wpY_worstFor post (sy_v n fo a b pl sk nu) (nI s) := by
  unfold wpY_worstFor
  dsimp only
  refine sy_badT h5 hs (br_t rfl (sy_ext h2 h5 hs (sp_h a s) 0 (sp_h_z a s) (fun d hd => ?_) (fun e => ?_) (fun e d he hd hn => ⟨fun w => ?_, fun w => ?_⟩) (fun e d he hd => sp_h_lt he hd) h))
  · rw [sp_h, if_neg hd, if_pos rfl]
  · unfold sp_h
    split
    · rfl
    · split <;> rfl
  · have c : ¬ sp_pr a s (d - 1) (e - 1) := fun c => by rw [sp_i1 c] at w; exact absurd w (by decide)
    have : sp_pr a s (e - 1) (d - 1) := (sp_pr_tot (show d - 1 ≠ e - 1 by omega)).resolve_left c
    rw [sp_h, if_neg hd, if_neg he, if_pos (sp_bt.mpr this)]
  · have c : sp_pr a s (d - 1) (e - 1) := Classical.byContradiction fun c => w (sp_i0 c)
    rw [sp_h, if_neg hd, if_neg he, if_neg fun k => sp_pr_irr (sp_pr_tr c (sp_bt.mp k))]
theorem sy_together {post : Int32 → SY → Prop} {n : Nat} {fo : Int32} {a b pl sk nu : Nat → Int32} (h2 : 2 ≤ n) (h5 : n ≤ 5) {s p : Nat} (hs : s < n) (hp : p < n) (h : ∀ fo' pl' sk' nu', post (nI (sp_tg n a b s p (6 ^ n))) (sy_v n fo' a b pl' sk' nu')) : wpY_together post (sy_v n fo a b pl sk nu) (nI s) (nI p) := by
  have hF := sp_few h2 h5 a b
  unfold wpY_together
  dsimp only
  refine sy_badT h5 hs (br_t rfl (sy_badT h5 hp (br_t rfl (sy_list h2 h5 fun pl0 sk0 nu' hL => ?_))))
  have key : ∃ m, ∀ pl' sk' : Nat → Int32, wY_together_27 post (nI s) (nI p) m (nI 0) (nI 0) (nI n) (nI (sp_cn (sp_P n a b) (6 ^ n))) a b pl' sk' nu' := by
    refine sp_lst (sp_P n a b) (6 ^ n) (fun m i (c : Nat) => ∀ pl' sk' : Nat → Int32, wY_together_27 post (nI s) (nI p) m (nI c) (nI i) (nI n) (nI (sp_cn (sp_P n a b) (6 ^ n))) a b pl' sk' nu') (fun c x => if sp_d x s = p + 1 then c + 1 else c) 0 ?_ ?_
    · intro m pl' sk'
      exact br_t (nI_le (Nat.le_refl _) (by omega)) (h _ _ _ _)
    · intro m x c hx hP hc k pl' sk'
      refine sy_hd hc hF (sy_rd h5 hL hx hP fun pl2 sk2 hG => br_f (by decide) ⟨vp_in_nI (by omega) (by decide), ?_⟩)
      have hd := sp_d_lt x s
      have eP : pl2 (nI s).toNatClampNeg = nI (sp_d x s) - 1 := by rw [nI_clamp (by omega)]; exact hG.1 s hs
      rw [eP]
      by_cases y : sp_d x s = p + 1
      · rw [if_pos y] at k
        exact br_t ((sp_plq hd (by omega)).mpr y) (nm_r (nI_1 c) (nm_r (nI_1 _) (k pl2 sk2)))
      · rw [if_neg y] at k
        exact br_f (fun w => y ((sp_plq hd (by omega)).mp w)) (nm_r (nI_1 _) (k pl2 sk2))
  obtain ⟨m, hm⟩ := key
  exact ⟨m, hm pl0 sk0⟩
end
section
/-! the walks of Y: placed, costs, better -/
theorem sp_m2 (m : Nat) : m % 2 = 0 ∨ m % 2 = 1 := by omega
theorem sy_placed {post : Int32 → SY → Prop} {n : Nat} {fo : Int32} {a b pl sk nu : Nat → Int32} (h2 : 2 ≤ n) (h5 : n ≤ 5) (h : ∀ fo' pl' sk' nu', post (nI (sp_cn (fun s => sp_b (sp_al n a b s)) n)) (sy_v n fo' a b pl' sk' nu')) : wpY_placed post (sy_v n fo a b pl sk nu) := by
  have hF := sp_few h2 h5 a b
  unfold wpY_placed
  dsimp only
  refine sy_list h2 h5 fun pl0 sk0 nu' hL => nm_r (e' := nI (2 ^ n - 1)) (sp_all n (by omega)) ?_
  obtain ⟨b1, b2⟩ := sp_allB n (by omega)
  have key : ∃ m, ∀ pl' sk' : Nat → Int32, wY_placed_15 post m (nI (2 ^ n - 1)) (nI 0) (nI n) (nI (sp_cn (sp_P n a b) (6 ^ n))) a b pl' sk' nu' := by
    refine sp_lsi (sp_P n a b) (6 ^ n) (fun m i (w : Nat) => ∀ pl' sk' : Nat → Int32, wY_placed_15 post m (nI w) (nI i) (nI n) (nI (sp_cn (sp_P n a b) (6 ^ n))) a b pl' sk' nu')
      (fun y w => w < 32 ∧ ∀ j, j < n → (w / 2 ^ j % 2 = 1 ↔ ∀ x, x < y → sp_P n a b x = true → sp_d x j ≠ 0)) (2 ^ n - 1) ⟨b1, fun j hj => ⟨fun _ => lt_0, fun _ => b2 j hj⟩⟩ ?_ ?_ ?_
    · intro y w _ q ⟨k1, k2⟩
      refine ⟨k1, fun j hj => (k2 j hj).trans ⟨fun z => lt_s z fun c => ?_, fun z x hx => z x (by omega)⟩⟩
      rw [q] at c; cases c
    · intro m w ⟨k1, k2⟩ pl' sk'
      refine br_t (nI_le (Nat.le_refl _) (by omega)) ?_
      refine loop_0 (fun m i (c : Int32) => wY_placed_84 post (nI w) (nI n) (nI (sp_cn (sp_P n a b) (6 ^ n))) a b pl' sk' nu' m c (nI i)) (fun i c => c = nI (sp_cn (fun s => sp_b (sp_al n a b s)) i)) n 0 rfl ?_ ?_
      · intro m' c e
        exact br_t (nI_le (Nat.le_refl _) (by omega)) (by rw [e]; exact h _ _ _ _)
      · intro m' i c hi e k
        refine br_f (nI_ge hi (by omega)) (nm_r (e' := nI (sp_cn (fun s => sp_b (sp_al n a b s)) (i + 1))) ?_ (nm_r (nI_1 i) (k _ rfl)))
        rw [sp_bit w k1 i (by omega), e, nI_add]
        by_cases q : sp_al n a b i
        · rw [sp_cn_t (P := fun s => sp_b (sp_al n a b s)) (sp_bt.mpr q), (k2 i hi).mpr q]
        · rw [sp_cn_f (P := fun s => sp_b (sp_al n a b s)) (sp_bf.mpr q)]
          rcases sp_m2 (w / 2 ^ i) with z | z
          · rw [z]; rfl
          · exact absurd ((k2 i hi).mp z) q
    · intro m x w hx hP hc ⟨k1, k2⟩ k pl' sk'
      refine sy_hd hc hF (sy_rd h5 hL hx hP fun pl2 sk2 hG => ?_)
      refine loop_0 (fun m' i (c : Nat) => wY_placed_43 post (wY_placed_15 post m) (nI (sp_cn (sp_P n a b) x)) (nI n) (nI (sp_cn (sp_P n a b) (6 ^ n))) a b pl2 sk2 nu' m' (nI c) (nI i))
        (fun i c => c < 32 ∧ ∀ j, j < n → c / 2 ^ j % 2 = if j < i ∧ sp_d x j = 0 then 0 else w / 2 ^ j % 2) n w ⟨k1, fun j hj => by rw [if_neg (by omega)]⟩ ?_ ?_
      · intro m' c ⟨c1, c2⟩
        refine br_t (nI_le (Nat.le_refl _) (by omega)) (nm_r (nI_1 _) (k c ⟨c1, fun j hj => ?_⟩ pl2 sk2))
        rw [c2 j hj]
        by_cases z : sp_d x j = 0
        · rw [if_pos ⟨hj, z⟩]
          exact ⟨fun q => absurd q (by decide), fun q => absurd z (q x (by omega) hP)⟩
        · rw [if_neg fun q => z q.2, k2 j hj]
          exact ⟨fun q => lt_s q fun _ => z, fun q y hy => q y (by omega)⟩
      · intro m' i c hi ⟨c1, c2⟩ k'
        have hd := sp_d_lt x i
        have eP : pl2 (nI i).toNatClampNeg = nI (sp_d x i) - 1 := by rw [nI_clamp (by omega)]; exact hG.1 i hi
        refine br_f (nI_ge hi (by omega)) ⟨vp_in_nI (by omega) (by decide), ?_⟩
        by_cases z : sp_d x i = 0
        · refine br_f ?_ (nm_r (e' := nI (sp_cl c i)) (sp_clI c c1 i (by omega)) (nm_r (nI_1 i) (k' (sp_cl c i) ⟨(sp_clB c c1 i (by omega)).1, fun j hj => ?_⟩)))
          · show ¬ (0 : Int32) ≤ pl2 (nI i).toNatClampNeg
            rw [eP]; exact fun q => (sp_plz hd).mp q z
          · rw [(sp_clB c c1 i (by omega)).2 j (by omega), c2 j hj]
            by_cases e : j = i
            · rw [if_pos e, if_pos ⟨by omega, by rw [e]; exact z⟩]
            · rw [if_neg e]
              by_cases y : j < i ∧ sp_d x j = 0
              · rw [if_pos y, if_pos ⟨by omega, y.2⟩]
              · rw [if_neg y, if_neg fun q => y ⟨by omega, q.2⟩]
        · refine br_t ?_ (nm_r (nI_1 i) (k' c ⟨c1, fun j hj => ?_⟩))
          · show (0 : Int32) ≤ pl2 (nI i).toNatClampNeg
            rw [eP]; exact (sp_plz hd).mpr z
          · rw [c2 j hj]
            by_cases y : j < i ∧ sp_d x j = 0
            · rw [if_pos y, if_pos ⟨by omega, y.2⟩]
            · rw [if_neg y, if_neg fun q => ?_]
              by_cases e : j = i
              · exact z (e ▸ q.2)
              · exact y ⟨by omega, q.2⟩
  obtain ⟨m, hm⟩ := key
  exact ⟨m, hm pl0 sk0⟩
theorem sy_rank50 {post : Int32 → Prop} {J : Int32 → Int32 → Prop} {n : Nat} {fo : Int32} {a b pl sk nu : Nat → Int32} (h5 : n ≤ 5) {s p i c : Nat} (hs : s < 5) (hp : p < 5) (hi : i < 5)
    (h : J (nI (c + (sp_b (sp_fit a b i p ∧ sp_pr b p i s)).toNat)) (nI (i + 1))) : wY_rankSum_50 post J (nI s) (nI p) (nI c) (nI i) (nI n) fo a b pl sk nu := by
  unfold wY_rankSum_50
  refine sy_fits hi hp (sp_br (fun w => nm_r (nI_1 i) ?_) fun w => ?_)
  · rw [sp_bf.mpr fun z => w z.1] at h; exact h
  · refine pk_eq i s (fun e => nm_r (nI_1 i) ?_) (fun e => ?_)
    · subst e
      rw [sp_bf.mpr fun z => sp_pr_irr z.2] at h; exact h
    · refine sy_pp hp hi hs (sp_br (fun y => nm_r (nI_1 i) ?_) fun y => nm_r (e' := nI (c + 1)) (nI_1 c) (nm_r (nI_1 i) ?_))
      · rw [sp_bf.mpr fun z => y z.2] at h; exact h
      · rw [sp_bt.mpr ⟨w, y⟩] at h; exact h
theorem sy_rankSum {post : Int32 → Prop} {n : Nat} {fo : Int32} {a b pl sk nu : Nat → Int32} (h5 : n ≤ 5) {s p : Nat} (hs : s < 5) (hp : p < 5) (h : post (nI (sp_rk n a b s p + sp_rq n a b s p))) : wpY_rankSum post (sy_v n fo a b pl sk nu) (nI s) (nI p) := by
  refine loop_0 (fun m i (c : Int32) => wY_rankSum_5 post (nI s) (nI p) (nI n) fo a b pl sk nu m c (nI i)) (fun i c => c = nI (sp_cn (fun k => sp_b (sp_fit a b s k ∧ sp_pr a s k p)) i + sp_cn (fun k => sp_b (sp_fit a b k p ∧ sp_pr b p k s)) i)) n 0 rfl ?_ ?_
  · intro m c e
    exact br_t (nI_le (Nat.le_refl _) (by omega)) (by rw [e]; exact h)
  · intro m i c hi e k
    subst e
    have hi5 : i < 5 := by omega
    have go : ∀ t, t = sp_cn (fun k => sp_b (sp_fit a b s k ∧ sp_pr a s k p)) i + sp_cn (fun k => sp_b (sp_fit a b k p ∧ sp_pr b p k s)) i + (sp_b (sp_fit a b s i ∧ sp_pr a s i p)).toNat →
        wY_rankSum_50 post (wY_rankSum_5 post (nI s) (nI p) (nI n) fo a b pl sk nu m) (nI s) (nI p) (nI t) (nI i) (nI n) fo a b pl sk nu := fun t et =>
      sy_rank50 h5 hs hp hi5 (k _ (by
        rw [et, sp_cn_s, sp_cn_s]
        exact congrArg nI (by omega)))
    refine br_f (nI_ge hi (by omega)) (br_f (nI_ge (b := 5) hi5 (by decide)) (sy_fits hs hi5 (sp_br (fun w => go _ ?_) fun w => ?_)))
    · rw [sp_bf.mpr fun z => w z.1]; rfl
    · refine pk_eq i p (fun e => go _ ?_) (fun e => sy_sp hs hi5 hp (sp_br (fun y => go _ ?_) fun y => nm_r (nI_1 _) (go _ ?_)))
      · subst e
        rw [sp_bf.mpr fun z => sp_pr_irr z.2]; rfl
      · rw [sp_bf.mpr fun z => y z.2]; rfl
      · rw [sp_bt.mpr ⟨w, y⟩]; rfl
theorem sy_cost {post : Int32 → Prop} {n : Nat} {fo : Int32} {a b pl sk nu : Nat → Int32} (h5 : n ≤ 5) {x : Nat} (hG : sp_G n x pl sk) (h : post (nI (sp_co n a b x n))) : wpY_cost post (sy_v n fo a b pl sk nu) := by
  refine loop_0 (fun m i (c : Int32) => wY_cost_4 post (nI n) fo a b pl sk nu m c (nI i)) (fun i c => c = nI (sp_co n a b x i)) n 0 rfl ?_ ?_
  · intro m c e
    exact br_t (nI_le (Nat.le_refl _) (by omega)) (by rw [e]; exact h)
  · intro m i c hi e k
    subst e
    have hd := sp_d_lt x i
    have eP : pl (nI i).toNatClampNeg = nI (sp_d x i) - 1 := by rw [nI_clamp (by omega)]; exact hG.1 i hi
    refine br_f (nI_ge hi (by omega)) (br_f (nI_ge (b := 5) (by omega) (by decide)) ⟨vp_in_nI (by omega) (by decide), ?_⟩)
    rw [eP]
    by_cases z : sp_d x i = 0
    · exact br_t ((sp_pll hd).mpr z) (nm_r (nI_1 i) (k _ (by rw [sp_co_z z])))
    · refine br_f (fun w => z ((sp_pll hd).mp w)) ⟨vp_in_nI (by omega) (by decide), ?_⟩
      rw [sp_plp z]
      refine sy_rankSum h5 (by omega) (by omega) (nm_r (e' := nI (sp_co n a b x (i + 1))) ?_ (nm_r (nI_1 i) (k _ rfl)))
      rw [nI_add, sp_co_s z]
noncomputable def sp_fy (n : Nat) (a b : Nat → Int32) : Nat → Nat := sp_fo (sp_P n a b) (sp_fY fun x => sp_co n a b x n) 1000
theorem sy_cheapest {post : Int32 → SY → Prop} {n : Nat} {a b pl sk nu : Nat → Int32} (h2 : 2 ≤ n) (h5 : n ≤ 5) (hL : sp_L n a b nu) (h : ∀ pl' sk', post (nI (sp_fy n a b (6 ^ n))) (sy_v n (nI (sp_cn (sp_P n a b) (6 ^ n))) a b pl' sk' nu)) : wpY_cheapest post (sy_v n (nI (sp_cn (sp_P n a b) (6 ^ n))) a b pl sk nu) := by
  have hF := sp_few h2 h5 a b
  have key : ∃ m, ∀ pl' sk' : Nat → Int32, wY_cheapest_6 post m (nI 1000) (nI 0) (nI n) (nI (sp_cn (sp_P n a b) (6 ^ n))) a b pl' sk' nu := by
    refine sp_lsi (sp_P n a b) (6 ^ n) (fun m i (c : Nat) => ∀ pl' sk' : Nat → Int32, wY_cheapest_6 post m (nI c) (nI i) (nI n) (nI (sp_cn (sp_P n a b) (6 ^ n))) a b pl' sk' nu)
      (fun y c => c ≤ 1000 ∧ c = sp_fy n a b y) 1000 ⟨Nat.le_refl _, rfl⟩ ?_ ?_ ?_
    · intro y c _ q ⟨k1, k2⟩
      exact ⟨k1, by rw [sp_fy, sp_fo_f q]; exact k2⟩
    · intro m c ⟨_, k⟩ pl' sk'
      exact br_t (nI_le (Nat.le_refl _) (by omega)) (by rw [k]; exact h _ _)
    · intro m x c hx hP hc ⟨c1, c2⟩ k pl' sk'
      have hC := sp_cost_lt h5 hP
      refine sy_hd hc hF (sy_rd h5 hL hx hP fun pl2 sk2 hG => sy_cost h5 hG (pk_le c (sp_co n a b x n) (fun w => nm_r (nI_1 _) (k c ⟨c1, ?_⟩ pl2 sk2)) (fun w => nm_r (nI_1 _) (k (sp_co n a b x n) ⟨by omega, ?_⟩ pl2 sk2))))
      · rw [sp_fy, sp_fo_t hP, sp_fY]
        have e : sp_fo (sp_P n a b) (sp_fY fun x => sp_co n a b x n) 1000 x = c := c2.symm
        rw [e, if_neg (by show ¬ sp_co n a b x n < c; omega)]
      · rw [sp_fy, sp_fo_t hP, sp_fY]
        have e : sp_fo (sp_P n a b) (sp_fY fun x => sp_co n a b x n) 1000 x = c := c2.symm
        rw [e, if_pos (by show sp_co n a b x n < c; omega)]
  obtain ⟨m, hm⟩ := key
  exact ⟨m, hm pl sk⟩
theorem sy_leastCost {post : Int32 → SY → Prop} {n : Nat} {fo : Int32} {a b pl sk nu : Nat → Int32} (h2 : 2 ≤ n) (h5 : n ≤ 5) (h : ∀ fo' pl' sk' nu', post (nI (sp_fy n a b (6 ^ n))) (sy_v n fo' a b pl' sk' nu')) : wpY_leastCost post (sy_v n fo a b pl sk nu) := by
  unfold wpY_leastCost
  dsimp only
  exact sy_list h2 h5 fun pl' sk' nu' hL => sy_cheapest h2 h5 hL fun pl2 sk2 => h _ _ _ _
theorem sy_fairest {post : Int32 → SY → Prop} {n : Nat} {fo : Int32} {a b pl sk nu : Nat → Int32} (h2 : 2 ≤ n) (h5 : n ≤ 5) {q : Nat} (hq : q < 6 ^ n) (hPq : sp_P n a b q = true) (hv : sp_fy n a b (6 ^ n) = sp_co n a b q n) (hm : ∀ x, x < q → sp_P n a b x = true → sp_co n a b x n ≠ sp_co n a b q n)
    (h : ∀ fo' pl' sk' nu', post (nI q) (sy_v n fo' a b pl' sk' nu')) : wpY_fairest post (sy_v n fo a b pl sk nu) := by
  have hF := sp_few h2 h5 a b
  have hCq := sp_cost_lt h5 hPq
  unfold wpY_fairest
  dsimp only
  refine sy_list h2 h5 fun pl' sk' nu' hL => sy_cheapest h2 h5 hL fun pl2 sk2 => ?_
  rw [hv]
  have key : ∃ m, ∀ pl' sk' : Nat → Int32, wY_fairest_11 post (nI (sp_co n a b q n)) m (nI 0) (nI n) (nI (sp_cn (sp_P n a b) (6 ^ n))) a b pl' sk' nu' := by
    refine sp_srch (sp_P n a b) q (fun m i => ∀ pl' sk' : Nat → Int32, wY_fairest_11 post (nI (sp_co n a b q n)) m (nI i) (nI n) (nI (sp_cn (sp_P n a b) (6 ^ n))) a b pl' sk' nu') ?_ ?_
    · intro m pl' sk'
      have hlt := sp_cn_lt hPq hq
      refine sy_hd hlt hF (sy_rd h5 hL hq hPq fun pl3 sk3 hG => sy_cost h5 hG (br_t rfl ⟨vp_in_nI (by omega) (by decide), ?_⟩))
      show post (nu' (nI (sp_cn (sp_P n a b) q)).toNatClampNeg) (sy_v n (nI (sp_cn (sp_P n a b) (6 ^ n))) a b pl3 sk3 nu')
      rw [nI_clamp (by omega), hL q hq hPq]
      exact h _ _ _ _
    · intro m x hx hP k pl' sk'
      have hlt := sp_cn_lt hP (show x < 6 ^ n by omega)
      have hC := sp_cost_lt h5 hP
      refine sy_hd hlt hF (sy_rd h5 hL (by omega) hP fun pl3 sk3 hG => sy_cost h5 hG (pk_eq (sp_co n a b x n) (sp_co n a b q n) (fun e => absurd e (hm x hx hP)) (fun _ => nm_r (nI_1 _) (k pl3 sk3))))
  obtain ⟨m, hm'⟩ := key
  exact ⟨m, hm' pl2 sk2⟩
theorem sy_dw {x k : Nat} (hx : x < 2 ^ 31) (hk : k < 5) : (nI x / nI (6 ^ k)) - (nI x / nI (6 ^ k)) / 6 * 6 = nI (sp_d x k) := by
  have h6 : 6 ^ k ≤ 7776 := sp_6 (by omega)
  rw [pk_div hx (Nat.pow_pos (by decide)) (by omega), show (6 : Int32) = nI 6 from rfl, pk_rem (Nat.lt_of_le_of_lt (Nat.div_le_self _ _) hx) (by decide) (by decide)]
  rfl
theorem sy_betterL {post : Int32 → SY → Prop} {n : Nat} {fo : Int32} {a b pl sk nu : Nat → Int32} (h5 : n ≤ 5) {x y : Nat} (hx : x < 2 ^ 31) (hy : y < 2 ^ 31) (h : post (nI (sp_bw a x y n)) (sy_v n fo a b pl sk nu)) : ∃ m, wY_better_54 post (nI x) (nI y) (nI n) fo a b pl sk nu m 0 1 0 := by
  refine loop_0 (fun m i (c : Int32 × Int32) => wY_better_54 post (nI x) (nI y) (nI n) fo a b pl sk nu m c.1 c.2 (nI i)) (fun i c => c = (nI (sp_bw a x y i), nI (6 ^ i))) n (0, 1) rfl ?_ ?_
  · intro m c e
    exact br_t (nI_le (Nat.le_refl _) (by omega)) (by rw [e]; exact h)
  · intro m i c hi e k
    subst e
    have h6 : 6 ^ i ≤ 7776 := sp_6 (by omega)
    have hne : ¬ nI (6 ^ i) = 0 := nI_ne0 (Nat.pow_pos (by decide)) (by omega)
    have hdx := sp_d_lt x i
    have hdy := sp_d_lt y i
    have fin : ∀ g, g = sp_g a i (sp_d x i) (sp_d y i) → wY_better_132 post (wY_better_54 post (nI x) (nI y) (nI n) fo a b pl sk nu m) (nI x) (nI y) (nI (sp_bw a x y i)) (nI (6 ^ i)) (nI i) (nI g) (nI n) fo a b pl sk nu := by
      intro g eg
      refine nm_r (e' := nI (sp_bw a x y (i + 1))) ?_ (nm_r (e' := nI (6 ^ (i + 1))) ?_ (nm_r (nI_1 i) (k (nI (sp_bw a x y (i + 1)), nI (6 ^ (i + 1))) rfl)))
      · rw [pk_mul, nI_add, sp_bw_s, eg]
      · rw [show (6 : Int32) = nI 6 from rfl, pk_mul, Nat.pow_succ, Nat.mul_comm]
    refine br_f (nI_ge hi (by omega)) (br_f (nI_ge (b := 5) (by omega) (by decide)) ⟨hne, sx_6, nm_r (sy_dw hx (by omega)) ⟨hne, sx_6, nm_r (sy_dw hy (by omega)) ?_⟩⟩)
    refine pk_eq (sp_d x i) 0 (fun z => ?_) (fun z => ?_)
    · refine pk_le (sp_d x i) 0 (fun _ => fin _ ?_) (fun w => absurd z (by omega))
      rw [sp_g, if_pos z]
    · refine pk_le (sp_d x i) 0 (fun w => absurd (show sp_d x i = 0 by omega) z) (fun _ => pk_le (sp_d y i) 0 (fun w => fin _ ?_) (fun w => ?_))
      · rw [sp_g, if_neg z, if_pos (by omega)]
      · have y0 : sp_d y i ≠ 0 := by omega
        rw [sp_plp z, sp_plp y0]
        refine sy_sp (by omega) (by omega) (by omega) (sp_br (fun q => fin _ ?_) fun q => fin _ ?_)
        · rw [sp_g, if_neg z, if_neg y0, if_neg fun c => q (sp_bt.mp c)]
        · rw [sp_g, if_neg z, if_neg y0, if_pos (sp_bt.mpr q)]
theorem sy_better {post : Int32 → SY → Prop} {n : Nat} {fo : Int32} {a b pl sk nu : Nat → Int32} (h2 : 2 ≤ n) (h5 : n ≤ 5) {v w r t : Int32} (hr : sp_nth (sp_P n a b) (6 ^ n) v r) (ht : sp_nth (sp_P n a b) (6 ^ n) w t)
    (hf : (r = -1 ∨ t = -1) → ∀ fo' pl' sk' nu', post (-1) (sy_v n fo' a b pl' sk' nu'))
    (hs : ∀ x y, x < 2 ^ 31 → y < 2 ^ 31 → r = nI x → t = nI y → ∀ fo' pl' sk' nu', post (nI (sp_bw a x y n)) (sy_v n fo' a b pl' sk' nu')) : wpY_better post (sy_v n fo a b pl sk nu) v w := by
  have hN := sp_6 h5
  unfold wpY_better
  dsimp only
  refine sy_list h2 h5 fun pl' sk' nu' hL => ?_
  rcases sy_nth h2 h5 hL hr with ⟨e, k⟩ | ⟨q, q1, q2, q3, q4, q5, q6, q7, q8⟩
  · by_cases z : v < 0
    · exact br_t z (hf (Or.inl e) _ _ _ _)
    · exact br_f z (br_t (k.resolve_left z) (hf (Or.inl e) _ _ _ _))
  · refine br_f q4 (br_f q6 ?_)
    rcases sy_nth h2 h5 hL ht with ⟨e, k⟩ | ⟨u, u1, u2, u3, u4, u5, u6, u7, u8⟩
    · by_cases z : w < 0
      · exact br_t z (hf (Or.inr e) _ _ _ _)
      · exact br_f z (br_f (Int32.not_lt.mpr (k.resolve_left z)) (hf (Or.inr e) _ _ _ _))
    · exact br_f u4 (br_t u5 ⟨q7, nm_r q8 ⟨u7, nm_r u8 (sy_betterL h5 (by omega) (by omega) (hs q u (by omega) (by omega) q3 u3 _ _ _ _))⟩⟩)
end
section
/-! making an object, and likeAll -/
theorem sx_initL {post : SX → Prop} {n : Nat} (h5 : n ≤ 5) (h : post (sx_u n (fun _ => 0) (fun _ => 0))) : ∃ m, wX_init_39 post (nI n) 0 (fun _ => 0) m 1 0 := by
  have h' : post (nI n, nI (6 ^ n), fun _ => 0) := by rw [← sp_jo_0]; exact h
  refine loop_0 (fun m i (c : Int32) => wX_init_39 post (nI n) 0 (fun _ => 0) m c (nI i)) (fun i c => c = nI (6 ^ i)) n 1 rfl ?_ ?_
  · intro m c e
    exact br_t (nI_le (Nat.le_refl _) (by omega)) (by rw [e]; exact h')
  · intro m i c hi e k
    refine br_f (nI_ge hi (by omega)) (nm_r (e' := nI (6 ^ (i + 1))) ?_ (nm_r (nI_1 i) (k _ rfl)))
    rw [e, show (6 : Int32) = nI 6 from rfl, pk_mul, Nat.pow_succ]
/-- a table after likeAll up to i -/
def sp_ua (x3 x4 : Int32) (a : Nat → Int32) (s : Nat) : Nat → Nat → Int32
  | 0 => a
  | i + 1 => upd (sp_ua x3 x4 a s i) (5 * s + i) (1 + ((x3 + (nI i * x4)) - (x3 + (nI i * x4)) / 9 * 9))
theorem sx_9 : ¬ (9 : Int32) = 0 := by decide
theorem sx_la0 {post : Int32 → SX → Prop} {n : Nat} {a b : Nat → Int32} (h5 : n ≤ 5) {s : Nat} (hs : s < n) (x3 x4 : Int32) (h : post 0 (sx_u n (sp_ua x3 x4 a s n) b)) : ∃ m, wX_likeAll_50 post 0 (nI s) x3 x4 (nI n) (nI (6 ^ n)) m 0 (sp_jo a b) := by
  refine loop_0 (fun m i (c : Nat → Int32) => wX_likeAll_50 post 0 (nI s) x3 x4 (nI n) (nI (6 ^ n)) m (nI i) c) (fun i c => c = sp_jo (sp_ua x3 x4 a s i) b) n (sp_jo a b) rfl ?_ ?_
  · intro m c e
    exact br_t (nI_le (Nat.le_refl _) (by omega)) (by rw [e]; exact h)
  · intro m i c hi e k
    refine br_f (nI_ge hi (by omega)) (sx_slot0 ⟨sx_9, sx_v0 (by omega) (by omega), nm_r (e' := sp_jo (sp_ua x3 x4 a s (i + 1)) b) ?_ (nm_r (nI_1 i) (k _ rfl))⟩)
    rw [e, nI_clamp (by omega)]
    exact sp_jo_ul _ (by omega)
theorem sx_la1 {post : Int32 → SX → Prop} {n : Nat} {a b : Nat → Int32} (h5 : n ≤ 5) {s : Nat} (hs : s < n) (x3 x4 : Int32) (h : post 0 (sx_u n a (sp_ua x3 x4 b s n))) : ∃ m, wX_likeAll_50 post 1 (nI s) x3 x4 (nI n) (nI (6 ^ n)) m 0 (sp_jo a b) := by
  refine loop_0 (fun m i (c : Nat → Int32) => wX_likeAll_50 post 1 (nI s) x3 x4 (nI n) (nI (6 ^ n)) m (nI i) c) (fun i c => c = sp_jo a (sp_ua x3 x4 b s i)) n (sp_jo a b) rfl ?_ ?_
  · intro m c e
    exact br_t (nI_le (Nat.le_refl _) (by omega)) (by rw [e]; exact h)
  · intro m i c hi e k
    refine br_f (nI_ge hi (by omega)) (sx_slot1 ⟨sx_9, sx_v1 (by omega) (by omega), nm_r (e' := sp_jo a (sp_ua x3 x4 b s (i + 1))) ?_ (nm_r (nI_1 i) (k _ rfl))⟩)
    rw [e, nI_clamp (by omega)]
    exact sp_jo_uh _
theorem sy_vx {s p : Nat} (hs : s < 5) (hp : p < 5) : vp_in ((5 : Int32) * nI s + nI p) 25 := by rw [sy_ix]; exact vp_in_nI (by omega) (by decide)
theorem sy_cx {s p : Nat} (hs : s < 5) (hp : p < 5) : ((5 : Int32) * nI s + nI p).toNatClampNeg = 5 * s + p := by rw [sy_ix]; exact nI_clamp (by omega)
theorem sy_la0 {post : Int32 → SY → Prop} {n : Nat} {fo : Int32} {a b pl sk nu : Nat → Int32} (h5 : n ≤ 5) {s : Nat} (hs : s < n) (x3 x4 : Int32) (h : post 0 (sy_v n fo (sp_ua x3 x4 a s n) b pl sk nu)) : ∃ m, wY_likeAll_50 post 0 (nI s) x3 x4 (nI n) fo m 0 a b pl sk nu := by
  refine loop_0 (fun m i (c : Nat → Int32) => wY_likeAll_50 post 0 (nI s) x3 x4 (nI n) fo m (nI i) c b pl sk nu) (fun i c => c = sp_ua x3 x4 a s i) n a rfl ?_ ?_
  · intro m c e
    exact br_t (nI_le (Nat.le_refl _) (by omega)) (by rw [e]; exact h)
  · intro m i c hi e k
    refine br_f (nI_ge hi (by omega)) (br_f (nI_ge (b := 5) (by omega) (by decide)) ⟨sx_9, nm_e (br_t rfl ⟨sy_vx (by omega) (by omega), nm_r (e' := sp_ua x3 x4 a s (i + 1)) ?_ (nm_r (nI_1 i) (k _ rfl))⟩)⟩)
    rw [e, sy_cx (by omega) (by omega)]; rfl
theorem sy_la1 {post : Int32 → SY → Prop} {n : Nat} {fo : Int32} {a b pl sk nu : Nat → Int32} (h5 : n ≤ 5) {s : Nat} (hs : s < n) (x3 x4 : Int32) (h : post 0 (sy_v n fo a (sp_ua x3 x4 b s n) pl sk nu)) : ∃ m, wY_likeAll_50 post 1 (nI s) x3 x4 (nI n) fo m 0 a b pl sk nu := by
  refine loop_0 (fun m i (c : Nat → Int32) => wY_likeAll_50 post 1 (nI s) x3 x4 (nI n) fo m (nI i) a c pl sk nu) (fun i c => c = sp_ua x3 x4 b s i) n b rfl ?_ ?_
  · intro m c e
    exact br_t (nI_le (Nat.le_refl _) (by omega)) (by rw [e]; exact h)
  · intro m i c hi e k
    refine br_f (nI_ge hi (by omega)) (br_f (nI_ge (b := 5) (by omega) (by decide)) ⟨sx_9, nm_e (br_f (by decide) ⟨sy_vx (by omega) (by omega), nm_r (e' := sp_ua x3 x4 b s (i + 1)) ?_ (nm_r (nI_1 i) (k _ rfl))⟩)⟩)
    rw [e, sy_cx (by omega) (by omega)]; rfl
theorem iw_89 {x : Int32} : 9 ≤ x ↔ 8 < x := by
  rw [Int32.le_iff_toInt_le, Int32.lt_iff_toInt_lt, show (9 : Int32).toInt = 9 from by decide, show (8 : Int32).toInt = 8 from by decide]
  omega
theorem iw_98 {x : Int32} : x < 9 ↔ x ≤ 8 := by
  rw [Int32.le_iff_toInt_le, Int32.lt_iff_toInt_lt, show (9 : Int32).toInt = 9 from by decide, show (8 : Int32).toInt = 8 from by decide]
  omega
theorem iw_01 {x : Int32} (h0 : ¬ x < 0) (h1 : x ≤ 1) : x = 0 ∨ x = 1 := by
  obtain ⟨j, hj, rfl⟩ := nI_of2 (n := 1) (by decide) h0 h1
  have : j = 0 ∨ j = 1 := by omega
  rcases this with rfl | rfl
  · exact Or.inl rfl
  · exact Or.inr rfl
theorem iw_25 {x : Int32} (h2 : 2 ≤ x) (h5 : x ≤ 5) : ∃ j, 2 ≤ j ∧ j ≤ 5 ∧ x = nI j := by
  obtain ⟨j, hj, rfl⟩ := nI_of2 (n := 5) (by decide) (Int32.not_lt.mpr (Int32.le_trans (by decide) h2)) h5
  exact ⟨j, (nI_leI (a := 2) (by decide) (by omega)).mp h2, hj, rfl⟩
end
section
/-! the owed rows -/
def i_Rel (k : Nat) (u : SX) (v : SY) : Prop :=
  ∃ (n : Nat) (fo : Int32) (a b pl sk nu : Nat → Int32), 2 ≤ n ∧ n ≤ 5 ∧ u = sx_u n a b ∧ v = sy_v n fo a b pl sk nu
theorem iw_R {k n : Nat} {fo : Int32} {a b pl sk nu : Nat → Int32} (h2 : 2 ≤ n) (h5 : n ≤ 5) : i_Rel k (sx_u n a b) (sy_v n fo a b pl sk nu) := ⟨n, fo, a, b, pl, sk, nu, h2, h5, rfl, rfl⟩
theorem iw_ix {n : Nat} (h5 : n ≤ 5) (x : Int32) : (x < 0 ∨ nI n ≤ x) ∨ ∃ j, j < n ∧ x = nI j := by
  rcases pk_ix x (n := n) (by omega) with h | h | h
  · exact Or.inl (Or.inl h)
  · exact Or.inl (Or.inr h)
  · exact Or.inr h
theorem iw_fair {n : Nat} (h5 : n ≤ 5) (a b : Nat → Int32) : ∃ q, q < 6 ^ n ∧ sp_P n a b q = true ∧ sp_fx n a b (6 ^ n) = (q, sp_co n a b q n) ∧ sp_fy n a b (6 ^ n) = sp_co n a b q n ∧ ∀ x, x < q → sp_P n a b x = true → sp_co n a b x n ≠ sp_co n a b q n := by
  obtain ⟨x, hx, hS⟩ := sp_ex h5 a b
  exact sp_fair (C := fun x => sp_co n a b x n) (fun x _ hP => sp_cost_lt h5 hP) ⟨x, hx, sp_bt.mpr hS⟩
theorem iw_la {k n : Nat} {fo : Int32} {a b pl sk nu : Nat → Int32} (h2 : 2 ≤ n) (h5 : n ≤ 5) {p0 v2 v3 v4 : Int32} (c0 : ¬ p0 < 0) (c1 : p0 ≤ 1)
    (L : ∀ s, s < n → ∃ a' b', (∀ post : Int32 → SX → Prop, post 0 (sx_u n a' b') → ∃ m, wX_likeAll_50 post p0 (nI s) v3 v4 (nI n) (nI (6 ^ n)) m 0 (sp_jo a b)) ∧ (∀ post : Int32 → SY → Prop, post 0 (sy_v n fo a' b' pl sk nu) → ∃ m, wY_likeAll_50 post p0 (nI s) v3 v4 (nI n) fo m 0 a b pl sk nu)) :
    wX_likeAll_11 (fun r u' => wpY_likeAll (fun r' v' => r' = r ∧ i_Rel (k + 5) u' v') (sy_v n fo a b pl sk nu) p0 v2 v3 v4) p0 v2 v3 v4 (nI n) (nI (6 ^ n)) (sp_jo a b) := by
  unfold wX_likeAll_11 wpY_likeAll
  dsimp only
  rcases iw_ix h5 v2 with hs | ⟨s, hs, rfl⟩
  · exact sx_goodF hs (br_t rfl (br_f c0 (br_t c1 (sy_badF hs (br_f (by decide) ⟨rfl, iw_R h2 h5⟩)))))
  · refine sx_goodT h5 hs (br_f (by decide) ?_)
    by_cases d0 : v3 < 0
    · exact br_t d0 (br_f c0 (br_t c1 (sy_badT h5 hs (br_t rfl (br_t d0 ⟨rfl, iw_R h2 h5⟩)))))
    · refine br_f d0 ?_
      by_cases d9 : 9 ≤ v3
      · exact br_t d9 (br_f c0 (br_t c1 (sy_badT h5 hs (br_t rfl (br_f d0 (br_t (iw_89.mp d9) ⟨rfl, iw_R h2 h5⟩))))))
      · refine br_f d9 ?_
        have d8 : ¬ 8 < v3 := fun w => d9 (iw_89.mpr w)
        by_cases e0 : v4 < 0
        · exact br_t e0 (br_f c0 (br_t c1 (sy_badT h5 hs (br_t rfl (br_f d0 (br_f d8 (br_t e0 ⟨rfl, iw_R h2 h5⟩)))))))
        · refine br_f e0 ?_
          by_cases e9 : v4 < 9
          · obtain ⟨a', b', LX, LY⟩ := L s hs
            refine br_t e9 (LX _ ?_)
            exact br_f c0 (br_t c1 (sy_badT h5 hs (br_t rfl (br_f d0 (br_f d8 (br_f e0 (br_t (iw_98.mp e9) (LY _ ⟨rfl, iw_R h2 h5⟩))))))))
          · exact br_f e9 (br_f c0 (br_t c1 (sy_badT h5 hs (br_t rfl (br_f d0 (br_f d8 (br_f e0 (br_f (fun w => e9 (iw_98.mpr w)) ⟨rfl, iw_R h2 h5⟩))))))))
theorem i_up {k : Nat} {u : SX} {v : SY} (h : i_Rel k u v) : i_Rel (k + 5) u v := h
theorem i_vc0 (k0 : Int32) : wpX_init (fun u => wpY_init (fun v => i_Rel 1 u v) k0) k0 := by
  unfold wpX_init wpY_init
  by_cases c2 : 2 ≤ k0
  · by_cases c5 : k0 ≤ 5
    · obtain ⟨j, j2, j5, rfl⟩ := iw_25 c2 c5
      exact br_t c2 (br_t c5 (sx_initL j5 (br_t c2 (br_t c5 (iw_R j2 j5)))))
    · exact br_t c2 (br_f c5 (sx_initL (n := 5) (by decide) (br_t c2 (br_f c5 (iw_R (n := 5) (by decide) (by decide))))))
  · exact br_f c2 (sx_initL (n := 2) (by decide) (br_f c2 (iw_R (n := 2) (by decide) (by decide))))
theorem i_vc_size {k : Nat} {u : SX} {v : SY} (I : i_Rel k u v) (hk : k + 5 ≤ 2561) : wpX_size (fun r => wpY_size (fun r' => r' = r ∧ i_Rel (k + 5) u v) v) u := by
  obtain ⟨n, fo, a, b, pl, sk, nu, h2, h5, rfl, rfl⟩ := I
  exact ⟨rfl, iw_R h2 h5⟩
theorem i_vc_seekerLikes {k : Nat} {u : SX} {v : SY} (I : i_Rel k u v) (hk : k + 5 ≤ 2561) (v1 : Int32) (v2 : Int32) (v3 : Int32) : wpX_seekerLikes (fun r u' => wpY_seekerLikes (fun r' v' => r' = r ∧ i_Rel (k + 5) u' v') v v1 v2 v3) u v1 v2 v3 := by
  obtain ⟨n, fo, a, b, pl, sk, nu, h2, h5, rfl, rfl⟩ := I
  unfold wpX_seekerLikes wpY_seekerLikes
  dsimp only
  unfold wpX_changeLiking
  dsimp only
  rcases iw_ix h5 v1 with hs | ⟨s, hs, rfl⟩
  · exact sx_goodF hs (br_t rfl (sy_badF hs (br_f (by decide) ⟨rfl, iw_R h2 h5⟩)))
  · refine sx_goodT h5 hs (br_f (by decide) ?_)
    rcases iw_ix h5 v2 with hp | ⟨p, hp, rfl⟩
    · exact sx_goodF hp (br_t rfl (sy_badT h5 hs (br_t rfl (sy_badF hp (br_f (by decide) ⟨rfl, iw_R h2 h5⟩)))))
    · refine sx_goodT h5 hp (br_f (by decide) ?_)
      by_cases c0 : v3 < 0
      · exact br_t c0 (sy_badT h5 hs (br_t rfl (sy_badT h5 hp (br_t rfl (br_t c0 ⟨rfl, iw_R h2 h5⟩)))))
      · refine br_f c0 ?_
        by_cases c9 : v3 ≤ 9
        · refine br_t c9 (sx_slot0 ⟨sx_v0 (by omega) (by omega), nm_r (sx_e0 (by omega) (by omega)) ⟨sx_v0 (by omega) (by omega), nm_r (e' := sp_jo (upd a (5 * s + p) v3) b) (by rw [nI_clamp (by omega)]; exact sp_jo_ul v3 (by omega)) ?_⟩⟩)
          refine sy_badT h5 hs (br_t rfl (sy_badT h5 hp (br_t rfl (br_f c0 (br_t c9 ?_)))))
          rw [sy_ix s p, nI_clamp (show 5 * s + p < 2 ^ 31 by omega)]
          exact ⟨vp_in_nI (by omega) (by decide), nm_e ⟨vp_in_nI (by omega) (by decide), nm_e ⟨rfl, iw_R h2 h5⟩⟩⟩
        · exact br_f c9 (sy_badT h5 hs (br_t rfl (sy_badT h5 hp (br_t rfl (br_f c0 (br_f c9 ⟨rfl, iw_R h2 h5⟩))))))
theorem i_vc_placeLikes {k : Nat} {u : SX} {v : SY} (I : i_Rel k u v) (hk : k + 5 ≤ 2561) (v1 : Int32) (v2 : Int32) (v3 : Int32) : wpX_placeLikes (fun r u' => wpY_placeLikes (fun r' v' => r' = r ∧ i_Rel (k + 5) u' v') v v1 v2 v3) u v1 v2 v3 := by
  obtain ⟨n, fo, a, b, pl, sk, nu, h2, h5, rfl, rfl⟩ := I
  unfold wpX_placeLikes wpY_placeLikes
  dsimp only
  unfold wpX_changeLiking
  dsimp only
  rcases iw_ix h5 v1 with hs | ⟨s, hs, rfl⟩
  · exact sx_goodF hs (br_t rfl (sy_badF hs (br_f (by decide) ⟨rfl, iw_R h2 h5⟩)))
  · refine sx_goodT h5 hs (br_f (by decide) ?_)
    rcases iw_ix h5 v2 with hp | ⟨p, hp, rfl⟩
    · exact sx_goodF hp (br_t rfl (sy_badT h5 hs (br_t rfl (sy_badF hp (br_f (by decide) ⟨rfl, iw_R h2 h5⟩)))))
    · refine sx_goodT h5 hp (br_f (by decide) ?_)
      by_cases c0 : v3 < 0
      · exact br_t c0 (sy_badT h5 hs (br_t rfl (sy_badT h5 hp (br_t rfl (br_t c0 ⟨rfl, iw_R h2 h5⟩)))))
      · refine br_f c0 ?_
        by_cases c9 : v3 ≤ 9
        · refine br_t c9 (sx_slot1 ⟨sx_v1 (by omega) (by omega), nm_r (sx_e1 (by omega) (by omega)) ⟨sx_v1 (by omega) (by omega), nm_r (e' := sp_jo a (upd b (5 * s + p) v3)) (by rw [nI_clamp (by omega)]; exact sp_jo_uh v3) ?_⟩⟩)
          refine sy_badT h5 hs (br_t rfl (sy_badT h5 hp (br_t rfl (br_f c0 (br_t c9 ?_)))))
          rw [sy_ix s p, nI_clamp (show 5 * s + p < 2 ^ 31 by omega)]
          exact ⟨vp_in_nI (by omega) (by decide), nm_e ⟨vp_in_nI (by omega) (by decide), nm_e ⟨rfl, iw_R h2 h5⟩⟩⟩
        · exact br_f c9 (sy_badT h5 hs (br_t rfl (sy_badT h5 hp (br_t rfl (br_f c0 (br_f c9 ⟨rfl, iw_R h2 h5⟩))))))
theorem i_vc_likeAll {k : Nat} {u : SX} {v : SY} (I : i_Rel k u v) (hk : k + 5 ≤ 2561) (v1 : Int32) (v2 : Int32) (v3 : Int32) (v4 : Int32) : wpX_likeAll (fun r u' => wpY_likeAll (fun r' v' => r' = r ∧ i_Rel (k + 5) u' v') v v1 v2 v3 v4) u v1 v2 v3 v4 := by
  obtain ⟨n, fo, a, b, pl, sk, nu, h2, h5, rfl, rfl⟩ := I
  by_cases p0 : v1 = 0
  · subst p0
    exact br_t rfl (iw_la h2 h5 (by decide) (by decide) fun s hs => ⟨_, _, fun post h => sx_la0 h5 hs v3 v4 h, fun post h => sy_la0 h5 hs v3 v4 h⟩)
  · by_cases p1 : v1 = 1
    · subst p1
      exact br_f p0 (br_t rfl (iw_la h2 h5 (by decide) (by decide) fun s hs => ⟨_, _, fun post h => sx_la1 h5 hs v3 v4 h, fun post h => sy_la1 h5 hs v3 v4 h⟩))
    · refine br_f p0 (br_f p1 ?_)
      unfold wpY_likeAll
      dsimp only
      by_cases c0 : v1 < 0
      · exact br_t c0 ⟨rfl, iw_R h2 h5⟩
      · exact br_f c0 (br_f (fun w => (iw_01 c0 w).elim p0 p1) ⟨rfl, iw_R h2 h5⟩)
theorem i_vc_fitting {k : Nat} {u : SX} {v : SY} (I : i_Rel k u v) (hk : k + 5 ≤ 2561) (v1 : Int32) (v2 : Int32) : wpX_fitting (fun r => wpY_fitting (fun r' => r' = r ∧ i_Rel (k + 5) u v) v v1 v2) u v1 v2 := by
  obtain ⟨n, fo, a, b, pl, sk, nu, h2, h5, rfl, rfl⟩ := I
  unfold wpX_fitting wpY_fitting
  dsimp only
  rcases iw_ix h5 v1 with hs | ⟨s, hs, rfl⟩
  · exact sx_goodF hs (br_t rfl (sy_badF hs (br_f (by decide) ⟨rfl, iw_R h2 h5⟩)))
  · refine sx_goodT h5 hs (br_f (by decide) ?_)
    rcases iw_ix h5 v2 with hp | ⟨p, hp, rfl⟩
    · exact sx_goodF hp (br_t rfl (sy_badT h5 hs (br_t rfl (sy_badF hp (br_f (by decide) ⟨rfl, iw_R h2 h5⟩)))))
    · refine sx_goodT h5 hp (br_f (by decide) (sx_fits0 (by omega) (by omega) (sp_br (fun w => ?_) fun w => ?_)))
      · exact sy_badT h5 hs (br_t rfl (sy_badT h5 hp (br_t rfl (sy_fits (by omega) (by omega) (sp_br (fun _ => ⟨rfl, iw_R h2 h5⟩) fun z => absurd z w)))))
      · exact sy_badT h5 hs (br_t rfl (sy_badT h5 hp (br_t rfl (sy_fits (by omega) (by omega) (sp_br (fun z => absurd w z) fun _ => ⟨rfl, iw_R h2 h5⟩)))))
theorem i_vc_stables {k : Nat} {u : SX} {v : SY} (I : i_Rel k u v) (hk : k + 5 ≤ 2561) : wpX_stables (fun r => wpY_stables (fun r' v' => r' = r ∧ i_Rel (k + 5) u v') v) u := by
  obtain ⟨n, fo, a, b, pl, sk, nu, h2, h5, rfl, rfl⟩ := I
  exact sx_stables h5 (sy_stables h2 h5 fun _ _ _ _ => ⟨rfl, iw_R h2 h5⟩)
theorem i_vc_stable {k : Nat} {u : SX} {v : SY} (I : i_Rel k u v) (hk : k + 5 ≤ 2561) (v1 : Int32) : wpX_stable (fun r => wpY_stable (fun r' v' => r' = r ∧ i_Rel (k + 5) u v') v v1) u v1 := by
  obtain ⟨n, fo, a, b, pl, sk, nu, h2, h5, rfl, rfl⟩ := I
  exact sx_stable h5 v1 fun r hr => sy_stable h2 h5 hr fun _ _ _ _ => ⟨rfl, iw_R h2 h5⟩
theorem i_vc_blocking {k : Nat} {u : SX} {v : SY} (I : i_Rel k u v) (hk : k + 5 ≤ 2561) (v1 : Int32) : wpX_blocking (fun r => wpY_blocking (fun r' v' => r' = r ∧ i_Rel (k + 5) u v') v v1) u v1 := by
  obtain ⟨n, fo, a, b, pl, sk, nu, h2, h5, rfl, rfl⟩ := I
  by_cases z : v1 < 0
  · unfold wpX_blocking wpY_blocking
    dsimp only
    unfold wpX_isMatching wpY_read
    dsimp only
    exact br_t z (br_t rfl (br_f (Int32.not_le.mpr z) (br_t rfl ⟨rfl, iw_R h2 h5⟩)))
  · obtain ⟨x, hx, rfl⟩ := nI_of z
    refine sx_blocking h5 hx (fun w => ?_) (fun w => ?_)
    · exact sy_blocking h5 hx (fun _ _ _ => ⟨rfl, iw_R h2 h5⟩) (fun q => absurd q w)
    · exact sy_blocking h5 hx (fun q => absurd w q) (fun _ _ _ => ⟨rfl, iw_R h2 h5⟩)
theorem i_vc_bestFor {k : Nat} {u : SX} {v : SY} (I : i_Rel k u v) (hk : k + 5 ≤ 2561) (v1 : Int32) : wpX_bestFor (fun r => wpY_bestFor (fun r' v' => r' = r ∧ i_Rel (k + 5) u v') v v1) u v1 := by
  obtain ⟨n, fo, a, b, pl, sk, nu, h2, h5, rfl, rfl⟩ := I
  rcases iw_ix h5 v1 with hs | ⟨s, hs, rfl⟩
  · unfold wpX_bestFor wpY_bestFor
    dsimp only
    exact sx_goodF hs (br_t rfl (sy_badF hs (br_f (by decide) ⟨rfl, iw_R h2 h5⟩)))
  · refine sx_bestFor h5 hs (fun z => ?_) (fun z => ?_)
    · exact sy_bestFor h2 h5 hs fun _ _ _ _ => ⟨by rw [z, sp_ch0], iw_R h2 h5⟩
    · exact sy_bestFor h2 h5 hs fun _ _ _ _ => ⟨by rw [sp_chs z, sp_plp z], iw_R h2 h5⟩
theorem i_vc_worstFor {k : Nat} {u : SX} {v : SY} (I : i_Rel k u v) (hk : k + 5 ≤ 2561) (v1 : Int32) : wpX_worstFor (fun r => wpY_worstFor (fun r' v' => r' = r ∧ i_Rel (k + 5) u v') v v1) u v1 := by
  obtain ⟨n, fo, a, b, pl, sk, nu, h2, h5, rfl, rfl⟩ := I
  rcases iw_ix h5 v1 with hs | ⟨s, hs, rfl⟩
  · unfold wpX_worstFor wpY_worstFor
    dsimp only
    exact sx_goodF hs (br_t rfl (sy_badF hs (br_f (by decide) ⟨rfl, iw_R h2 h5⟩)))
  · refine sx_worstFor h5 hs (fun z => ?_) (fun z => ?_)
    · exact sy_worstFor h2 h5 hs fun _ _ _ _ => ⟨by rw [z, sp_ch0], iw_R h2 h5⟩
    · exact sy_worstFor h2 h5 hs fun _ _ _ _ => ⟨by rw [sp_chs z, sp_plp z], iw_R h2 h5⟩
theorem i_vc_together {k : Nat} {u : SX} {v : SY} (I : i_Rel k u v) (hk : k + 5 ≤ 2561) (v1 : Int32) (v2 : Int32) : wpX_together (fun r => wpY_together (fun r' v' => r' = r ∧ i_Rel (k + 5) u v') v v1 v2) u v1 v2 := by
  obtain ⟨n, fo, a, b, pl, sk, nu, h2, h5, rfl, rfl⟩ := I
  rcases iw_ix h5 v1 with hs | ⟨s, hs, rfl⟩
  · unfold wpX_together wpY_together
    dsimp only
    exact sx_goodF hs (br_t rfl (sy_badF hs (br_f (by decide) ⟨rfl, iw_R h2 h5⟩)))
  · rcases iw_ix h5 v2 with hp | ⟨p, hp, rfl⟩
    · unfold wpX_together wpY_together
      dsimp only
      exact sx_goodT h5 hs (br_f (by decide) (sx_goodF hp (br_t rfl (sy_badT h5 hs (br_t rfl (sy_badF hp (br_f (by decide) ⟨rfl, iw_R h2 h5⟩)))))))
    · exact sx_together h5 hs hp (sy_together h2 h5 hs hp fun _ _ _ _ => ⟨rfl, iw_R h2 h5⟩)
theorem i_vc_placed {k : Nat} {u : SX} {v : SY} (I : i_Rel k u v) (hk : k + 5 ≤ 2561) : wpX_placed (fun r => wpY_placed (fun r' v' => r' = r ∧ i_Rel (k + 5) u v') v) u := by
  obtain ⟨n, fo, a, b, pl, sk, nu, h2, h5, rfl, rfl⟩ := I
  exact sx_placed h5 (sy_placed h2 h5 fun _ _ _ _ => ⟨rfl, iw_R h2 h5⟩)
theorem i_vc_leastCost {k : Nat} {u : SX} {v : SY} (I : i_Rel k u v) (hk : k + 5 ≤ 2561) : wpX_leastCost (fun r => wpY_leastCost (fun r' v' => r' = r ∧ i_Rel (k + 5) u v') v) u := by
  obtain ⟨n, fo, a, b, pl, sk, nu, h2, h5, rfl, rfl⟩ := I
  have hN := sp_6 h5
  obtain ⟨q, q1, q2, q3, q4, q5⟩ := iw_fair h5 a b
  exact sx_leastCost h5 (by rw [q3]; show q < 2 ^ 31; omega) (sy_leastCost h2 h5 fun _ _ _ _ => ⟨by rw [q3, q4], iw_R h2 h5⟩)
theorem i_vc_fairest {k : Nat} {u : SX} {v : SY} (I : i_Rel k u v) (hk : k + 5 ≤ 2561) : wpX_fairest (fun r => wpY_fairest (fun r' v' => r' = r ∧ i_Rel (k + 5) u v') v) u := by
  obtain ⟨n, fo, a, b, pl, sk, nu, h2, h5, rfl, rfl⟩ := I
  obtain ⟨q, q1, q2, q3, q4, q5⟩ := iw_fair h5 a b
  exact sx_fairest h5 (sy_fairest h2 h5 q1 q2 q4 q5 fun _ _ _ _ => ⟨by rw [q3], iw_R h2 h5⟩)
theorem i_vc_better {k : Nat} {u : SX} {v : SY} (I : i_Rel k u v) (hk : k + 5 ≤ 2561) (v1 : Int32) (v2 : Int32) : wpX_better (fun r => wpY_better (fun r' v' => r' = r ∧ i_Rel (k + 5) u v') v v1 v2) u v1 v2 := by
  obtain ⟨n, fo, a, b, pl, sk, nu, h2, h5, rfl, rfl⟩ := I
  have hN := sp_6 h5
  refine sx_better h5 v1 v2 fun r t hr ht => ?_
  have neg : (r = -1 ∨ t = -1) → wpY_better (fun r' v' => r' = -1 ∧ i_Rel (k + 5) (sx_u n a b) v') (sy_v n fo a b pl sk nu) v1 v2 := fun z =>
    sy_better h2 h5 hr ht (fun _ _ _ _ _ => ⟨rfl, iw_R h2 h5⟩) (fun x y hx hy ex ey => by
      rcases z with z | z
      · exact absurd (ex.symm.trans z) (sx_nm hx)
      · exact absurd (ey.symm.trans z) (sx_nm hy))
  rcases hr with ⟨x, x1, x2, x3, rfl⟩ | ⟨_, rfl⟩
  · refine br_f (nI_pos (by omega)) ?_
    rcases ht with ⟨y, y1, y2, y3, rfl⟩ | ⟨_, rfl⟩
    · refine br_t (nI_pos' (by omega)) (sx_betterL h5 (by omega) (by omega) ?_)
      refine sy_better h2 h5 (r := nI x) (t := nI y) (Or.inl ⟨x, x1, x2, x3, rfl⟩) (Or.inl ⟨y, y1, y2, y3, rfl⟩) (fun z => ?_) (fun x' y' hx' hy' ex ey => ?_)
      · exact absurd z (fun z => z.elim (sx_nm (by omega)) (sx_nm (by omega)))
      · have e1 : x = x' := (nI_eq (by omega) hx').mp ex
        have e2 : y = y' := (nI_eq (by omega) hy').mp ey
        subst e1 e2
        exact fun _ _ _ _ => ⟨rfl, iw_R h2 h5⟩
    · exact br_f (by decide) (neg (Or.inr rfl))
  · exact br_t (by decide) (neg (Or.inl rfl))
end
