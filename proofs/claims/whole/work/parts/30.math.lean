/-! stable matchings: there is one, all pair the same seekers, there are few -/
def sp_d (x s : Nat) : Nat := x / 6 ^ s % 6
theorem sp_d_0 (x : Nat) : sp_d x 0 = x % 6 := by rw [sp_d, Nat.pow_zero, Nat.div_one]
theorem sp_d_s (x s : Nat) : sp_d x (s + 1) = sp_d (x / 6) s := by
  rw [sp_d, sp_d, Nat.pow_succ, Nat.mul_comm, ← Nat.div_div_eq_div_mul]
theorem sp_d_lt (x s : Nat) : sp_d x s < 6 := Nat.mod_lt _ (by decide)
theorem sp_enc : ∀ (n : Nat) (m : Nat → Nat), (∀ s, s < n → m s < 6) → ∃ x, x < 6 ^ n ∧ ∀ s, s < n → sp_d x s = m s
  | 0, _, _ => ⟨0, by decide, fun s hs => by omega⟩
  | n + 1, m, h => by
    obtain ⟨x, hx, hd⟩ := sp_enc n (fun s => m (s + 1)) fun s hs => h (s + 1) (by omega)
    have h0 := h 0 (by omega)
    refine ⟨m 0 + 6 * x, ?_, ?_⟩
    · rw [Nat.pow_succ]; omega
    · intro s hs
      cases s with
      | zero => rw [sp_d_0]; omega
      | succ s =>
        rw [sp_d_s, show (m 0 + 6 * x) / 6 = x by omega]
        exact hd s (by omega)
def sp_fit (a b : Nat → Int32) (s p : Nat) : Prop := 0 < a (5 * s + p) ∧ 0 < b (5 * p + s)
def sp_pr (a : Nat → Int32) (s p q : Nat) : Prop := a (5 * s + q) < a (5 * s + p) ∨ (a (5 * s + p) = a (5 * s + q) ∧ p < q)
theorem sp_pr_i {a : Nat → Int32} {s p q : Nat} : sp_pr a s p q ↔ (a (5 * s + q)).toInt < (a (5 * s + p)).toInt ∨ ((a (5 * s + p)).toInt = (a (5 * s + q)).toInt ∧ p < q) := by
  rw [sp_pr, Int32.lt_iff_toInt_lt, Int32.toInt_inj]
theorem sp_pr_irr {a : Nat → Int32} {s p : Nat} : ¬ sp_pr a s p p := by
  rw [sp_pr_i]; omega
theorem sp_pr_tr {a : Nat → Int32} {s p q r : Nat} (h : sp_pr a s p q) (k : sp_pr a s q r) : sp_pr a s p r := by
  rw [sp_pr_i] at h k ⊢; omega
theorem sp_pr_tot {a : Nat → Int32} {s p q : Nat} (h : p ≠ q) : sp_pr a s p q ∨ sp_pr a s q p := by
  rw [sp_pr_i, sp_pr_i]; omega
/-- a choice of digits that is a matching which no pair blocks -/
def sp_SM (n : Nat) (F : Nat → Nat → Prop) (A B : Nat → Nat → Nat → Prop) (m : Nat → Nat) : Prop :=
  (∀ s, s < n → m s ≠ 0 → m s ≤ n ∧ F s (m s - 1)) ∧ (∀ s t, s < n → t < n → m s ≠ 0 → m s = m t → s = t) ∧
  (∀ s p, s < n → p < n → F s p → (m s = 0 ∨ A s p (m s - 1)) → ¬ ∀ t, t < n → m t = p + 1 → B p s t)
theorem sp_bst (G : Nat → Prop) (R : Nat → Nat → Prop) (htr : ∀ p q r, R p q → R q r → R p r) (htot : ∀ p q, p ≠ q → R p q ∨ R q p) : ∀ n : Nat, (∀ p, p < n → ¬ G p) ∨ ∃ p, p < n ∧ G p ∧ ∀ q, q < n → G q → q = p ∨ R p q
  | 0 => Or.inl fun p hp => by omega
  | n + 1 => by
    by_cases g : G n
    · rcases sp_bst G R htr htot n with h | ⟨p, h1, h2, h3⟩
      · refine Or.inr ⟨n, by omega, g, fun q hq gq => ?_⟩
        by_cases e : q = n
        · exact Or.inl e
        · exact absurd gq (h q (by omega))
      · rcases htot p n (by omega) with r | r
        · refine Or.inr ⟨p, by omega, h2, fun q hq gq => ?_⟩
          by_cases e : q = n
          · exact Or.inr (e ▸ r)
          · exact h3 q (by omega) gq
        · refine Or.inr ⟨n, by omega, g, fun q hq gq => ?_⟩
          by_cases e : q = n
          · exact Or.inl e
          · rcases h3 q (by omega) gq with k | k
            · exact Or.inr (k ▸ r)
            · exact Or.inr (htr _ _ _ r k)
    · rcases sp_bst G R htr htot n with h | ⟨p, h1, h2, h3⟩
      · refine Or.inl fun p hp gp => ?_
        by_cases e : p = n
        · exact g (e ▸ gp)
        · exact h p (by omega) gp
      · refine Or.inr ⟨p, by omega, h2, fun q hq gq => ?_⟩
        by_cases e : q = n
        · exact (g (e ▸ gq)).elim
        · exact h3 q (by omega) gq
theorem sp_SM_cut {n : Nat} {F : Nat → Nat → Prop} {A B : Nat → Nat → Nat → Prop} {m : Nat → Nat} {s t p : Nat}
    (Btr : ∀ p q r u, B p q r → B p r u → B p q u) (Birr : ∀ p q, ¬ B p q q)
    (hs : s < n) (hp : p < n) (hst : s ≠ t) (hB : B p s t) (hF : F s p) (hbest : ∀ q, q < n → F s q → q = p ∨ A s p q)
    (h : sp_SM n (fun s' q => F s' q ∧ ¬ (s' = t ∧ q = p)) A B m) : sp_SM n F A B m := by
  obtain ⟨h1, h2, h3⟩ := h
  refine ⟨fun s' hs' hm => ⟨(h1 s' hs' hm).1, (h1 s' hs' hm).2.1⟩, h2, ?_⟩
  intro s' q hs' hq hf hc hall
  by_cases e : s' = t ∧ q = p
  · obtain ⟨e1, e2⟩ := e
    subst e1
    subst e2
    refine h3 s q hs hq ⟨hF, fun z => hst z.1⟩ ?_ fun t' ht' hm => Btr _ _ _ _ hB (hall t' ht' hm)
    by_cases z : m s = 0
    · exact Or.inl z
    · obtain ⟨k1, k2⟩ := h1 s hs z
      rcases hbest (m s - 1) (by omega) k2.1 with k | k
      · exact absurd (Btr _ _ _ _ hB (hall s hs (by omega))) (Birr _ _)
      · exact Or.inr k
  · exact h3 s' q hs' hq ⟨hf, e⟩ hc hall
theorem sp_SM_ex {n : Nat} (hn : n ≤ 5) {A B : Nat → Nat → Nat → Prop}
    (Atr : ∀ p q r u, A p q r → A p r u → A p q u) (Airr : ∀ p q, ¬ A p q q) (Atot : ∀ p q r, q ≠ r → A p q r ∨ A p r q)
    (Btr : ∀ p q r u, B p q r → B p r u → B p q u) (Birr : ∀ p q, ¬ B p q q) (Btot : ∀ p q r, q ≠ r → B p q r ∨ B p r q) :
    ∀ (c : Nat) (F : Nat → Nat → Prop), sp_cn (fun k => sp_b (F (k / 5) (k % 5))) 25 < c → ∃ m, sp_SM n F A B m := by
  intro c
  induction c with
  | zero => intro F h; omega
  | succ c ih =>
    intro F hc
    have hb : ∀ s, ∃ d, (d = 0 ∧ ∀ p, p < n → ¬ F s p) ∨ ∃ p, p < n ∧ d = p + 1 ∧ F s p ∧ ∀ q, q < n → F s q → q = p ∨ A s p q := by
      intro s
      rcases sp_bst (F s) (A s) (Atr s) (Atot s) n with h | ⟨p, h1, h2, h3⟩
      · exact ⟨0, Or.inl ⟨rfl, h⟩⟩
      · exact ⟨p + 1, Or.inr ⟨p, h1, rfl, h2, h3⟩⟩
    obtain ⟨m, hm⟩ := Classical.axiomOfChoice hb
    by_cases inj : ∀ s t, s < n → t < n → m s ≠ 0 → m s = m t → s = t
    · refine ⟨m, ?_, inj, ?_⟩
      · intro s hs z
        rcases hm s with ⟨h, _⟩ | ⟨p, h1, h2, h3, _⟩
        · exact absurd h z
        · rw [h2]; exact ⟨h1, h3⟩
      · intro s p hs hp hf hcond _
        rcases hm s with ⟨_, h⟩ | ⟨q, h1, h2, h3, h4⟩
        · exact h p hp hf
        · rw [h2] at hcond
          rcases hcond with z | z
          · omega
          · rw [Nat.add_sub_cancel] at z
            rcases h4 p hp hf with k | k
            · subst k; exact Airr _ _ z
            · exact Airr _ _ (Atr _ _ _ _ z k)
    · have inj' : ∃ s t, s < n ∧ t < n ∧ m s ≠ 0 ∧ m s = m t ∧ s ≠ t := by
        refine Classical.byContradiction fun z => inj fun s t hs ht h0 he => ?_
        refine Classical.byContradiction fun k => z ⟨s, t, hs, ht, h0, he, k⟩
      have key : ∀ s t p, s < n → t < n → p < n → s ≠ t → F s p → F t p → B p s t → (∀ q, q < n → F s q → q = p ∨ A s p q) → ∃ m, sp_SM n F A B m := by
        intro s t p hs ht hp hst f1 f2 hB hbest
        obtain ⟨m', hm'⟩ := ih (fun s' q => F s' q ∧ ¬ (s' = t ∧ q = p)) (by
          refine Nat.lt_of_lt_of_le (sp_cn_dec (Q := fun k => sp_b (F (k / 5) (k % 5))) (k0 := 5 * t + p) ?_ ?_ (by omega) ?_) (Nat.le_of_lt_succ hc)
          · exact sp_bf.mpr fun z => z.2 ⟨by omega, by omega⟩
          · refine sp_bt.mpr ?_
            show F ((5 * t + p) / 5) ((5 * t + p) % 5)
            rw [show (5 * t + p) / 5 = t by omega, show (5 * t + p) % 5 = p by omega]
            exact f2
          · exact fun k _ z => sp_bt.mpr (sp_bt.mp z).1)
        exact ⟨m', sp_SM_cut Btr Birr hs hp hst hB f1 hbest hm'⟩
      obtain ⟨s, t, hs, ht, h0, he, hst⟩ := inj'
      rcases hm s with ⟨h, _⟩ | ⟨p, h1, h2, h3, h4⟩
      · exact absurd h h0
      · rcases hm t with ⟨h, _⟩ | ⟨q, k1, k2, k3, k4⟩
        · omega
        · have e : q = p := by omega
          subst e
          rcases Btot q s t hst with r | r
          · exact key s t q hs ht h1 hst h3 k3 r h4
          · exact key t s q ht hs h1 (Ne.symm hst) k3 h3 r k4
/-- x is the number of a matching -/
def sp_M (n : Nat) (a b : Nat → Int32) (x : Nat) : Prop :=
  x < 6 ^ n ∧ (∀ s, s < n → sp_d x s ≠ 0 → sp_d x s ≤ n ∧ sp_fit a b s (sp_d x s - 1)) ∧ (∀ s t, s < n → t < n → sp_d x s ≠ 0 → sp_d x s = sp_d x t → s = t)
def sp_Bk (n : Nat) (a b : Nat → Int32) (x s p : Nat) : Prop :=
  sp_fit a b s p ∧ (sp_d x s = 0 ∨ sp_pr a s p (sp_d x s - 1)) ∧ ∀ t, t < n → sp_d x t = p + 1 → sp_pr b p s t
def sp_St (n : Nat) (a b : Nat → Int32) (x : Nat) : Prop := sp_M n a b x ∧ ∀ s p, s < n → p < n → ¬ sp_Bk n a b x s p
theorem sp_ex {n : Nat} (hn : n ≤ 5) (a b : Nat → Int32) : ∃ x, x < 6 ^ n ∧ sp_St n a b x := by
  obtain ⟨m, h1, h2, h3⟩ := sp_SM_ex hn (A := sp_pr a) (B := sp_pr b) (fun _ _ _ _ => sp_pr_tr) (fun _ _ => sp_pr_irr) (fun _ _ _ => sp_pr_tot)
    (fun _ _ _ _ => sp_pr_tr) (fun _ _ => sp_pr_irr) (fun _ _ _ => sp_pr_tot) _ (sp_fit a b) (Nat.lt_succ_self _)
  obtain ⟨x, hx, hd⟩ := sp_enc n m fun s hs => by
    by_cases z : m s = 0
    · omega
    · have := (h1 s hs z).1; omega
  refine ⟨x, hx, ⟨hx, ?_, ?_⟩, ?_⟩
  · intro s hs; rw [hd s hs]; exact h1 s hs
  · intro s t hs ht; rw [hd s hs, hd t ht]; exact h2 s t hs ht
  · intro s p hs hp ⟨k1, k2, k3⟩
    rw [hd s hs] at k2
    exact h3 s p hs hp k1 k2 fun t ht e => k3 t ht (by rw [hd t ht]; exact e)
theorem sp_pig : ∀ (n : Nat) (g : Nat → Nat), (∀ i, i ≤ n → g i < n) → (∀ i j, i < j → j ≤ n → g i ≠ g j) → False
  | 0, g, h, _ => by have := h 0 (Nat.le_refl 0); omega
  | n + 1, g, h, k => by
    refine sp_pig n (fun i => if g i = n then g (n + 1) else g i) ?_ ?_
    · intro i hi
      have h1 := h i (by omega)
      have h2 := h (n + 1) (Nat.le_refl _)
      have h3 := k i (n + 1) (by omega) (Nat.le_refl _)
      show (if g i = n then g (n + 1) else g i) < n
      split <;> omega
    · intro i j hij hj
      have h1 := k i j hij (by omega)
      have h2 := k i (n + 1) (by omega) (Nat.le_refl _)
      have h3 := k j (n + 1) (by omega) (Nat.le_refl _)
      show (if g i = n then g (n + 1) else g i) ≠ (if g j = n then g (n + 1) else g j)
      split <;> split <;> omega
/-- the seekers that have it better in x than in y -/
def sp_A (n : Nat) (a : Nat → Int32) (x y t : Nat) : Prop := t < n ∧ sp_d x t ≠ 0 ∧ (sp_d y t = 0 ∨ sp_pr a t (sp_d x t - 1) (sp_d y t - 1))
theorem sp_A_step {n : Nat} {a b : Nat → Int32} {x y : Nat} (hx : sp_St n a b x) (hy : sp_St n a b y) {t : Nat} (ht : sp_A n a x y t) : ∃ t', sp_A n a x y t' ∧ sp_d y t' = sp_d x t := by
  obtain ⟨t1, t2, t3⟩ := ht
  obtain ⟨⟨_, x2, x3⟩, x4⟩ := hx
  obtain ⟨⟨_, y2, y3⟩, y4⟩ := hy
  obtain ⟨p1, p2⟩ := x2 t t1 t2
  have hp : sp_d x t - 1 < n := by omega
  have hex : ∃ t', t' < n ∧ sp_d y t' = sp_d x t - 1 + 1 ∧ ¬ sp_pr b (sp_d x t - 1) t t' := by
    refine Classical.byContradiction fun z => y4 t (sp_d x t - 1) t1 hp ⟨p2, t3, fun t' h1 h2 => ?_⟩
    exact Classical.byContradiction fun k => z ⟨t', h1, h2, k⟩
  obtain ⟨t', h1, h2, h3⟩ := hex
  have e : sp_d y t' = sp_d x t := by omega
  have hne : t ≠ t' := by
    intro z
    subst z
    rcases t3 with k | k
    · omega
    · rw [e] at k; exact sp_pr_irr k
  have hb : sp_pr b (sp_d x t - 1) t' t := (sp_pr_tot hne).resolve_left h3
  have hf := (y2 t' h1 (by omega)).2
  rw [e] at hf
  have hnb : ¬ (sp_d x t' = 0 ∨ sp_pr a t' (sp_d x t - 1) (sp_d x t' - 1)) := by
    intro z
    refine x4 t' (sp_d x t - 1) h1 hp ⟨hf, z, fun t'' k1 k2 => ?_⟩
    have : t = t'' := x3 t t'' t1 k1 t2 (by omega)
    exact this ▸ hb
  have n1 : sp_d x t' ≠ 0 := fun z => hnb (Or.inl z)
  have n2 : sp_d x t - 1 ≠ sp_d x t' - 1 := by
    intro z
    exact hne (x3 t t' t1 h1 t2 (by omega))
  refine ⟨t', ⟨h1, n1, Or.inr ?_⟩, e⟩
  rw [e]
  exact (sp_pr_tot n2).resolve_left fun z => hnb (Or.inr z)
theorem sp_rur {n : Nat} {a b : Nat → Int32} {x y : Nat} (hx : sp_St n a b x) (hy : sp_St n a b y) {s : Nat} (hs : s < n) (h : sp_d x s ≠ 0) : sp_d y s ≠ 0 := by
  intro hz
  have hch : ∀ t, ∃ t', sp_A n a x y t → sp_A n a x y t' ∧ sp_d y t' = sp_d x t := by
    intro t
    by_cases e : sp_A n a x y t
    · obtain ⟨t', h⟩ := sp_A_step hx hy e
      exact ⟨t', fun _ => h⟩
    · exact ⟨0, fun z => absurd z e⟩
  obtain ⟨f, hf⟩ := Classical.axiomOfChoice hch
  have hg : ∃ g : Nat → Nat, g 0 = s ∧ ∀ i, g (i + 1) = f (g i) := ⟨fun i => @Nat.rec (fun _ => Nat) s (fun _ r => f r) i, rfl, fun _ => rfl⟩
  obtain ⟨g, g0, gs⟩ := hg
  have hA : ∀ i, sp_A n a x y (g i) := by
    intro i
    induction i with
    | zero => rw [g0]; exact ⟨hs, h, Or.inl hz⟩
    | succ i ih => rw [gs]; exact (hf _ ih).1
  have hd : ∀ i, sp_d y (g (i + 1)) = sp_d x (g i) := fun i => by rw [gs]; exact (hf _ (hA i)).2
  have hne : ∀ i j, i < j → g i ≠ g j := by
    intro i
    induction i with
    | zero =>
      intro j hj e
      obtain ⟨j, rfl⟩ : ∃ k, j = k + 1 := ⟨j - 1, by omega⟩
      have h1 := hd j
      rw [← e, g0, hz] at h1
      exact (hA j).2.1 h1.symm
    | succ i ih =>
      intro j hj e
      obtain ⟨j, rfl⟩ : ∃ k, j = k + 1 := ⟨j - 1, by omega⟩
      have h1 := hd j
      rw [← e, hd i] at h1
      exact ih j (by omega) (hx.1.2.2 _ _ (hA i).1 (hA j).1 (hA i).2.1 h1)
  exact sp_pig n g (fun i _ => (hA i).1) (fun i j hij _ => hne i j hij)
/-- words without a repeated digit other than 0, which stands where the list says so -/
def sp_Q : List Bool → List Nat → Nat → Bool
  | [], _, _ => true
  | true :: zs, us, x => x % 6 == 0 && sp_Q zs us (x / 6)
  | false :: zs, us, x => !(x % 6 == 0) && (!(us.contains (x % 6)) && sp_Q zs (x % 6 :: us) (x / 6))
def sp_T : List Bool → List Nat → Nat
  | [], _ => 1
  | true :: zs, us => sp_T zs us
  | false :: zs, us => (bif us.contains 1 then 0 else sp_T zs (1 :: us)) + (bif us.contains 2 then 0 else sp_T zs (2 :: us)) + (bif us.contains 3 then 0 else sp_T zs (3 :: us)) + (bif us.contains 4 then 0 else sp_T zs (4 :: us)) + (bif us.contains 5 then 0 else sp_T zs (5 :: us))
theorem sp_Qt (zs : List Bool) (us : List Nat) (x d : Nat) (hd : d < 6) : sp_Q (true :: zs) us (6 * x + d) = (d == 0 && sp_Q zs us x) := by
  show ((6 * x + d) % 6 == 0 && sp_Q zs us ((6 * x + d) / 6)) = _
  rw [show (6 * x + d) % 6 = d by omega, show (6 * x + d) / 6 = x by omega]
theorem sp_Qf (zs : List Bool) (us : List Nat) (x d : Nat) (hd : d < 6) : sp_Q (false :: zs) us (6 * x + d) = (!(d == 0) && (!(us.contains d) && sp_Q zs (d :: us) x)) := by
  show (!((6 * x + d) % 6 == 0) && (!(us.contains ((6 * x + d) % 6)) && sp_Q zs ((6 * x + d) % 6 :: us) ((6 * x + d) / 6))) = _
  rw [show (6 * x + d) % 6 = d by omega, show (6 * x + d) / 6 = x by omega]
theorem sp_Qt0 (zs : List Bool) (us : List Nat) (N d : Nat) (h0 : 0 < d) (hd : d < 6) : sp_cn (fun x => sp_Q (true :: zs) us (6 * x + d)) N = 0 :=
  sp_cn_none fun k _ => by
    show sp_Q (true :: zs) us (6 * k + d) = false
    rw [sp_Qt zs us k d hd, show (d == 0) = false from beq_eq_false_iff_ne.mpr (by omega)]
    rfl
theorem sp_Qc (zs : List Bool) (us : List Nat) (N d : Nat) (h0 : 0 < d) (hd : d < 6) (h : sp_cn (sp_Q zs (d :: us)) N ≤ sp_T zs (d :: us)) : sp_cn (fun x => sp_Q (false :: zs) us (6 * x + d)) N ≤ bif us.contains d then 0 else sp_T zs (d :: us) := by
  have e0 : (d == 0) = false := beq_eq_false_iff_ne.mpr (by omega)
  cases c : us.contains d with
  | true =>
    have h1 : sp_cn (fun x => sp_Q (false :: zs) us (6 * x + d)) N = 0 := sp_cn_none fun k _ => by
      show sp_Q (false :: zs) us (6 * k + d) = false
      rw [sp_Qf zs us k d hd, e0, c]; rfl
    rw [h1]
    exact Nat.le_refl 0
  | false =>
    have h1 : sp_cn (fun x => sp_Q (false :: zs) us (6 * x + d)) N = sp_cn (sp_Q zs (d :: us)) N := sp_cn_con fun k _ => by
      show sp_Q (false :: zs) us (6 * k + d) = _
      rw [sp_Qf zs us k d hd, e0, c]; rfl
    rw [h1]
    exact h
theorem sp_Qf0 (zs : List Bool) (us : List Nat) (N : Nat) : sp_cn (fun x => sp_Q (false :: zs) us (6 * x)) N = 0 :=
  sp_cn_none fun k _ => by
    show sp_Q (false :: zs) us (6 * k + 0) = false
    rw [sp_Qf zs us k 0 (by decide)]; rfl
theorem sp_T_le : ∀ (zs : List Bool) (us : List Nat), sp_cn (sp_Q zs us) (6 ^ zs.length) ≤ sp_T zs us
  | [], us => sp_cn_le _ 1
  | true :: zs, us => by
    have ih := sp_T_le zs us
    rw [List.length_cons, Nat.pow_succ, Nat.mul_comm, sp_cn_6]
    rw [sp_Qt0 zs us _ 1 (by decide) (by decide), sp_Qt0 zs us _ 2 (by decide) (by decide), sp_Qt0 zs us _ 3 (by decide) (by decide), sp_Qt0 zs us _ 4 (by decide) (by decide), sp_Qt0 zs us _ 5 (by decide) (by decide)]
    have h1 : sp_cn (fun x => sp_Q (true :: zs) us (6 * x)) (6 ^ zs.length) = sp_cn (sp_Q zs us) (6 ^ zs.length) := sp_cn_con fun k _ => by
      show sp_Q (true :: zs) us (6 * k + 0) = _
      rw [sp_Qt zs us k 0 (by decide)]; rfl
    rw [h1]
    exact ih
  | false :: zs, us => by
    rw [List.length_cons, Nat.pow_succ, Nat.mul_comm, sp_cn_6, sp_Qf0]
    have h1 := sp_Qc zs us (6 ^ zs.length) 1 (by decide) (by decide) (sp_T_le zs _)
    have h2 := sp_Qc zs us (6 ^ zs.length) 2 (by decide) (by decide) (sp_T_le zs _)
    have h3 := sp_Qc zs us (6 ^ zs.length) 3 (by decide) (by decide) (sp_T_le zs _)
    have h4 := sp_Qc zs us (6 ^ zs.length) 4 (by decide) (by decide) (sp_T_le zs _)
    have h5 := sp_Qc zs us (6 ^ zs.length) 5 (by decide) (by decide) (sp_T_le zs _)
    show _ ≤ (bif us.contains 1 then 0 else sp_T zs (1 :: us)) + (bif us.contains 2 then 0 else sp_T zs (2 :: us)) + (bif us.contains 3 then 0 else sp_T zs (3 :: us)) + (bif us.contains 4 then 0 else sp_T zs (4 :: us)) + (bif us.contains 5 then 0 else sp_T zs (5 :: us))
    omega
def sp_pat : Nat → Nat → List Bool
  | 0, _ => []
  | k + 1, x => (x % 6 == 0) :: sp_pat k (x / 6)
theorem sp_pat_len : ∀ k x, (sp_pat k x).length = k
  | 0, _ => rfl
  | k + 1, x => by show (sp_pat k (x / 6)).length + 1 = k + 1; rw [sp_pat_len]
theorem sp_lk : ∀ (k : Nat) (us : List Nat) (x0 x : Nat), (∀ i, i < k → (sp_d x i = 0 ↔ sp_d x0 i = 0)) → (∀ i, i < k → sp_d x i ≠ 0 → us.contains (sp_d x i) = false) → (∀ i j, i < k → j < k → sp_d x i ≠ 0 → sp_d x i = sp_d x j → i = j) → sp_Q (sp_pat k x0) us x = true
  | 0, _, _, _, _, _, _ => rfl
  | k + 1, us, x0, x, h1, h2, h3 => by
    have z := h1 0 (by omega)
    rw [sp_d_0, sp_d_0] at z
    have g1 : ∀ i, i < k → (sp_d (x / 6) i = 0 ↔ sp_d (x0 / 6) i = 0) := fun i hi => by
      rw [← sp_d_s, ← sp_d_s]; exact h1 (i + 1) (by omega)
    have g3 : ∀ i j, i < k → j < k → sp_d (x / 6) i ≠ 0 → sp_d (x / 6) i = sp_d (x / 6) j → i = j := fun i j hi hj => by
      rw [← sp_d_s, ← sp_d_s]
      intro p q
      have := h3 (i + 1) (j + 1) (by omega) (by omega) p q
      omega
    show sp_Q ((x0 % 6 == 0) :: sp_pat k (x0 / 6)) us x = true
    by_cases e : x0 % 6 = 0
    · have e2 : x % 6 = 0 := z.mpr e
      have ih := sp_lk k us (x0 / 6) (x / 6) g1 (fun i hi => by rw [← sp_d_s]; exact h2 (i + 1) (by omega)) g3
      rw [e]
      show (x % 6 == 0 && sp_Q (sp_pat k (x0 / 6)) us (x / 6)) = true
      have h9 : (x % 6 == 0 && sp_Q (sp_pat k (x0 / 6)) us (x / 6)) = (0 == 0 && true) := by rw [e2, ih]
      exact h9
    · have e2 : x % 6 ≠ 0 := fun c => e (z.mp c)
      have hu : us.contains (x % 6) = false := by
        have := h2 0 (by omega)
        rw [sp_d_0] at this
        exact this e2
      have ih := sp_lk k (x % 6 :: us) (x0 / 6) (x / 6) g1 (fun i hi => by
        rw [← sp_d_s]
        intro hz
        rw [List.contains_cons, h2 (i + 1) (by omega) hz, Bool.or_false]
        refine beq_eq_false_iff_ne.mpr fun c => ?_
        have := h3 (i + 1) 0 (by omega) (by omega) hz (by rw [sp_d_0]; exact c)
        omega) g3
      rw [show (x0 % 6 == 0) = false from beq_eq_false_iff_ne.mpr e]
      show (!(x % 6 == 0) && (!(us.contains (x % 6)) && sp_Q (sp_pat k (x0 / 6)) (x % 6 :: us) (x / 6))) = true
      have h9 : (!(x % 6 == 0) && (!(us.contains (x % 6)) && sp_Q (sp_pat k (x0 / 6)) (x % 6 :: us) (x / 6))) = (!false && (!false && true)) := by
        rw [hu, ih, show (x % 6 == 0) = false from beq_eq_false_iff_ne.mpr e2]
      exact h9
theorem sp_T2 : ∀ a b : Bool, sp_T [a, b] [] ≤ 256 := by decide +kernel
theorem sp_T3 : ∀ a b c : Bool, sp_T [a, b, c] [] ≤ 256 := by decide +kernel
theorem sp_T4 : ∀ a b c d : Bool, sp_T [a, b, c, d] [] ≤ 256 := by decide +kernel
theorem sp_T5 : ∀ a b c d e : Bool, sp_T [a, b, c, d, e] [] ≤ 256 := by decide +kernel
theorem sp_pat_T {n : Nat} (h2 : 2 ≤ n) (h5 : n ≤ 5) (x : Nat) : sp_T (sp_pat n x) [] ≤ 256 := by
  have : n = 2 ∨ n = 3 ∨ n = 4 ∨ n = 5 := by omega
  rcases this with rfl | rfl | rfl | rfl
  · exact sp_T2 _ _
  · exact sp_T3 _ _ _
  · exact sp_T4 _ _ _ _
  · exact sp_T5 _ _ _ _ _
/-- is x the number of a stable matching -/
noncomputable def sp_P (n : Nat) (a b : Nat → Int32) (x : Nat) : Bool := sp_b (sp_St n a b x)
theorem sp_few {n : Nat} (h2 : 2 ≤ n) (h5 : n ≤ 5) (a b : Nat → Int32) : sp_cn (sp_P n a b) (6 ^ n) ≤ 256 := by
  obtain ⟨x0, _, h0⟩ := sp_ex h5 a b
  have k1 : sp_cn (sp_P n a b) (6 ^ n) ≤ sp_cn (sp_Q (sp_pat n x0) []) (6 ^ n) := sp_cn_sub fun k _ hk => by
    have hk' : sp_St n a b k := sp_bt.mp hk
    refine sp_lk n [] x0 k (fun i hi => ⟨fun z => ?_, fun z => ?_⟩) (fun _ _ _ => rfl) hk'.1.2.2
    · exact Classical.byContradiction fun c => sp_rur h0 hk' hi c z
    · exact Classical.byContradiction fun c => sp_rur hk' h0 hi c z
  have k2 := sp_T_le (sp_pat n x0) []
  rw [sp_pat_len] at k2
  exact Nat.le_trans k1 (Nat.le_trans k2 (sp_pat_T h2 h5 x0))
/-! ranks and costs -/
noncomputable def sp_rk (n : Nat) (a b : Nat → Int32) (s p : Nat) : Nat := sp_cn (fun k => sp_b (sp_fit a b s k ∧ sp_pr a s k p)) n
noncomputable def sp_rq (n : Nat) (a b : Nat → Int32) (s p : Nat) : Nat := sp_cn (fun k => sp_b (sp_fit a b k p ∧ sp_pr b p k s)) n
noncomputable def sp_co (n : Nat) (a b : Nat → Int32) (x : Nat) : Nat → Nat
  | 0 => 0
  | s + 1 => sp_co n a b x s + (if sp_d x s = 0 then 0 else sp_rk n a b s (sp_d x s - 1) + sp_rq n a b s (sp_d x s - 1))
theorem sp_cn_hole {P : Nat → Bool} {k0 N : Nat} (h : P k0 = false) (hk : k0 < N) : sp_cn P N < N :=
  Nat.lt_of_lt_of_le (sp_cn_dec (Q := fun _ => true) h rfl hk fun _ _ _ => rfl) (sp_cn_le _ _)
theorem sp_co_le {n : Nat} {a b : Nat → Int32} {x : Nat} (h5 : n ≤ 5) (h : sp_M n a b x) : ∀ k, k ≤ n → sp_co n a b x k ≤ 8 * k
  | 0, _ => Nat.le_refl 0
  | k + 1, hk => by
    have ih := sp_co_le h5 h k (by omega)
    show sp_co n a b x k + (if sp_d x k = 0 then 0 else sp_rk n a b k (sp_d x k - 1) + sp_rq n a b k (sp_d x k - 1)) ≤ _
    by_cases z : sp_d x k = 0
    · rw [if_pos z]; omega
    · rw [if_neg z]
      have hp := (h.2.1 k (by omega) z).1
      have r1 : sp_rk n a b k (sp_d x k - 1) < n := sp_cn_hole (k0 := sp_d x k - 1) (sp_bf.mpr fun c => sp_pr_irr c.2) (by omega)
      have r2 : sp_rq n a b k (sp_d x k - 1) < n := sp_cn_hole (k0 := k) (sp_bf.mpr fun c => sp_pr_irr c.2) (by omega)
      omega
