/-! the two tables as one, the pure steps of the questions, searches -/
def sp_jo (a b : Nat → Int32) : Nat → Int32 := fun j => if j < 25 then a j else b (j - 25)
theorem sp_jo_lo {a b : Nat → Int32} {j : Nat} (h : j < 25) : sp_jo a b j = a j := if_pos h
theorem sp_jo_hi {a b : Nat → Int32} (j : Nat) : sp_jo a b (25 + j) = b j := by
  rw [sp_jo, if_neg (by omega), Nat.add_sub_cancel_left]
theorem sp_jo_0 : sp_jo (fun _ => 0) (fun _ => 0) = fun _ => 0 := by
  funext j
  show (if j < 25 then (0 : Int32) else 0) = 0
  split <;> rfl
theorem sp_jo_ul {a b : Nat → Int32} {i : Nat} (v : Int32) (h : i < 25) : upd (sp_jo a b) i v = sp_jo (upd a i v) b := by
  funext j
  show (if j = i then v else (if j < 25 then a j else b (j - 25))) = (if j < 25 then (if j = i then v else a j) else b (j - 25))
  by_cases e : j = i
  · rw [if_pos e, if_pos (by omega), if_pos e]
  · rw [if_neg e, if_neg e]
theorem sp_jo_uh {a b : Nat → Int32} {i : Nat} (v : Int32) : upd (sp_jo a b) (25 + i) v = sp_jo a (upd b i v) := by
  funext j
  show (if j = 25 + i then v else (if j < 25 then a j else b (j - 25))) = (if j < 25 then a j else (if j - 25 = i then v else b (j - 25)))
  by_cases e : j = 25 + i
  · rw [if_pos e, if_neg (by omega), if_pos (by omega)]
  · rw [if_neg e]
    by_cases k : j < 25
    · rw [if_pos k, if_pos k]
    · rw [if_neg k, if_neg k, if_neg (by omega)]
theorem sp_6 {n : Nat} (h5 : n ≤ 5) : 6 ^ n ≤ 7776 := Nat.le_trans (Nat.pow_le_pow_right (by decide) h5) (by decide)
theorem sp_dv (x k : Nat) : x / 6 ^ k / 6 = x / 6 ^ (k + 1) := by rw [Nat.div_div_eq_div_mul, ← Nat.pow_succ]
/-! places as ints: the digit less one -/
theorem sp_pl0 {d : Nat} (h : d < 6) : nI d - 1 = -1 ↔ d = 0 := by
  have : ∀ d, d < 6 → (nI d - 1 = -1 ↔ d = 0) := by decide +kernel
  exact this d h
theorem sp_plp {d : Nat} (h : d ≠ 0) : nI d - 1 = nI (d - 1) := by
  obtain ⟨e, rfl⟩ : ∃ e, d = e + 1 := ⟨d - 1, by omega⟩
  rw [nI_pred]; rfl
theorem sp_plq {d p : Nat} (h : d < 6) (hp : p < 6) : nI d - 1 = nI p ↔ d = p + 1 := by
  have : ∀ d, d < 6 → ∀ p, p < 6 → (nI d - 1 = nI p ↔ d = p + 1) := by decide +kernel
  exact this d h p hp
theorem sp_pll {d : Nat} (h : d < 6) : nI d - 1 < 0 ↔ d = 0 := by
  have : ∀ d, d < 6 → (nI d - 1 < 0 ↔ d = 0) := by decide +kernel
  exact this d h
theorem sp_plz {d : Nat} (h : d < 6) : (0 : Int32) ≤ nI d - 1 ↔ d ≠ 0 := by
  have : ∀ d, d < 6 → ((0 : Int32) ≤ nI d - 1 ↔ d ≠ 0) := by decide +kernel
  exact this d h
theorem sp_plg {d n : Nat} (h : d < 6) (hn : n < 6) : nI n ≤ nI d - 1 ↔ n < d := by
  have : ∀ d, d < 6 → ∀ n, n < 6 → (nI n ≤ nI d - 1 ↔ n < d) := by decide +kernel
  exact this d h n hn
/-- the better of two digits for a seeker -/
noncomputable def sp_g (a : Nat → Int32) (s e d : Nat) : Nat := if e = 0 then d else if d = 0 then e else if sp_b (sp_pr a s (d - 1) (e - 1)) = true then d else e
/-- the worse of two digits for a seeker -/
noncomputable def sp_h (a : Nat → Int32) (s e d : Nat) : Nat := if d = 0 then e else if e = 0 then d else if sp_b (sp_pr a s (e - 1) (d - 1)) = true then d else e
theorem sp_g_lt {a : Nat → Int32} {s e d : Nat} {N : Nat} (he : e < N) (hd : d < N) : sp_g a s e d < N := by
  unfold sp_g; split
  · exact hd
  · split
    · exact he
    · split
      · exact hd
      · exact he
theorem sp_h_lt {a : Nat → Int32} {s e d : Nat} {N : Nat} (he : e < N) (hd : d < N) : sp_h a s e d < N := by
  unfold sp_h; split
  · exact he
  · split
    · exact hd
    · split
      · exact hd
      · exact he
theorem sp_fo_lt {P : Nat → Bool} {f : Nat → Nat → Nat} {s N : Nat} (h0 : s < N) (h : ∀ e x, e < N → f e x < N) : ∀ k, sp_fo P f s k < N := fun k =>
  sp_fo_ind (N := k) (fun _ t => t < N) h0 (fun k t _ _ ht => h t k ht) (fun _ _ _ _ ht => ht) k (Nat.le_refl k)
/-- the answer of stable(i) -/
def sp_nth (P : Nat → Bool) (N : Nat) (i r : Int32) : Prop := (∃ q, q < N ∧ P q = true ∧ i = nI (sp_cn P q) ∧ r = nI q) ∨ ((i < 0 ∨ nI (sp_cn P N) ≤ i) ∧ r = -1)
theorem sp_nth_ex (P : Nat → Bool) {N : Nat} (hN : N ≤ 7776) (i : Int32) : ∃ r, sp_nth P N i r := by
  have hl := sp_cn_le P N
  rcases pk_ix i (n := sp_cn P N) (by omega) with h | h | ⟨j, hj, rfl⟩
  · exact ⟨-1, Or.inr ⟨Or.inl h, rfl⟩⟩
  · exact ⟨-1, Or.inr ⟨Or.inr h, rfl⟩⟩
  · obtain ⟨q, h1, h2, h3⟩ := sp_cn_nth hj
    exact ⟨nI q, Or.inl ⟨q, h1, h2, by rw [h3], rfl⟩⟩
/-- a search in the list, up to the one that is looked for -/
theorem sp_srch (P : Nat → Bool) (q : Nat) (W : Nat → Nat → Prop) (hit : ∀ n, W (n + 1) (sp_cn P q))
    (miss : ∀ n x, x < q → P x = true → W n (sp_cn P x + 1) → W (n + 1) (sp_cn P x)) : ∃ n, W n 0 := by
  have key : ∀ d y, y ≤ q → sp_cn P y + d = sp_cn P q → W (d + 1) (sp_cn P y) := by
    intro d
    induction d with
    | zero => intro y hy he; rw [show sp_cn P y = sp_cn P q by omega]; exact hit 0
    | succ d ih =>
      intro y hy he
      obtain ⟨z, h1, h2, h3, h4, h5⟩ := sp_cn_next (P := P) (y := y) (N := q) (by omega)
      have h6 := ih (z + 1) (by omega) (by rw [sp_cn_t h3]; omega)
      rw [sp_cn_t h3] at h6
      rw [← h4]
      exact miss _ z h2 h3 h6
  exact ⟨_, key (sp_cn P q) 0 (Nat.zero_le _) (by rw [sp_cn_0]; omega)⟩
/-- the cheapest: both ways to look for it -/
def sp_fX (C : Nat → Nat) (t : Nat × Nat) (x : Nat) : Nat × Nat := if C x < t.2 then (x, C x) else t
def sp_fY (C : Nat → Nat) (l x : Nat) : Nat := if C x < l then C x else l
theorem sp_fair {P : Nat → Bool} {C : Nat → Nat} {N : Nat} (hC : ∀ x, x < N → P x = true → C x < 41) (hex : ∃ x, x < N ∧ P x = true) :
    ∃ q, q < N ∧ P q = true ∧ sp_fo P (sp_fX C) (0, 41) N = (q, C q) ∧ sp_fo P (sp_fY C) 1000 N = C q ∧ ∀ x, x < q → P x = true → C x ≠ C q := by
  have hX := sp_fo_ind (P := P) (f := sp_fX C) (s := (0, 41)) (N := N)
    (fun k t => (t.2 = 41 ∧ ∀ y, y < k → P y = false) ∨ (t.1 < k ∧ P t.1 = true ∧ C t.1 = t.2 ∧ ∀ y, y < k → P y = true → t.2 ≤ C y ∧ (y < t.1 → t.2 < C y)))
    (Or.inl ⟨rfl, fun y hy => by omega⟩)
    (fun k t hk hp h => by
      unfold sp_fX
      by_cases c : C k < t.2
      · rw [if_pos c]
        refine Or.inr ⟨Nat.lt_succ_self k, hp, rfl, fun y hy py => ?_⟩
        rcases h with ⟨_, h2⟩ | ⟨h1, h2, h3, h4⟩
        · by_cases e : y = k
          · subst e; exact ⟨Nat.le_refl _, fun z => by simp at z⟩
          · have := h2 y (by omega); rw [this] at py; cases py
        · by_cases e : y = k
          · subst e; exact ⟨Nat.le_refl _, fun z => by simp at z⟩
          · have := (h4 y (by omega) py).1
            exact ⟨by show C k ≤ C y; omega, fun _ => by show C k < C y; omega⟩
      · rw [if_neg c]
        rcases h with ⟨h1, _⟩ | ⟨h1, h2, h3, h4⟩
        · have := hC k hk hp; omega
        · refine Or.inr ⟨by omega, h2, h3, fun y hy py => ?_⟩
          by_cases e : y = k
          · subst e; exact ⟨by omega, fun z => by omega⟩
          · exact h4 y (by omega) py)
    (fun k t hk hp h => by
      rcases h with ⟨h1, h2⟩ | ⟨h1, h2, h3, h4⟩
      · refine Or.inl ⟨h1, fun y hy => ?_⟩
        by_cases e : y = k
        · rw [e]; exact hp
        · exact h2 y (by omega)
      · refine Or.inr ⟨by omega, h2, h3, fun y hy py => ?_⟩
        by_cases e : y = k
        · rw [e, hp] at py; cases py
        · exact h4 y (by omega) py) N (Nat.le_refl N)
  have hY := sp_fo_ind (P := P) (f := sp_fY C) (s := 1000) (N := N)
    (fun k l => (l = 1000 ∧ ∀ y, y < k → P y = false) ∨ ((∃ y, y < k ∧ P y = true ∧ C y = l) ∧ ∀ y, y < k → P y = true → l ≤ C y))
    (Or.inl ⟨rfl, fun y hy => by omega⟩)
    (fun k l hk hp h => by
      unfold sp_fY
      by_cases c : C k < l
      · rw [if_pos c]
        refine Or.inr ⟨⟨k, Nat.lt_succ_self k, hp, rfl⟩, fun y hy py => ?_⟩
        rcases h with ⟨_, h2⟩ | ⟨_, h4⟩
        · by_cases e : y = k
          · rw [e]; exact Nat.le_refl _
          · have := h2 y (by omega); rw [this] at py; cases py
        · by_cases e : y = k
          · rw [e]; exact Nat.le_refl _
          · have := h4 y (by omega) py; omega
      · rw [if_neg c]
        rcases h with ⟨h1, _⟩ | ⟨⟨z, z1, z2, z3⟩, h4⟩
        · have := hC k hk hp; omega
        · refine Or.inr ⟨⟨z, by omega, z2, z3⟩, fun y hy py => ?_⟩
          by_cases e : y = k
          · rw [e]; omega
          · exact h4 y (by omega) py)
    (fun k l hk hp h => by
      rcases h with ⟨h1, h2⟩ | ⟨⟨z, z1, z2, z3⟩, h4⟩
      · refine Or.inl ⟨h1, fun y hy => ?_⟩
        by_cases e : y = k
        · rw [e]; exact hp
        · exact h2 y (by omega)
      · refine Or.inr ⟨⟨z, by omega, z2, z3⟩, fun y hy py => ?_⟩
        by_cases e : y = k
        · rw [e, hp] at py; cases py
        · exact h4 y (by omega) py) N (Nat.le_refl N)
  obtain ⟨w, w1, w2⟩ := hex
  generalize hA : sp_fo P (sp_fX C) (0, 41) N = A at hX ⊢
  generalize hB : sp_fo P (sp_fY C) 1000 N = B at hY ⊢
  rcases hX with ⟨_, h2⟩ | ⟨h1, h2, h3, h4⟩
  · have := h2 w w1; rw [this] at w2; cases w2
  · rcases hY with ⟨_, k2⟩ | ⟨⟨z, z1, z2, z3⟩, k4⟩
    · have := k2 w w1; rw [this] at w2; cases w2
    · refine ⟨A.1, h1, h2, ?_, ?_, ?_⟩
      · rw [h3]
      · have := (h4 z z1 z2).1
        have := k4 A.1 h1 h2
        omega
      · intro x hx px e
        have := (h4 x (by omega) px).2 hx
        omega
/-! masks of five bits -/
def sp_cl (m s : Nat) : Nat := if m / 2 ^ s % 2 = 1 then m - 2 ^ s else m
theorem sp_clI : ∀ m, m < 32 → ∀ s, s < 5 → nI m &&& (((1 : Int32) <<< (nI s &&& 31)) ^^^ (-1)) = nI (sp_cl m s) := by decide +kernel
theorem sp_clB : ∀ m, m < 32 → ∀ s, s < 5 → sp_cl m s < 32 ∧ ∀ j, j < 5 → sp_cl m s / 2 ^ j % 2 = if j = s then 0 else m / 2 ^ j % 2 := by decide +kernel
theorem sp_bit : ∀ m, m < 32 → ∀ s, s < 5 → (nI m >>> (nI s &&& 31)) &&& 1 = nI (m / 2 ^ s % 2) := by decide +kernel
theorem sp_all : ∀ n, n < 6 → ((1 : Int32) <<< (nI n &&& 31)) - 1 = nI (2 ^ n - 1) := by decide +kernel
theorem sp_allB : ∀ n, n < 6 → 2 ^ n - 1 < 32 ∧ ∀ j, j < n → (2 ^ n - 1) / 2 ^ j % 2 = 1 := by decide +kernel
