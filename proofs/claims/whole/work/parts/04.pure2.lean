/-! arguments: good or not -/
def sd_bad (n : Nat) (x : Int32) : Prop := x < 0 ∨ ∃ j, n ≤ j ∧ j < 2 ^ 31 ∧ x = nI j
theorem sd_di (n : Nat) (x : Int32) : sd_bad n x ∨ ∃ j, j < n ∧ x = nI j := by
  by_cases h : x < 0
  · exact Or.inl (Or.inl h)
  · obtain ⟨j, hj, rfl⟩ := nI_of h
    by_cases h2 : j < n
    · exact Or.inr ⟨j, h2, rfl⟩
    · exact Or.inl (Or.inr ⟨j, by omega, hj, rfl⟩)
def sd_badc (x : Int32) : Prop := x < 1 ∨ ∃ j, 4 < j ∧ j < 2 ^ 31 ∧ x = nI j
theorem sd_dc (x : Int32) : sd_badc x ∨ ∃ c, 1 ≤ c ∧ c ≤ 4 ∧ x = nI c := by
  by_cases h : x < 0
  · refine Or.inl (Or.inl ?_)
    rw [Int32.lt_iff_toInt_lt] at h ⊢
    have h0 : (0 : Int32).toInt = 0 := by decide
    have h1 : (1 : Int32).toInt = 1 := by decide
    omega
  · obtain ⟨j, hj, rfl⟩ := nI_of h
    by_cases h1 : j < 1
    · exact Or.inl (Or.inl (nI_lt (b := 1) h1 (by decide)))
    · by_cases h4 : j ≤ 4
      · exact Or.inr ⟨j, by omega, h4, rfl⟩
      · exact Or.inl (Or.inr ⟨j, by omega, hj, rfl⟩)
/-! choices and counts -/
noncomputable def sd_if (P : Prop) (a b : Int32) : Int32 := @ite Int32 P (Classical.propDecidable P) a b
theorem sd_ift {P : Prop} {a b : Int32} (h : P) : sd_if P a b = a := @if_pos P (Classical.propDecidable P) h Int32 a b
theorem sd_iff {P : Prop} {a b : Int32} (h : ¬ P) : sd_if P a b = b := @if_neg P (Classical.propDecidable P) h Int32 a b
noncomputable def sd_cnt (P : Nat → Prop) : Nat → Nat → Int32 → Int32
  | 0, _, x => x
  | d + 1, f, x => sd_if (P f) (sd_cnt P d (f + 1) (x + 1)) (sd_cnt P d (f + 1) x)
noncomputable def sd_nth (P : Nat → Prop) (i : Int32) : Nat → Nat → Int32 → Int32
  | 0, _, _ => -1
  | d + 1, f, x => sd_if (P f) (sd_if (x = i) (nI f) (sd_nth P i d (f + 1) (x + 1))) (sd_nth P i d (f + 1) x)
noncomputable def sd_fst (T : Nat → Prop) (z : Int32) : Nat → Nat → Int32
  | 0, _ => z
  | d + 1, p => sd_if (T p) (nI p) (sd_fst T z d (p + 1))
theorem sd_cl {σ : Type} (W : Nat → Int32 → Nat → σ → Prop) (P : Nat → Prop) (E : Nat) (fin : Int32)
    (hx : ∀ n s, W (n + 1) fin E s)
    (hs : ∀ n x f s, f < E → (P f → ∀ s', W n (x + 1) (f + 1) s') → (¬ P f → ∀ s', W n x (f + 1) s') → W (n + 1) x f s) :
    ∀ d f x s, f + d = E → sd_cnt P d f x = fin → W (d + 1) x f s := by
  intro d
  induction d with
  | zero =>
    intro f x s hf h
    obtain rfl : f = E := by omega
    have e : x = fin := h
    rw [e]
    exact hx 0 s
  | succ d ih =>
    intro f x s hf h
    have h' : sd_if (P f) (sd_cnt P d (f + 1) (x + 1)) (sd_cnt P d (f + 1) x) = fin := h
    refine hs (d + 1) x f s (by omega) (fun hP s' => ?_) (fun hP s' => ?_)
    · rw [sd_ift hP] at h'
      exact ih (f + 1) (x + 1) s' (by omega) h'
    · rw [sd_iff hP] at h'
      exact ih (f + 1) x s' (by omega) h'
theorem sd_nl {σ : Type} (W : Nat → Int32 → Nat → σ → Prop) (P : Nat → Prop) (i : Int32) (E : Nat) (post : Int32 → Prop)
    (hx : ∀ n x s, post (-1) → W (n + 1) x E s)
    (hs : ∀ n x f s, f < E → (P f → x = i → ∀ _ : σ, post (nI f)) → (P f → ¬ x = i → ∀ s', W n (x + 1) (f + 1) s') → (¬ P f → ∀ s', W n x (f + 1) s') → W (n + 1) x f s) :
    ∀ d f x s, f + d = E → post (sd_nth P i d f x) → W (d + 1) x f s := by
  intro d
  induction d with
  | zero =>
    intro f x s hf h
    obtain rfl : f = E := by omega
    exact hx 0 x s h
  | succ d ih =>
    intro f x s hf h
    have h' : post (sd_if (P f) (sd_if (x = i) (nI f) (sd_nth P i d (f + 1) (x + 1))) (sd_nth P i d (f + 1) x)) := h
    refine hs (d + 1) x f s (by omega) (fun hP hx _ => ?_) (fun hP hx s' => ?_) (fun hP s' => ?_)
    · rw [sd_ift hP, sd_ift hx] at h'
      exact h'
    · rw [sd_ift hP, sd_iff hx] at h'
      exact ih (f + 1) (x + 1) s' (by omega) h'
    · rw [sd_iff hP] at h'
      exact ih (f + 1) x s' (by omega) h'
theorem sd_fl {σ : Type} (W : Nat → Nat → σ → Prop) (T : Nat → Prop) (z : Int32) (E : Nat) (post : Int32 → σ → Prop)
    (hx : ∀ n s, (∀ s', post z s') → W (n + 1) E s)
    (hs : ∀ n p s, p < E → (T p → ∀ s', post (nI p) s') → (¬ T p → ∀ s', W n (p + 1) s') → W (n + 1) p s) :
    ∀ d p s, p + d = E → (∀ s', post (sd_fst T z d p) s') → W (d + 1) p s := by
  intro d
  induction d with
  | zero =>
    intro p s hp h
    obtain rfl : p = E := by omega
    exact hx 0 s h
  | succ d ih =>
    intro p s hp h
    have h' : ∀ s', post (sd_if (T p) (nI p) (sd_fst T z d (p + 1))) s' := h
    refine hs (d + 1) p s (by omega) (fun hT => ?_) (fun hT s' => ?_)
    · rw [sd_ift hT] at h'
      exact h'
    · rw [sd_iff hT] at h'
      exact ih (p + 1) s' (by omega) h'
/-! alike faults, the noted observations, the scan over the candidates -/
def sd_al (R : Int32 → Int32 → Nat → Int32) (φ ψ : Int32) : Prop := ∀ q, q < 128 → R φ (nI q) 1 = R ψ (nI q) 1
def sd_ex (R : Int32 → Int32 → Nat → Int32) (m : Nat) (pt cy an : Nat → Int32) (φ : Int32) : Prop := ∀ i, i < m → R φ (pt i) (cy i).toNatClampNeg = an i
def sd_T (R : Int32 → Int32 → Nat → Int32) (ex : Int32 → Prop) (p : Int32) : Nat → Nat → Int32 → Prop
  | 0, _, _ => False
  | d + 1, f, x => (ex (nI f) ∧ ((¬ x < 0 ∧ ¬ R (nI f) p 1 = x) ∨ ((x < 0 ∨ R (nI f) p 1 = x) ∧ sd_T R ex p d (f + 1) (R (nI f) p 1)))) ∨ (¬ ex (nI f) ∧ sd_T R ex p d (f + 1) x)
noncomputable def sd_er (R : Int32 → Int32 → Nat → Int32) (f : Nat) : Int32 := sd_fst (fun i => sd_al R (nI i) (nI f)) (nI f) f 0
def sd_po (R : Int32 → Int32 → Nat → Int32) (ex : Int32 → Prop) (E f : Nat) : Prop := ∃ h, f ≤ h ∧ h < E ∧ ex (nI h) ∧ sd_al R (nI f) (nI h)
theorem sd_Tl {σ : Type} (W : Nat → Int32 → Nat → σ → Prop) (R : Int32 → Int32 → Nat → Int32) (ex : Int32 → Prop) (p : Int32) (E : Nat) (Q1 Q0 : Prop)
    (hx : ∀ n x s, Q0 → W (n + 1) x E s)
    (hs : ∀ n x f s, f < E → (¬ ex (nI f) → ∀ s', W n x (f + 1) s') → (ex (nI f) → ¬ x < 0 → ¬ R (nI f) p 1 = x → Q1) →
      (ex (nI f) → (x < 0 ∨ R (nI f) p 1 = x) → ∀ s', W n (R (nI f) p 1) (f + 1) s') → W (n + 1) x f s) :
    ∀ d f x s, f + d = E → (sd_T R ex p d f x → Q1) → (¬ sd_T R ex p d f x → Q0) → W (d + 1) x f s := by
  intro d
  induction d with
  | zero =>
    intro f x s hf h1 h0
    obtain rfl : f = E := by omega
    exact hx 0 x s (h0 (fun h => h))
  | succ d ih =>
    intro f x s hf h1 h0
    refine hs (d + 1) x f s (by omega) (fun he s' => ?_) (fun he hn hr => ?_) (fun he hr s' => ?_)
    · refine ih (f + 1) x s' (by omega) (fun h => h1 (Or.inr ⟨he, h⟩)) (fun h => h0 ?_)
      rintro (⟨a, _⟩ | ⟨_, b⟩)
      · exact he a
      · exact h b
    · exact h1 (Or.inl ⟨he, Or.inl ⟨hn, hr⟩⟩)
    · refine ih (f + 1) _ s' (by omega) (fun h => h1 (Or.inl ⟨he, Or.inr ⟨hr, h⟩⟩)) (fun h => h0 ?_)
      rintro (⟨_, (⟨a, b⟩ | ⟨_, b⟩)⟩ | ⟨a, _⟩)
      · rcases hr with hr | hr
        · exact a hr
        · exact b hr
      · exact h b
      · exact a he
/-! the scan of a least one over naturals, with yes and no -/
theorem sd_yl {σ : Type} (W : Nat → Nat → σ → Prop) (P : Nat → Prop) (E b : Nat) (Q1 Q0 : Prop)
    (hx : ∀ n s, Q0 → W (n + 1) E s)
    (hs : ∀ n p s, b ≤ p → p < E → (P p → ∀ s', W n (p + 1) s') → (¬ P p → Q1) → W (n + 1) p s)
    (h0 : (∀ p, b ≤ p → p < E → P p) → Q0) (h1 : ¬ (∀ p, b ≤ p → p < E → P p) → Q1) :
    ∀ d p s, p + d = E → b ≤ p → (∀ q, b ≤ q → q < p → P q) → W (d + 1) p s := by
  intro d
  induction d with
  | zero =>
    intro p s hp hb h
    obtain rfl : p = E := by omega
    exact hx 0 s (h0 h)
  | succ d ih =>
    intro p s hp hb h
    refine hs (d + 1) p s hb (by omega) (fun hP s' => ?_) (fun hP => ?_)
    · refine ih (p + 1) s' (by omega) (by omega) (fun q hbq hq => ?_)
      rcases (by omega : q < p ∨ q = p) with c | rfl
      · exact h q hbq c
      · exact hP
    · exact h1 (fun a => hP (a p hb (by omega)))
