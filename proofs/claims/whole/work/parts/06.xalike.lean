/-! the class's table of one-cycle responses, and the questions on alike faults -/
def sd_oc (R : Int32 → Int32 → Nat → Int32) (E : Nat) (oc : Nat → Int32) : Prop := ∀ f, f < E → ∀ q, q < 128 → oc (f * 128 + q) = R (nI f) (nI q) 1
theorem sd_ix (i j : Nat) : nI i * 128 + nI j = nI (i * 128 + j) := by
  rw [show (128 : Int32) = nI 128 from rfl, pk_mul, nI_add]
section
variable {g : Nat} {D H N : Int32} {gk ga gb fl ol ft lv oc : Nat → Int32}
theorem sx_fillIn {post : SX → Prop} {J2 : Int32 → Int32 → Int32 → Int32 → Int32 → (Nat → Int32) → (Nat → Int32) → (Nat → Int32) → (Nat → Int32) → (Nat → Int32) → (Nat → Int32) → (Nat → Int32) → (Nat → Int32) → Prop} {i : Nat}
    (hC : sd_C g ga gb fl ol) (hi : i < 2 * (7 + g))
    (hJ : ∀ lv' oc', sd_oc (sd_run g gk ga gb fl ol) (i + 1) oc' → J2 (nI (i + 1)) (nI (7 + g)) D H N gk ga gb fl ol ft lv' oc') :
    ∀ d j lv oc, j + d = 128 → sd_oc (sd_run g gk ga gb fl ol) i oc → (∀ q, q < j → oc (i * 128 + q) = sd_run g gk ga gb fl ol (nI i) (nI q) 1) →
      wX_fillOneCycleResponses_14 post J2 (nI i) (d + 1) (nI j) (nI (7 + g)) D H N gk ga gb fl ol ft lv oc := by
  have hg : g ≤ 14 := hC.1
  intro d
  induction d with
  | zero =>
    intro j lv oc hj h hr
    obtain rfl : j = 128 := by omega
    refine br_t (by decide) (nm_r (nI_1 i) (hJ lv oc (fun f hf q hq => ?_)))
    rcases (by omega : f < i ∨ f = i) with c | rfl
    · exact h f c q hq
    · exact hr q hq
  | succ d ih =>
    intro j lv oc hj h hr
    refine br_f (nI_ge (b := 128) (by omega) (by decide)) ?_
    refine sx_run (c := 1) hC (by omega) (by omega) (fun lv' => ?_)
    dsimp only
    rw [sd_ix, nI_clamp (by omega)]
    refine ⟨vp_in_nI (by omega) (by omega), nm_e (nm_r (nI_1 j) (ih (j + 1) lv' _ (by omega) (fun f hf q hq => ?_) (fun q hq => ?_)))⟩
    · rw [pk_un (by omega)]
      exact h f hf q hq
    · by_cases c : q = j
      · rw [c, pk_us]
      · rw [pk_un (by omega)]
        exact hr q (by omega)
theorem sx_fillOut {post : SX → Prop} (hC : sd_C g ga gb fl ol)
    (hp : ∀ lv' oc', sd_oc (sd_run g gk ga gb fl ol) (2 * (7 + g)) oc' → post (nI (7 + g), D, H, N, gk, ga, gb, fl, ol, ft, lv', oc')) :
    ∀ d i lv oc, i + d = 2 * (7 + g) → sd_oc (sd_run g gk ga gb fl ol) i oc → wX_fillOneCycleResponses_2 post (d + 1) (nI i) (nI (7 + g)) D H N gk ga gb fl ol ft lv oc := by
  have hg : g ≤ 14 := hC.1
  intro d
  induction d with
  | zero =>
    intro i lv oc hi h
    obtain rfl : i = 2 * (7 + g) := by omega
    exact pk_le (2 * (7 + g)) (2 * (7 + g)) (fun _ => hp lv oc h) (fun e => absurd e (by omega)) (pk_mul 2 (7 + g))
  | succ d ih =>
    intro i lv oc hi h
    refine pk_le (2 * (7 + g)) i (fun e => absurd e (by omega)) (fun _ => ?_) (pk_mul 2 (7 + g))
    exact ⟨129, sx_fillIn hC (by omega) (fun lv' oc' ho => ih (i + 1) lv' oc' (by omega) ho) 128 0 lv oc (by omega) h (fun q hq => absurd hq (Nat.not_lt_zero q))⟩
theorem sx_fill {post : SX → Prop} (hC : sd_C g ga gb fl ol)
    (hp : ∀ lv' oc', sd_oc (sd_run g gk ga gb fl ol) (2 * (7 + g)) oc' → post (nI (7 + g), D, H, N, gk, ga, gb, fl, ol, ft, lv', oc')) :
    wpX_fillOneCycleResponses post (nI (7 + g), D, H, N, gk, ga, gb, fl, ol, ft, lv, oc) := by
  unfold wpX_fillOneCycleResponses
  dsimp only
  exact ⟨2 * (7 + g) + 1, sx_fillOut hC hp (2 * (7 + g)) 0 lv oc (by omega) (fun f hf => absurd hf (Nat.not_lt_zero f))⟩
theorem sx_areAlike {post : Int32 → Prop} {R : Int32 → Int32 → Nat → Int32} {e f : Nat} (hg : g ≤ 14) (ho : sd_oc R (2 * (7 + g)) oc) (he : e < 2 * (7 + g)) (hf : f < 2 * (7 + g))
    (h1 : sd_al R (nI e) (nI f) → post 1) (h0 : ¬ sd_al R (nI e) (nI f) → post 0) :
    wpX_areAlike post (nI (7 + g), D, H, N, gk, ga, gb, fl, ol, ft, lv, oc) (nI e) (nI f) := by
  unfold wpX_areAlike
  dsimp only
  refine ⟨129, sd_yl (σ := Unit) (fun n q _ => wX_areAlike_2 post (nI e) (nI f) (nI (7 + g)) D H N gk ga gb fl ol ft lv oc n (nI q)) (fun q => R (nI e) (nI q) 1 = R (nI f) (nI q) 1) 128 0 (post 0) (post 1)
    (fun n _ hq => ?_) (fun n q _ _ hlt hy hn => ?_) (fun a => h1 (fun q hq => a q (Nat.zero_le q) hq)) (fun a => h0 (fun b => a (fun q _ hq => b q hq))) 128 0 () (by omega) (by omega) (fun q _ hq => absurd hq (Nat.not_lt_zero q))⟩
  · exact br_t (by decide) hq
  · refine br_f (nI_ge (b := 128) hlt (by decide)) ?_
    rw [sd_ix, sd_ix, nI_clamp (by omega), nI_clamp (by omega), ho e he q hlt, ho f hf q hlt]
    exact ⟨vp_in_nI (by omega) (by omega), nm_e ⟨vp_in_nI (by omega) (by omega), br_c (fun c => nm_r (nI_1 q) (hy c ())) (fun c => hn c)⟩⟩
theorem sx_least {post : Int32 → Prop} {R : Int32 → Int32 → Nat → Int32} {f : Nat} (hg : g ≤ 14) (ho : sd_oc R (2 * (7 + g)) oc) (hf : f < 2 * (7 + g)) (h : post (sd_er R f)) :
    wpX_leastAlike post (nI (7 + g), D, H, N, gk, ga, gb, fl, ol, ft, lv, oc) (nI f) := by
  unfold wpX_leastAlike
  dsimp only
  refine ⟨f + 1, sd_fl (σ := Unit) (fun n i _ => wX_leastAlike_2 post (nI f) (nI (7 + g)) D H N gk ga gb fl ol ft lv oc n (nI i)) (fun i => sd_al R (nI i) (nI f)) (nI f) f (fun r _ => post r)
    (fun n _ hq => ?_) (fun n i _ hlt hy hn => ?_) f 0 () (by omega) (fun _ => h)⟩
  · exact br_t (nI_le (by omega) (by omega)) (hq ())
  · refine br_f (nI_ge (by omega) (by omega)) ?_
    exact sx_areAlike hg ho (by omega) hf (fun t => br_f (by decide) (hy t ())) (fun t => br_t rfl (nm_r (nI_1 i) (hn t ())))
theorem sx_ghc {post : Int32 → Prop} {R : Int32 → Int32 → Nat → Int32} {ex : Int32 → Prop} {f : Nat} (hg : g ≤ 14) (ho : sd_oc R (2 * (7 + g)) oc) (hx : ∀ f, f < 2 * (7 + g) → (ft f = 0 ↔ ¬ ex (nI f))) (hf : f < 2 * (7 + g))
    (h1 : sd_po R ex (2 * (7 + g)) f → post 1) (h0 : ¬ sd_po R ex (2 * (7 + g)) f → post 0) :
    wpX_groupHasCandidate post (nI (7 + g), D, H, N, gk, ga, gb, fl, ol, ft, lv, oc) (nI f) := by
  unfold wpX_groupHasCandidate
  dsimp only
  refine ⟨(2 * (7 + g) - f) + 1, sd_yl (σ := Unit) (fun n i _ => wX_groupHasCandidate_2 post (nI f) (nI (7 + g)) D H N gk ga gb fl ol ft lv oc n (nI i)) (fun i => ¬ (ex (nI i) ∧ sd_al R (nI f) (nI i))) (2 * (7 + g)) f (post 1) (post 0)
    (fun n _ hq => ?_) (fun n i _ _ hlt hy hn => ?_) (fun a => h0 ?_) (fun a => h1 ?_) (2 * (7 + g) - f) f () (by omega) (by omega) (fun q hq1 hq => absurd hq (by omega))⟩
  · exact pk_le (2 * (7 + g)) (2 * (7 + g)) (fun _ => hq) (fun e => absurd e (by omega)) (pk_mul 2 (7 + g))
  · refine pk_le (2 * (7 + g)) i (fun e => absurd e (by omega)) (fun _ => ⟨vp_in_nI (by omega) (by omega), ?_⟩) (pk_mul 2 (7 + g))
    rw [nI_clamp (by omega)]
    refine br_c (fun e => nm_r (nI_1 i) (hy (fun q => (hx i hlt).1 e q.1) ())) (fun e => ?_)
    have he : ex (nI i) := Classical.byContradiction (fun q => e ((hx i hlt).2 q))
    exact sx_areAlike hg ho hf hlt (fun t => br_f (by decide) (hn (fun q => q ⟨he, t⟩))) (fun t => br_t rfl (nm_r (nI_1 i) (hy (fun q => t q.2) ())))
  · rintro ⟨i, h1, h2, h3, h4⟩
    exact a i h1 h2 ⟨h3, h4⟩
  · refine Classical.byContradiction (fun q => a (fun i h1 h2 h3 => q ⟨i, h1, h2, h3.1, h3.2⟩))
theorem sx_groupsLoop {post : Int32 → SX → Prop} {R : Int32 → Int32 → Nat → Int32} (hg : g ≤ 14) (ho : sd_oc R (2 * (7 + g)) oc)
    (h : post (sd_cnt (fun f => sd_er R f = nI f) (2 * (7 + g)) 0 0) (nI (7 + g), D, H, N, gk, ga, gb, fl, ol, ft, lv, oc)) :
    ∃ n, wX_groups_8 post (nI (7 + g)) D H N gk ga gb fl ol ft lv oc n 0 0 := by
  refine ⟨2 * (7 + g) + 1, sd_cl (σ := Unit) (fun n x f _ => wX_groups_8 post (nI (7 + g)) D H N gk ga gb fl ol ft lv oc n x (nI f)) (fun f => sd_er R f = nI f) (2 * (7 + g)) _
    (fun n _ => ?_) (fun n x f _ hlt hy hn => ?_) (2 * (7 + g)) 0 0 () (by omega) rfl⟩
  · exact pk_le (2 * (7 + g)) (2 * (7 + g)) (fun _ => h) (fun e => absurd e (by omega)) (pk_mul 2 (7 + g))
  · refine pk_le (2 * (7 + g)) f (fun e => absurd e (by omega)) (fun _ => ?_) (pk_mul 2 (7 + g))
    exact sx_least hg ho hlt (br_c (fun c => nm_e (nm_r (nI_1 f) (hy c ()))) (fun c => nm_r (nI_1 f) (hn c ())))
theorem sx_cgLoop {post : Int32 → SX → Prop} {R : Int32 → Int32 → Nat → Int32} {ex : Int32 → Prop} (hg : g ≤ 14) (ho : sd_oc R (2 * (7 + g)) oc) (hx : ∀ f, f < 2 * (7 + g) → (ft f = 0 ↔ ¬ ex (nI f)))
    (h : post (sd_cnt (fun f => sd_er R f = nI f ∧ sd_po R ex (2 * (7 + g)) f) (2 * (7 + g)) 0 0) (nI (7 + g), D, H, N, gk, ga, gb, fl, ol, ft, lv, oc)) :
    ∃ n, wX_candidateGroups_8 post (nI (7 + g)) D H N gk ga gb fl ol ft lv oc n 0 0 := by
  refine ⟨2 * (7 + g) + 1, sd_cl (σ := Unit) (fun n x f _ => wX_candidateGroups_8 post (nI (7 + g)) D H N gk ga gb fl ol ft lv oc n x (nI f)) (fun f => sd_er R f = nI f ∧ sd_po R ex (2 * (7 + g)) f) (2 * (7 + g)) _
    (fun n _ => ?_) (fun n x f _ hlt hy hn => ?_) (2 * (7 + g)) 0 0 () (by omega) rfl⟩
  · exact pk_le (2 * (7 + g)) (2 * (7 + g)) (fun _ => h) (fun e => absurd e (by omega)) (pk_mul 2 (7 + g))
  · refine pk_le (2 * (7 + g)) f (fun e => absurd e (by omega)) (fun _ => ?_) (pk_mul 2 (7 + g))
    refine sx_least hg ho hlt (br_c (fun c => ?_) (fun c => nm_r (nI_1 f) (hn (fun q => c q.1) ())))
    exact sx_ghc hg ho hx hlt (fun t => br_f (by decide) (nm_e (nm_r (nI_1 f) (hy ⟨c, t⟩ ())))) (fun t => br_t rfl (nm_r (nI_1 f) (hn (fun q => t q.2) ())))
end
