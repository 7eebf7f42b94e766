/-! the class's other methods -/
section
variable {g : Nat} {D H N : Int32} {gk ga gb fl ol ft lv oc : Nat → Int32}
theorem sx_line_ok {post : Int32 → Prop} {l : Nat} (hg : g ≤ 14) (hl : l < 7 + g) (h : post 1) : wpX_isLine post (nI (7 + g), D, H, N, gk, ga, gb, fl, ol, ft, lv, oc) (nI l) :=
  br_f (nI_pos (by omega)) (br_f (nI_ge hl (by omega)) h)
theorem sx_line_no {post : Int32 → Prop} {x : Int32} (hb : sd_bad (7 + g) x) (h : post 0) : wpX_isLine post (nI (7 + g), D, H, N, gk, ga, gb, fl, ol, ft, lv, oc) x := by
  rcases hb with hb | ⟨j, h1, h2, rfl⟩
  · exact br_t hb h
  · exact br_f (nI_pos h2) (br_t (nI_le h1 h2) h)
theorem sx_fault_ok {post : Int32 → Prop} {f : Nat} (hg : g ≤ 14) (hf : f < 2 * (7 + g)) (h : post 1) : wpX_isFault post (nI (7 + g), D, H, N, gk, ga, gb, fl, ol, ft, lv, oc) (nI f) :=
  br_f (nI_pos (by omega)) (pk_le (2 * (7 + g)) f (fun c => absurd c (by omega)) (fun _ => h) (pk_mul 2 (7 + g)))
theorem sx_fault_no {post : Int32 → Prop} {x : Int32} (hg : g ≤ 14) (hb : sd_bad (2 * (7 + g)) x) (h : post 0) : wpX_isFault post (nI (7 + g), D, H, N, gk, ga, gb, fl, ol, ft, lv, oc) x := by
  rcases hb with hb | ⟨j, h1, h2, rfl⟩
  · exact br_t hb h
  · exact br_f (nI_pos h2) (pk_le (2 * (7 + g)) j (fun _ => h) (fun c => absurd c (by omega)) (pk_mul 2 (7 + g)))
theorem sx_pat_ok {post : Int32 → Prop} {L : Int32} {p : Nat} (hp : p < 128) (h : post 1) : wpX_isPattern post (L, D, H, N, gk, ga, gb, fl, ol, ft, lv, oc) (nI p) :=
  br_f (nI_pos (by omega)) (br_f (nI_ge (b := 128) hp (by decide)) h)
theorem sx_pat_no {post : Int32 → Prop} {L : Int32} {x : Int32} (hb : sd_bad 128 x) (h : post 0) : wpX_isPattern post (L, D, H, N, gk, ga, gb, fl, ol, ft, lv, oc) x := by
  rcases hb with hb | ⟨j, h1, h2, rfl⟩
  · exact br_t hb h
  · exact br_f (nI_pos h2) (br_t (nI_le (a := 128) h1 h2) h)
theorem sx_cyc_ok {post : Int32 → Prop} {L : Int32} {c : Nat} (h1 : 1 ≤ c) (h4 : c ≤ 4) (h : post 1) : wpX_isCycles post (L, D, H, N, gk, ga, gb, fl, ol, ft, lv, oc) (nI c) :=
  pk_lt c 1 (fun e => absurd e (by omega)) (fun _ => pk_lt 4 c (fun e => absurd e (by omega)) (fun _ => h))
theorem sx_cyc_no {post : Int32 → Prop} {L : Int32} {x : Int32} (hb : sd_badc x) (h : post 0) : wpX_isCycles post (L, D, H, N, gk, ga, gb, fl, ol, ft, lv, oc) x := by
  rcases hb with hb | ⟨j, h1, h2, rfl⟩
  · exact br_t hb h
  · exact pk_lt j 1 (fun e => absurd e (by omega)) (fun _ => pk_lt 4 j (fun _ => h) (fun e => absurd e (by omega)))
theorem sd_n1 : vp_nar .boolean 1 = 1 := by rfl
theorem sd_n0 : vp_nar .boolean 0 = 0 := by rfl
theorem sx_dropLoop {post : SX → Prop} {L D H N : Int32} {gk ga gb fl ol lv oc : Nat → Int32}
    (hp : ∀ ft', (∀ j, j < 42 → ft' j = 1) → post (L, D, H, N, gk, ga, gb, fl, ol, ft', lv, oc)) :
    ∀ d i ft, i + d = 42 → (∀ j, j < i → ft j = 1) → wX_dropObservations_12 post L D H N (d + 1) (nI i) gk ga gb fl ol ft lv oc := by
  intro d
  induction d with
  | zero =>
    intro i ft hi h
    obtain rfl : i = 42 := by omega
    exact br_t (by decide) (hp ft h)
  | succ d ih =>
    intro i ft hi h
    refine br_f (nI_ge (b := 42) (by omega) (by decide)) ⟨vp_in_nI (by omega) (by omega), fun ft' e y ey => ?_⟩
    rw [e, ey, nI_1, nI_clamp (by omega), sd_n1]
    refine ih (i + 1) _ (by omega) (fun j hj => ?_)
    by_cases c : j = i
    · rw [c, pk_us]
    · rw [pk_un c]
      exact h j (by omega)
theorem sx_drop {post : SX → Prop} {L : Int32} (hp : ∀ ft', (∀ j, j < 42 → ft' j = 1) → post (L, D, 1, 0, gk, ga, gb, fl, ol, ft', lv, oc)) :
    wpX_dropObservations post (L, D, H, N, gk, ga, gb, fl, ol, ft, lv, oc) := by
  unfold wpX_dropObservations
  dsimp only
  exact ⟨43, sx_dropLoop hp 42 0 ft (by omega) (fun j hj => absurd hj (Nat.not_lt_zero j))⟩
theorem sx_roLoop {post : SX → Prop} {p : Int32} {c : Nat} {seen : Int32} {ft0 : Nat → Int32} (hC : sd_C g ga gb fl ol) (h1 : 1 ≤ c) (h4 : c ≤ 4)
    (hp : ∀ lv' ft', (∀ f, f < 2 * (7 + g) → (ft' f = 0 ↔ (ft0 f = 0 ∨ ¬ sd_run g gk ga gb fl ol (nI f) p c = seen))) → post (nI (7 + g), D, H, N, gk, ga, gb, fl, ol, ft', lv', oc)) :
    ∀ d i lv ft, i + d = 2 * (7 + g) → (∀ f, f < i → (ft f = 0 ↔ (ft0 f = 0 ∨ ¬ sd_run g gk ga gb fl ol (nI f) p c = seen))) → (∀ f, i ≤ f → ft f = ft0 f) →
      wX_ruleOut_19 post p (nI c) seen (d + 1) (nI i) (nI (7 + g)) D H N gk ga gb fl ol ft lv oc := by
  have hg : g ≤ 14 := hC.1
  intro d
  induction d with
  | zero =>
    intro i lv ft hi h _
    obtain rfl : i = 2 * (7 + g) := by omega
    exact pk_le (2 * (7 + g)) (2 * (7 + g)) (fun _ => hp lv ft h) (fun e => absurd e (by omega)) (pk_mul 2 (7 + g))
  | succ d ih =>
    intro i lv ft hi h h'
    refine pk_le (2 * (7 + g)) i (fun e => absurd e (by omega)) (fun _ => ?_) (pk_mul 2 (7 + g))
    refine sx_run hC h1 h4 (fun lv' => br_c (fun e => nm_r (nI_1 i) ?_) (fun e => ⟨vp_in_nI (by omega) (by omega), fun ft' eft y ey => ?_⟩))
    · refine ih (i + 1) lv' ft (by omega) (fun f hf => ?_) (fun f hf => h' f (by omega))
      rcases (by omega : f < i ∨ f = i) with q | rfl
      · exact h f q
      · rw [h' f (Nat.le_refl f)]
        exact ⟨fun a => Or.inl a, fun a => a.elim id (fun b => absurd e b)⟩
    · rw [eft, ey, nI_1, nI_clamp (by omega), sd_n0]
      refine ih (i + 1) lv' _ (by omega) (fun f hf => ?_) (fun f hf => ?_)
      · by_cases q : f = i
        · subst q
          rw [pk_us]
          exact ⟨fun _ => Or.inr e, fun _ => rfl⟩
        · rw [pk_un q]
          exact h f (by omega)
      · rw [pk_un (by omega)]
        exact h' f (by omega)
theorem sx_ruleOut {post : SX → Prop} {p : Int32} {c : Nat} {seen : Int32} (hC : sd_C g ga gb fl ol) (h1 : 1 ≤ c) (h4 : c ≤ 4)
    (hp : ∀ H' lv' ft', ((H' = 0) ↔ (H = 0 ∨ ¬ sd_run g gk ga gb fl ol (-1) p c = seen)) →
      (∀ f, f < 2 * (7 + g) → (ft' f = 0 ↔ (ft f = 0 ∨ ¬ sd_run g gk ga gb fl ol (nI f) p c = seen))) → post (nI (7 + g), D, H', N, gk, ga, gb, fl, ol, ft', lv', oc)) :
    wpX_ruleOut post (nI (7 + g), D, H, N, gk, ga, gb, fl, ol, ft, lv, oc) p (nI c) seen := by
  unfold wpX_ruleOut
  dsimp only
  refine sx_run hC h1 h4 (fun lv' => br_c (fun e => ?_) (fun e => ?_))
  · exact ⟨2 * (7 + g) + 1, sx_roLoop hC h1 h4 (fun lv'' ft' hft => hp H lv'' ft' ⟨fun a => Or.inl a, fun a => a.elim id (fun b => absurd e b)⟩ hft) (2 * (7 + g)) 0 lv' ft (by omega) (fun f hf => absurd hf (Nat.not_lt_zero f)) (fun _ _ => rfl)⟩
  · exact ⟨2 * (7 + g) + 1, sx_roLoop hC h1 h4 (fun lv'' ft' hft => hp 0 lv'' ft' ⟨fun _ => Or.inr e, fun _ => rfl⟩ hft) (2 * (7 + g)) 0 lv' ft (by omega) (fun f hf => absurd hf (Nat.not_lt_zero f)) (fun _ _ => rfl)⟩
theorem sx_candidates {post : Int32 → Prop} {ex : Int32 → Prop} (hg : g ≤ 14) (hf : ∀ f, f < 2 * (7 + g) → (ft f = 0 ↔ ¬ ex (nI f)))
    (h : post (sd_cnt (fun f => ex (nI f)) (2 * (7 + g)) 0 0)) : wpX_candidates post (nI (7 + g), D, H, N, gk, ga, gb, fl, ol, ft, lv, oc) := by
  unfold wpX_candidates
  dsimp only
  refine ⟨2 * (7 + g) + 1, sd_cl (σ := Unit) (fun n x f _ => wX_candidates_4 post (nI (7 + g)) D H N gk ga gb fl ol ft lv oc n x (nI f)) (fun f => ex (nI f)) (2 * (7 + g)) _
    (fun n _ => ?_) (fun n x f _ hlt hy hn => ?_) (2 * (7 + g)) 0 0 () (by omega) rfl⟩
  · exact pk_le (2 * (7 + g)) (2 * (7 + g)) (fun _ => h) (fun e => absurd e (by omega)) (pk_mul 2 (7 + g))
  · refine pk_le (2 * (7 + g)) f (fun e => absurd e (by omega)) (fun _ => ⟨vp_in_nI (by omega) (by omega), ?_⟩) (pk_mul 2 (7 + g))
    rw [nI_clamp (by omega)]
    refine br_c (fun e => nm_r (nI_1 f) (hn ((hf f hlt).1 e) ())) (fun e => nm_e (nm_r (nI_1 f) (hy ?_ ())))
    exact Classical.byContradiction (fun q => e ((hf f hlt).2 q))
theorem sx_candidate {post : Int32 → Prop} {ex : Int32 → Prop} {i : Int32} (hg : g ≤ 14) (hf : ∀ f, f < 2 * (7 + g) → (ft f = 0 ↔ ¬ ex (nI f)))
    (h : post (sd_nth (fun f => ex (nI f)) i (2 * (7 + g)) 0 0)) : wpX_candidate post (nI (7 + g), D, H, N, gk, ga, gb, fl, ol, ft, lv, oc) i := by
  unfold wpX_candidate
  dsimp only
  refine ⟨2 * (7 + g) + 1, sd_nl (σ := Unit) (fun n x f _ => wX_candidate_4 post i (nI (7 + g)) D H N gk ga gb fl ol ft lv oc n x (nI f)) (fun f => ex (nI f)) i (2 * (7 + g)) post
    (fun n x _ hm => ?_) (fun n x f _ hlt hr hy hn => ?_) (2 * (7 + g)) 0 0 () (by omega) h⟩
  · exact pk_le (2 * (7 + g)) (2 * (7 + g)) (fun _ => hm) (fun e => absurd e (by omega)) (pk_mul 2 (7 + g))
  · refine pk_le (2 * (7 + g)) f (fun e => absurd e (by omega)) (fun _ => ⟨vp_in_nI (by omega) (by omega), ?_⟩) (pk_mul 2 (7 + g))
    rw [nI_clamp (by omega)]
    refine br_c (fun e => nm_r (nI_1 f) (hn ((hf f hlt).1 e) ())) (fun e => ?_)
    have he : ex (nI f) := Classical.byContradiction (fun q => e ((hf f hlt).2 q))
    exact br_c (fun c => hr he c ()) (fun c => nm_e (nm_r (nI_1 f) (hy he c ())))
theorem sx_tells {post : Int32 → SX → Prop} {ex : Int32 → Prop} {p : Int32} (hC : sd_C g ga gb fl ol) (hf : ∀ f, f < 2 * (7 + g) → (ft f = 0 ↔ ¬ ex (nI f)))
    (h1 : sd_T (sd_run g gk ga gb fl ol) ex p (2 * (7 + g)) 0 (-1) → ∀ lv', post 1 (nI (7 + g), D, H, N, gk, ga, gb, fl, ol, ft, lv', oc))
    (h0 : ¬ sd_T (sd_run g gk ga gb fl ol) ex p (2 * (7 + g)) 0 (-1) → ∀ lv', post 0 (nI (7 + g), D, H, N, gk, ga, gb, fl, ol, ft, lv', oc)) :
    wpX_tellsCandidatesApart post (nI (7 + g), D, H, N, gk, ga, gb, fl, ol, ft, lv, oc) p := by
  have hg : g ≤ 14 := hC.1
  unfold wpX_tellsCandidatesApart
  dsimp only
  refine ⟨2 * (7 + g) + 1, sd_Tl (σ := Nat → Int32) (fun n x f lv => wX_tellsCandidatesApart_4 post p n x (nI f) (nI (7 + g)) D H N gk ga gb fl ol ft lv oc) (sd_run g gk ga gb fl ol) ex p (2 * (7 + g)) _ _
    (fun n x s hq => ?_) (fun n x f s hlt hn hd hy => ?_) (2 * (7 + g)) 0 (-1) lv (by omega) h1 h0⟩
  · exact pk_le (2 * (7 + g)) (2 * (7 + g)) (fun _ => hq s) (fun e => absurd e (by omega)) (pk_mul 2 (7 + g))
  · refine pk_le (2 * (7 + g)) f (fun e => absurd e (by omega)) (fun _ => ⟨vp_in_nI (by omega) (by omega), ?_⟩) (pk_mul 2 (7 + g))
    rw [nI_clamp (by omega)]
    refine br_c (fun e => nm_r (nI_1 f) (hn ((hf f hlt).1 e) s)) (fun e => ?_)
    have he : ex (nI f) := Classical.byContradiction (fun q => e ((hf f hlt).2 q))
    refine sx_run (c := 1) hC (by omega) (by omega) (fun lv' => br_c (fun c => nm_r (nI_1 f) (hy he (Or.inl c) lv')) (fun c => br_c (fun r => nm_r (nI_1 f) (hy he (Or.inr r) lv')) (fun r => hd he c r lv')))
theorem sx_nextPattern {post : Int32 → SX → Prop} {ex : Int32 → Prop} (hC : sd_C g ga gb fl ol) (hf : ∀ f, f < 2 * (7 + g) → (ft f = 0 ↔ ¬ ex (nI f)))
    (h : ∀ lv', post (sd_fst (fun p => sd_T (sd_run g gk ga gb fl ol) ex (nI p) (2 * (7 + g)) 0 (-1)) (-1) 128 0) (nI (7 + g), D, H, N, gk, ga, gb, fl, ol, ft, lv', oc)) :
    wpX_nextPattern post (nI (7 + g), D, H, N, gk, ga, gb, fl, ol, ft, lv, oc) := by
  unfold wpX_nextPattern
  dsimp only
  refine ⟨129, sd_fl (σ := Nat → Int32) (fun n p lv => wX_nextPattern_2 post n (nI p) (nI (7 + g)) D H N gk ga gb fl ol ft lv oc) _ (-1) 128 (fun r lv' => post r (nI (7 + g), D, H, N, gk, ga, gb, fl, ol, ft, lv', oc))
    (fun n s hq => ?_) (fun n p s hlt hy hn => ?_) 128 0 lv (by omega) h⟩
  · exact br_t (by decide) (hq s)
  · refine br_f (nI_ge (b := 128) hlt (by decide)) ?_
    exact sx_tells hC hf (fun t lv' => br_f (by decide) (hy t lv')) (fun t lv' => br_t rfl (nm_r (nI_1 p) (hn t lv')))
theorem sx_detected {post : Int32 → SX → Prop} {p c : Nat} (hC : sd_C g ga gb fl ol) (hp : p < 128) (h1 : 1 ≤ c) (h4 : c ≤ 4)
    (h : ∀ lv', post (sd_cnt (fun f => ¬ sd_run g gk ga gb fl ol (nI f) (nI p) c = sd_run g gk ga gb fl ol (-1) (nI p) c) (2 * (7 + g)) 0 0) (nI (7 + g), D, H, N, gk, ga, gb, fl, ol, ft, lv', oc)) :
    wpX_detected post (nI (7 + g), D, H, N, gk, ga, gb, fl, ol, ft, lv, oc) (nI p) (nI c) := by
  have hg : g ≤ 14 := hC.1
  unfold wpX_detected
  dsimp only
  refine sx_pat_ok hp ?_
  refine br_f (by decide) ?_
  refine sx_cyc_ok h1 h4 ?_
  refine br_f (by decide) ?_
  refine sx_run hC h1 h4 (fun lv1 => ?_)
  refine ⟨2 * (7 + g) + 1, sd_cl (σ := Nat → Int32) (fun n x f lv => wX_detected_35 post (nI p) (nI c) (sd_run g gk ga gb fl ol (-1) (nI p) c) n x (nI f) (nI (7 + g)) D H N gk ga gb fl ol ft lv oc) (fun f => ¬ sd_run g gk ga gb fl ol (nI f) (nI p) c = sd_run g gk ga gb fl ol (-1) (nI p) c) (2 * (7 + g)) _
    (fun n s => ?_) (fun n x f s hlt hy hn => ?_) (2 * (7 + g)) 0 0 lv1 (by omega) rfl⟩
  · exact pk_le (2 * (7 + g)) (2 * (7 + g)) (fun _ => h s) (fun e => absurd e (by omega)) (pk_mul 2 (7 + g))
  · refine pk_le (2 * (7 + g)) f (fun e => absurd e (by omega)) (fun _ => ?_) (pk_mul 2 (7 + g))
    exact sx_run hC h1 h4 (fun lv' => br_c (fun e => nm_r (nI_1 f) (hn (fun q => q e) lv')) (fun e => nm_e (nm_r (nI_1 f) (hy e lv'))))
theorem sx_neverShows {post : Int32 → SX → Prop} {φ : Int32} (hC : sd_C g ga gb fl ol)
    (h1 : sd_al (sd_run g gk ga gb fl ol) φ (-1) → ∀ lv', post 1 (nI (7 + g), D, H, N, gk, ga, gb, fl, ol, ft, lv', oc))
    (h0 : ¬ sd_al (sd_run g gk ga gb fl ol) φ (-1) → ∀ lv', post 0 (nI (7 + g), D, H, N, gk, ga, gb, fl, ol, ft, lv', oc)) :
    wpX_neverShows post (nI (7 + g), D, H, N, gk, ga, gb, fl, ol, ft, lv, oc) φ := by
  unfold wpX_neverShows
  dsimp only
  refine ⟨129, sd_yl (σ := Nat → Int32) (fun n q lv => wX_neverShows_2 post φ n (nI q) (nI (7 + g)) D H N gk ga gb fl ol ft lv oc) (fun q => sd_run g gk ga gb fl ol φ (nI q) 1 = sd_run g gk ga gb fl ol (-1) (nI q) 1) 128 0 _ _
    (fun n s hq => ?_) (fun n q s _ hlt hy hn => ?_) (fun a => h1 (fun q hq => a q (Nat.zero_le q) hq)) (fun a => h0 (fun b => a (fun q _ hq => b q hq))) 128 0 lv (by omega) (by omega) (fun q _ hq => absurd hq (Nat.not_lt_zero q))⟩
  · exact br_t (by decide) (hq s)
  · refine br_f (nI_ge (b := 128) hlt (by decide)) ?_
    refine sx_run (c := 1) hC (by omega) (by omega) (fun lv1 => ?_)
    exact sx_run (c := 1) hC (by omega) (by omega) (fun lv2 => br_c (fun e => nm_r (nI_1 q) (hy e lv2)) (fun e => hn e lv2))
theorem sx_hidden {post : Int32 → SX → Prop} (hC : sd_C g ga gb fl ol)
    (h : ∀ lv', post (sd_cnt (fun f => sd_al (sd_run g gk ga gb fl ol) (nI f) (-1)) (2 * (7 + g)) 0 0) (nI (7 + g), D, H, N, gk, ga, gb, fl, ol, ft, lv', oc)) :
    wpX_hidden post (nI (7 + g), D, H, N, gk, ga, gb, fl, ol, ft, lv, oc) := by
  have hg : g ≤ 14 := hC.1
  unfold wpX_hidden
  dsimp only
  refine ⟨2 * (7 + g) + 1, sd_cl (σ := Nat → Int32) (fun n x f lv => wX_hidden_4 post n x (nI f) (nI (7 + g)) D H N gk ga gb fl ol ft lv oc) (fun f => sd_al (sd_run g gk ga gb fl ol) (nI f) (-1)) (2 * (7 + g)) _
    (fun n s => ?_) (fun n x f s hlt hy hn => ?_) (2 * (7 + g)) 0 0 lv (by omega) rfl⟩
  · exact pk_le (2 * (7 + g)) (2 * (7 + g)) (fun _ => h s) (fun e => absurd e (by omega)) (pk_mul 2 (7 + g))
  · refine pk_le (2 * (7 + g)) f (fun e => absurd e (by omega)) (fun _ => ?_) (pk_mul 2 (7 + g))
    exact sx_neverShows hC (fun t lv' => br_f (by decide) (nm_e (nm_r (nI_1 f) (hy t lv')))) (fun t lv' => br_t rfl (nm_r (nI_1 f) (hn t lv')))
end
