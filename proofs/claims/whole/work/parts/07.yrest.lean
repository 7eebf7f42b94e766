/-! the reference's other methods -/
def sd_O (m : Nat) (pt cy : Nat → Int32) : Prop := ∀ i, i < m → (∃ p, p < 128 ∧ pt i = nI p) ∧ (∃ c, 1 ≤ c ∧ c ≤ 4 ∧ cy i = nI c)
theorem sd_2L (g : Nat) : (2 : Int32) * (7 + nI g) = nI (2 * (7 + g)) := by
  rw [show (7 : Int32) + nI g = nI (7 + g) from nI_add 7 g]
  exact pk_mul 2 (7 + g)
theorem sd_okm : sd_ok (-1) := Or.inl rfl
theorem sd_okn {f : Nat} (h : f < 42) : sd_ok (nI f) := Or.inr ⟨f, h, rfl⟩
section
variable {g m : Nat} {Dv M : Int32} {gk ga gb kd fs sc fl ol pt cy an va : Nat → Int32}
theorem sy_line_ok {post : Int32 → Prop} {l : Nat} (hg : g ≤ 14) (hl : l < 7 + g) (h : post 0) : wpY_badLine post (nI g, Dv, M, kd, fs, sc, fl, ol, pt, cy, an, va) (nI l) :=
  br_f (nI_pos (by omega)) (pk_le (7 + g) l (fun c => absurd c (by omega)) (fun _ => pk_le l 20 (fun _ => h) (fun c => absurd c (by omega))) (nI_add 7 g))
theorem sy_line_no {post : Int32 → Prop} {x : Int32} (hg : g ≤ 14) (hb : sd_bad (7 + g) x) (h : post 1) : wpY_badLine post (nI g, Dv, M, kd, fs, sc, fl, ol, pt, cy, an, va) x := by
  rcases hb with hb | ⟨j, h1, h2, rfl⟩
  · exact br_t hb h
  · exact br_f (nI_pos h2) (pk_le (7 + g) j (fun _ => h) (fun c => absurd c (by omega)) (nI_add 7 g))
theorem sy_fault_ok {post : Int32 → Prop} {f : Nat} (hg : g ≤ 14) (hf : f < 2 * (7 + g)) (h : post 0) : wpY_badFault post (nI g, Dv, M, kd, fs, sc, fl, ol, pt, cy, an, va) (nI f) :=
  br_f (nI_pos (by omega)) (pk_lt f (2 * (7 + g)) (fun _ => h) (fun c => absurd c (by omega)) rfl (sd_2L g))
theorem sy_fault_no {post : Int32 → Prop} {x : Int32} (hg : g ≤ 14) (hb : sd_bad (2 * (7 + g)) x) (h : post 1) : wpY_badFault post (nI g, Dv, M, kd, fs, sc, fl, ol, pt, cy, an, va) x := by
  rcases hb with hb | ⟨j, h1, h2, rfl⟩
  · exact br_t hb h
  · exact br_f (nI_pos h2) (pk_lt j (2 * (7 + g)) (fun c => absurd c (by omega)) (fun _ => h) rfl (sd_2L g))
theorem sy_pat_ok {post : Int32 → Prop} {G : Int32} {p : Nat} (hp : p < 128) (h : post 0) : wpY_badPattern post (G, Dv, M, kd, fs, sc, fl, ol, pt, cy, an, va) (nI p) :=
  br_f (nI_pos (by omega)) (pk_le p 127 (fun _ => h) (fun c => absurd c (by omega)))
theorem sy_pat_no {post : Int32 → Prop} {G : Int32} {x : Int32} (hb : sd_bad 128 x) (h : post 1) : wpY_badPattern post (G, Dv, M, kd, fs, sc, fl, ol, pt, cy, an, va) x := by
  rcases hb with hb | ⟨j, h1, h2, rfl⟩
  · exact br_t hb h
  · exact br_f (nI_pos h2) (pk_le j 127 (fun c => absurd c (by omega)) (fun _ => h))
theorem sy_cyc_ok {post : Int32 → Prop} {G : Int32} {c : Nat} (h1 : 1 ≤ c) (h4 : c ≤ 4) (h : post 0) : wpY_badCycles post (G, Dv, M, kd, fs, sc, fl, ol, pt, cy, an, va) (nI c) :=
  pk_lt c 1 (fun e => absurd e (by omega)) (fun _ => pk_le c 4 (fun _ => h) (fun e => absurd e (by omega)))
theorem sy_cyc_no {post : Int32 → Prop} {G : Int32} {x : Int32} (hb : sd_badc x) (h : post 1) : wpY_badCycles post (G, Dv, M, kd, fs, sc, fl, ol, pt, cy, an, va) x := by
  rcases hb with hb | ⟨j, h1, h2, rfl⟩
  · exact br_t hb h
  · exact pk_lt j 1 (fun e => absurd e (by omega)) (fun _ => pk_le j 4 (fun e => absurd e (by omega)) (fun _ => h))
theorem sy_explains {post : Int32 → SY → Prop} {φ : Int32} (hC : sd_C g ga gb fl ol) (hY : sd_Y gk ga gb kd fs sc) (hφ : sd_ok φ) (hm : m ≤ 20) (hO : sd_O m pt cy)
    (h1 : sd_ex (sd_run g gk ga gb fl ol) m pt cy an φ → ∀ va', post 1 (nI g, Dv, nI m, kd, fs, sc, fl, ol, pt, cy, an, va'))
    (h0 : ¬ sd_ex (sd_run g gk ga gb fl ol) m pt cy an φ → ∀ va', post 0 (nI g, Dv, nI m, kd, fs, sc, fl, ol, pt, cy, an, va')) :
    wpY_explains post (nI g, Dv, nI m, kd, fs, sc, fl, ol, pt, cy, an, va) φ := by
  unfold wpY_explains
  dsimp only
  refine ⟨m + 1, sd_yl (σ := Nat → Int32) (fun n i va => wY_explains_2 post φ n (nI i) (nI g) Dv (nI m) kd fs sc fl ol pt cy an va) (fun i => sd_run g gk ga gb fl ol φ (pt i) (cy i).toNatClampNeg = an i) m 0 _ _
    (fun n s hq => ?_) (fun n i s _ hlt hy hn => ?_) (fun a => h1 (fun q hq => a q (Nat.zero_le q) hq)) (fun a => h0 (fun b => a (fun q _ hq => b q hq))) m 0 va (by omega) (by omega) (fun q _ hq => absurd hq (Nat.not_lt_zero q))⟩
  · exact br_t (nI_le (by omega) (by omega)) (hq s)
  · obtain ⟨⟨p, hp, ep⟩, ⟨c, hc1, hc4, ec⟩⟩ := hO i hlt
    have hin : vp_in (nI i) 20 := vp_in_nI (by omega) (by omega)
    have cl : (nI i).toNatClampNeg = i := nI_clamp (by omega)
    have cc : (nI c).toNatClampNeg = c := nI_clamp (by omega)
    rw [ep, ec, cc] at hy hn
    refine br_f (nI_ge (by omega) (by omega)) (br_f (nI_ge (b := 20) (by omega) (by decide)) ⟨hin, hin, ?_⟩)
    rw [cl, ep, ec]
    exact sy_run hC hY hφ hp hc1 hc4 (fun va' => ⟨hin, br_c (fun e => nm_r (nI_1 i) (hy e va')) (fun e => hn e va')⟩)
theorem sy_alike {post : Int32 → SY → Prop} {φ ψ : Int32} (hC : sd_C g ga gb fl ol) (hY : sd_Y gk ga gb kd fs sc) (hφ : sd_ok φ) (hψ : sd_ok ψ)
    (h1 : sd_al (sd_run g gk ga gb fl ol) φ ψ → ∀ va', post 1 (nI g, Dv, M, kd, fs, sc, fl, ol, pt, cy, an, va'))
    (h0 : ¬ sd_al (sd_run g gk ga gb fl ol) φ ψ → ∀ va', post 0 (nI g, Dv, M, kd, fs, sc, fl, ol, pt, cy, an, va')) :
    wpY_alike post (nI g, Dv, M, kd, fs, sc, fl, ol, pt, cy, an, va) φ ψ := by
  unfold wpY_alike
  dsimp only
  refine ⟨129, sd_yl (σ := Nat → Int32) (fun n q va => wY_alike_2 post φ ψ n (nI q) (nI g) Dv M kd fs sc fl ol pt cy an va) (fun q => sd_run g gk ga gb fl ol φ (nI q) 1 = sd_run g gk ga gb fl ol ψ (nI q) 1) 128 0 _ _
    (fun n s hq => ?_) (fun n q s _ hlt hy hn => ?_) (fun a => h1 (fun q hq => a q (Nat.zero_le q) hq)) (fun a => h0 (fun b => a (fun q _ hq => b q hq))) 128 0 va (by omega) (by omega) (fun q _ hq => absurd hq (Nat.not_lt_zero q))⟩
  · exact br_t (by decide) (hq s)
  · refine br_f (nI_ge (b := 128) hlt (by decide)) ?_
    refine sy_run (c := 1) hC hY hφ hlt (by omega) (by omega) (fun va1 => ?_)
    exact sy_run (c := 1) hC hY hψ hlt (by omega) (by omega) (fun va2 => br_c (fun e => nm_r (nI_1 q) (hy e va2)) (fun e => hn e va2))
theorem sy_earliest {post : Int32 → SY → Prop} {f : Nat} (hC : sd_C g ga gb fl ol) (hY : sd_Y gk ga gb kd fs sc) (hf : f < 2 * (7 + g))
    (h : ∀ va', post (sd_er (sd_run g gk ga gb fl ol) f) (nI g, Dv, M, kd, fs, sc, fl, ol, pt, cy, an, va')) :
    wpY_earliest post (nI g, Dv, M, kd, fs, sc, fl, ol, pt, cy, an, va) (nI f) := by
  have hg : g ≤ 14 := hC.1
  unfold wpY_earliest
  dsimp only
  refine ⟨f + 1, sd_fl (σ := Nat → Int32) (fun n i va => wY_earliest_2 post (nI f) n (nI i) (nI g) Dv M kd fs sc fl ol pt cy an va) (fun i => sd_al (sd_run g gk ga gb fl ol) (nI i) (nI f)) (nI f) f (fun r va' => post r (nI g, Dv, M, kd, fs, sc, fl, ol, pt, cy, an, va'))
    (fun n s hq => ?_) (fun n i s hlt hy hn => ?_) f 0 va (by omega) h⟩
  · exact br_t (nI_le (by omega) (by omega)) (hq s)
  · refine br_f (nI_ge (by omega) (by omega)) ?_
    exact sy_alike hC hY (sd_okn (by omega)) (sd_okn (by omega)) (fun t va' => br_f (by decide) (hy t va')) (fun t va' => br_t rfl (nm_r (nI_1 i) (hn t va')))
theorem sy_possible {post : Int32 → SY → Prop} {f : Nat} (hC : sd_C g ga gb fl ol) (hY : sd_Y gk ga gb kd fs sc) (hm : m ≤ 20) (hO : sd_O m pt cy) (hf : f < 2 * (7 + g))
    (h1 : sd_po (sd_run g gk ga gb fl ol) (sd_ex (sd_run g gk ga gb fl ol) m pt cy an) (2 * (7 + g)) f → ∀ va', post 1 (nI g, Dv, nI m, kd, fs, sc, fl, ol, pt, cy, an, va'))
    (h0 : ¬ sd_po (sd_run g gk ga gb fl ol) (sd_ex (sd_run g gk ga gb fl ol) m pt cy an) (2 * (7 + g)) f → ∀ va', post 0 (nI g, Dv, nI m, kd, fs, sc, fl, ol, pt, cy, an, va')) :
    wpY_possible post (nI g, Dv, nI m, kd, fs, sc, fl, ol, pt, cy, an, va) (nI f) := by
  have hg : g ≤ 14 := hC.1
  unfold wpY_possible
  dsimp only
  refine ⟨(2 * (7 + g) - f) + 1, sd_yl (σ := Nat → Int32) (fun n i va => wY_possible_2 post (nI f) n (nI i) (nI g) Dv (nI m) kd fs sc fl ol pt cy an va) (fun i => ¬ (sd_ex (sd_run g gk ga gb fl ol) m pt cy an (nI i) ∧ sd_al (sd_run g gk ga gb fl ol) (nI f) (nI i))) (2 * (7 + g)) f _ _
    (fun n s hq => ?_) (fun n i s _ hlt hy hn => ?_) (fun a => h0 ?_) (fun a => h1 ?_) (2 * (7 + g) - f) f va (by omega) (by omega) (fun q hq1 hq => absurd hq (by omega))⟩
  · exact pk_le (2 * (7 + g)) (2 * (7 + g)) (fun _ => hq s) (fun e => absurd e (by omega)) (sd_2L g)
  · refine pk_le (2 * (7 + g)) i (fun e => absurd e (by omega)) (fun _ => ?_) (sd_2L g)
    refine sy_explains hC hY (sd_okn (by omega)) hm hO (fun he va1 => br_f (by decide) ?_) (fun he va1 => br_t rfl (nm_r (nI_1 i) (hy (fun q => he q.1) va1)))
    exact sy_alike hC hY (sd_okn (by omega)) (sd_okn (by omega)) (fun t va' => br_f (by decide) (hn (fun q => q ⟨he, t⟩) va')) (fun t va' => br_t rfl (nm_r (nI_1 i) (hy (fun q => t q.2) va')))
  · rintro ⟨i, h1, h2, h3, h4⟩
    exact a i h1 h2 ⟨h3, h4⟩
  · refine Classical.byContradiction (fun q => a (fun i h1 h2 h3 => q ⟨i, h1, h2, h3.1, h3.2⟩))
theorem sy_candidates {post : Int32 → SY → Prop} (hC : sd_C g ga gb fl ol) (hY : sd_Y gk ga gb kd fs sc) (hm : m ≤ 20) (hO : sd_O m pt cy)
    (h : ∀ va', post (sd_cnt (fun f => sd_ex (sd_run g gk ga gb fl ol) m pt cy an (nI f)) (2 * (7 + g)) 0 0) (nI g, Dv, nI m, kd, fs, sc, fl, ol, pt, cy, an, va')) :
    wpY_candidates post (nI g, Dv, nI m, kd, fs, sc, fl, ol, pt, cy, an, va) := by
  have hg : g ≤ 14 := hC.1
  unfold wpY_candidates
  dsimp only
  refine ⟨2 * (7 + g) + 1, sd_cl (σ := Nat → Int32) (fun n x f va => wY_candidates_4 post n x (nI f) (nI g) Dv (nI m) kd fs sc fl ol pt cy an va) (fun f => sd_ex (sd_run g gk ga gb fl ol) m pt cy an (nI f)) (2 * (7 + g)) _
    (fun n s => ?_) (fun n x f s hlt hy hn => ?_) (2 * (7 + g)) 0 0 va (by omega) rfl⟩
  · exact pk_le (2 * (7 + g)) (2 * (7 + g)) (fun _ => h s) (fun e => absurd e (by omega)) (sd_2L g)
  · refine pk_le (2 * (7 + g)) f (fun e => absurd e (by omega)) (fun _ => ?_) (sd_2L g)
    exact sy_explains hC hY (sd_okn (by omega)) hm hO (fun t va' => br_f (by decide) (nm_e (nm_r (nI_1 f) (hy t va')))) (fun t va' => br_t rfl (nm_r (nI_1 f) (hn t va')))
theorem sy_candidate {post : Int32 → SY → Prop} {i : Int32} (hC : sd_C g ga gb fl ol) (hY : sd_Y gk ga gb kd fs sc) (hm : m ≤ 20) (hO : sd_O m pt cy)
    (h : ∀ va', post (sd_nth (fun f => sd_ex (sd_run g gk ga gb fl ol) m pt cy an (nI f)) i (2 * (7 + g)) 0 0) (nI g, Dv, nI m, kd, fs, sc, fl, ol, pt, cy, an, va')) :
    wpY_candidate post (nI g, Dv, nI m, kd, fs, sc, fl, ol, pt, cy, an, va) i := by
  have hg : g ≤ 14 := hC.1
  unfold wpY_candidate
  dsimp only
  refine ⟨2 * (7 + g) + 1, sd_nl (σ := Nat → Int32) (fun n x f va => wY_candidate_4 post i n x (nI f) (nI g) Dv (nI m) kd fs sc fl ol pt cy an va) (fun f => sd_ex (sd_run g gk ga gb fl ol) m pt cy an (nI f)) i (2 * (7 + g)) (fun r => ∀ va', post r (nI g, Dv, nI m, kd, fs, sc, fl, ol, pt, cy, an, va'))
    (fun n x s hq => ?_) (fun n x f s hlt hr hy hn => ?_) (2 * (7 + g)) 0 0 va (by omega) h⟩
  · exact pk_le (2 * (7 + g)) (2 * (7 + g)) (fun _ => hq s) (fun e => absurd e (by omega)) (sd_2L g)
  · refine pk_le (2 * (7 + g)) f (fun e => absurd e (by omega)) (fun _ => ?_) (sd_2L g)
    exact sy_explains hC hY (sd_okn (by omega)) hm hO (fun t va' => br_f (by decide) (br_c (fun c => hr t c va' va') (fun c => nm_e (nm_r (nI_1 f) (hy t c va'))))) (fun t va' => br_t rfl (nm_r (nI_1 f) (hn t va')))
theorem sy_nextPattern {post : Int32 → SY → Prop} (hC : sd_C g ga gb fl ol) (hY : sd_Y gk ga gb kd fs sc) (hm : m ≤ 20) (hO : sd_O m pt cy)
    (h : ∀ va', post (sd_fst (fun p => sd_T (sd_run g gk ga gb fl ol) (sd_ex (sd_run g gk ga gb fl ol) m pt cy an) (nI p) (2 * (7 + g)) 0 (-1)) (-1) 128 0) (nI g, Dv, nI m, kd, fs, sc, fl, ol, pt, cy, an, va')) :
    wpY_nextPattern post (nI g, Dv, nI m, kd, fs, sc, fl, ol, pt, cy, an, va) := by
  have hg : g ≤ 14 := hC.1
  unfold wpY_nextPattern
  dsimp only
  refine ⟨129, sd_fl (σ := Nat → Int32) (fun n p va => wY_nextPattern_2 post n (nI p) (nI g) Dv (nI m) kd fs sc fl ol pt cy an va) (fun p => sd_T (sd_run g gk ga gb fl ol) (sd_ex (sd_run g gk ga gb fl ol) m pt cy an) (nI p) (2 * (7 + g)) 0 (-1)) (-1) 128 (fun r va' => post r (nI g, Dv, nI m, kd, fs, sc, fl, ol, pt, cy, an, va'))
    (fun n s hq => ?_) (fun n p s hlt hy hn => ?_) 128 0 va (by omega) h⟩
  · exact br_t (by decide) (hq s)
  · refine br_f (nI_ge (b := 128) hlt (by decide)) ⟨2 * (7 + g) + 1, ?_⟩
    refine sd_Tl (σ := Nat → Int32) (fun n' x f va => wY_nextPattern_13 post (wY_nextPattern_2 post n) (nI p) n' x (nI f) (nI g) Dv (nI m) kd fs sc fl ol pt cy an va) (sd_run g gk ga gb fl ol) (sd_ex (sd_run g gk ga gb fl ol) m pt cy an) (nI p) (2 * (7 + g)) _ _
      (fun n' x s hq => ?_) (fun n' x f s hlt' hn' hd' hy' => ?_) (2 * (7 + g)) 0 (-1) s (by omega) hy hn
    · exact pk_le (2 * (7 + g)) (2 * (7 + g)) (fun _ => nm_r (nI_1 p) (hq s)) (fun e => absurd e (by omega)) (sd_2L g)
    · refine pk_le (2 * (7 + g)) f (fun e => absurd e (by omega)) (fun _ => ?_) (sd_2L g)
      refine sy_explains hC hY (sd_okn (by omega)) hm hO (fun he va1 => br_f (by decide) ?_) (fun he va1 => br_t rfl (nm_r (nI_1 f) (hn' he va1)))
      exact sy_run (c := 1) hC hY (sd_okn (by omega)) hlt (by omega) (by omega) (fun va' => br_c (fun c => nm_r (nI_1 f) (hy' he (Or.inl c) va')) (fun c => br_c (fun r => nm_r (nI_1 f) (hy' he (Or.inr r) va')) (fun r => hd' he c r va')))
theorem sy_detected {post : Int32 → SY → Prop} {p c : Nat} (hC : sd_C g ga gb fl ol) (hY : sd_Y gk ga gb kd fs sc) (hp : p < 128) (h1 : 1 ≤ c) (h4 : c ≤ 4)
    (h : ∀ va', post (sd_cnt (fun f => ¬ sd_run g gk ga gb fl ol (nI f) (nI p) c = sd_run g gk ga gb fl ol (-1) (nI p) c) (2 * (7 + g)) 0 0) (nI g, Dv, M, kd, fs, sc, fl, ol, pt, cy, an, va')) :
    wpY_detected post (nI g, Dv, M, kd, fs, sc, fl, ol, pt, cy, an, va) (nI p) (nI c) := by
  have hg : g ≤ 14 := hC.1
  unfold wpY_detected
  dsimp only
  refine sy_pat_ok hp ?_
  refine br_t rfl ?_
  refine sy_cyc_ok h1 h4 ?_
  refine br_t rfl ?_
  refine sy_run hC hY sd_okm hp h1 h4 (fun va1 => ?_)
  refine ⟨2 * (7 + g) + 1, sd_cl (σ := Nat → Int32) (fun n x f va => wY_detected_35 post (nI p) (nI c) (sd_run g gk ga gb fl ol (-1) (nI p) c) n x (nI f) (nI g) Dv M kd fs sc fl ol pt cy an va) (fun f => ¬ sd_run g gk ga gb fl ol (nI f) (nI p) c = sd_run g gk ga gb fl ol (-1) (nI p) c) (2 * (7 + g)) _
    (fun n s => ?_) (fun n x f s hlt hy hn => ?_) (2 * (7 + g)) 0 0 va1 (by omega) rfl⟩
  · exact pk_le (2 * (7 + g)) (2 * (7 + g)) (fun _ => h s) (fun e => absurd e (by omega)) (sd_2L g)
  · refine pk_le (2 * (7 + g)) f (fun e => absurd e (by omega)) (fun _ => ?_) (sd_2L g)
    exact sy_run hC hY (sd_okn (by omega)) hp h1 h4 (fun va' => br_c (fun e => nm_r (nI_1 f) (hn (fun q => q e) va')) (fun e => nm_e (nm_r (nI_1 f) (hy e va'))))
theorem sy_hidden {post : Int32 → SY → Prop} (hC : sd_C g ga gb fl ol) (hY : sd_Y gk ga gb kd fs sc)
    (h : ∀ va', post (sd_cnt (fun f => sd_al (sd_run g gk ga gb fl ol) (nI f) (-1)) (2 * (7 + g)) 0 0) (nI g, Dv, M, kd, fs, sc, fl, ol, pt, cy, an, va')) :
    wpY_hidden post (nI g, Dv, M, kd, fs, sc, fl, ol, pt, cy, an, va) := by
  have hg : g ≤ 14 := hC.1
  unfold wpY_hidden
  dsimp only
  refine ⟨2 * (7 + g) + 1, sd_cl (σ := Nat → Int32) (fun n x f va => wY_hidden_4 post n x (nI f) (nI g) Dv M kd fs sc fl ol pt cy an va) (fun f => sd_al (sd_run g gk ga gb fl ol) (nI f) (-1)) (2 * (7 + g)) _
    (fun n s => ?_) (fun n x f s hlt hy hn => ?_) (2 * (7 + g)) 0 0 va (by omega) rfl⟩
  · exact pk_le (2 * (7 + g)) (2 * (7 + g)) (fun _ => h s) (fun e => absurd e (by omega)) (sd_2L g)
  · refine pk_le (2 * (7 + g)) f (fun e => absurd e (by omega)) (fun _ => ?_) (sd_2L g)
    exact sy_alike hC hY (sd_okn (by omega)) sd_okm (fun t va' => br_f (by decide) (nm_e (nm_r (nI_1 f) (hy t va')))) (fun t va' => br_t rfl (nm_r (nI_1 f) (hn t va')))
theorem sy_groups {post : Int32 → SY → Prop} (hC : sd_C g ga gb fl ol) (hY : sd_Y gk ga gb kd fs sc)
    (h : ∀ va', post (sd_cnt (fun f => sd_er (sd_run g gk ga gb fl ol) f = nI f) (2 * (7 + g)) 0 0) (nI g, Dv, M, kd, fs, sc, fl, ol, pt, cy, an, va')) :
    wpY_groups post (nI g, Dv, M, kd, fs, sc, fl, ol, pt, cy, an, va) := by
  have hg : g ≤ 14 := hC.1
  unfold wpY_groups
  dsimp only
  refine ⟨2 * (7 + g) + 1, sd_cl (σ := Nat → Int32) (fun n x f va => wY_groups_4 post n x (nI f) (nI g) Dv M kd fs sc fl ol pt cy an va) (fun f => sd_er (sd_run g gk ga gb fl ol) f = nI f) (2 * (7 + g)) _
    (fun n s => ?_) (fun n x f s hlt hy hn => ?_) (2 * (7 + g)) 0 0 va (by omega) rfl⟩
  · exact pk_le (2 * (7 + g)) (2 * (7 + g)) (fun _ => h s) (fun e => absurd e (by omega)) (sd_2L g)
  · refine pk_le (2 * (7 + g)) f (fun e => absurd e (by omega)) (fun _ => ?_) (sd_2L g)
    exact sy_earliest hC hY hlt (fun va' => br_c (fun c => nm_e (nm_r (nI_1 f) (hy c va'))) (fun c => nm_r (nI_1 f) (hn c va')))
theorem sy_candidateGroups {post : Int32 → SY → Prop} (hC : sd_C g ga gb fl ol) (hY : sd_Y gk ga gb kd fs sc) (hm : m ≤ 20) (hO : sd_O m pt cy)
    (h : ∀ va', post (sd_cnt (fun f => sd_er (sd_run g gk ga gb fl ol) f = nI f ∧ sd_po (sd_run g gk ga gb fl ol) (sd_ex (sd_run g gk ga gb fl ol) m pt cy an) (2 * (7 + g)) f) (2 * (7 + g)) 0 0) (nI g, Dv, nI m, kd, fs, sc, fl, ol, pt, cy, an, va')) :
    wpY_candidateGroups post (nI g, Dv, nI m, kd, fs, sc, fl, ol, pt, cy, an, va) := by
  have hg : g ≤ 14 := hC.1
  unfold wpY_candidateGroups
  dsimp only
  refine ⟨2 * (7 + g) + 1, sd_cl (σ := Nat → Int32) (fun n x f va => wY_candidateGroups_4 post n x (nI f) (nI g) Dv (nI m) kd fs sc fl ol pt cy an va) (fun f => sd_er (sd_run g gk ga gb fl ol) f = nI f ∧ sd_po (sd_run g gk ga gb fl ol) (sd_ex (sd_run g gk ga gb fl ol) m pt cy an) (2 * (7 + g)) f) (2 * (7 + g)) _
    (fun n s => ?_) (fun n x f s hlt hy hn => ?_) (2 * (7 + g)) 0 0 va (by omega) rfl⟩
  · exact pk_le (2 * (7 + g)) (2 * (7 + g)) (fun _ => h s) (fun e => absurd e (by omega)) (sd_2L g)
  · refine pk_le (2 * (7 + g)) f (fun e => absurd e (by omega)) (fun _ => ?_) (sd_2L g)
    refine sy_earliest hC hY hlt (fun va1 => br_c (fun c => ?_) (fun c => nm_r (nI_1 f) (hn (fun q => c q.1) va1)))
    exact sy_possible hC hY hm hO hlt (fun t va' => br_f (by decide) (nm_e (nm_r (nI_1 f) (hy ⟨c, t⟩ va')))) (fun t va' => br_t rfl (nm_r (nI_1 f) (hn (fun q => t q.2) va')))
end
