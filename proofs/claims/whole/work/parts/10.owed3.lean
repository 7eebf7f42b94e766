/-! observe, and the questions on candidates and alike faults -/
theorem sd_exS {R : Int32 → Int32 → Nat → Int32} {m c : Nat} {pt cy an : Nat → Int32} {p r φ : Int32} (hc : c ≤ 4) :
    sd_ex R (m + 1) (upd pt m p) (upd cy m (nI c)) (upd an m r) φ ↔ (sd_ex R m pt cy an φ ∧ R φ p c = r) := by
  constructor
  · intro h
    refine ⟨fun i hi => ?_, ?_⟩
    · have e := h i (by omega)
      rw [pk_un (by omega), pk_un (by omega), pk_un (by omega)] at e
      exact e
    · have e := h m (by omega)
      rw [pk_us, pk_us, pk_us, nI_clamp (by omega)] at e
      exact e
  · rintro ⟨h1, h2⟩ i hi
    by_cases q : i = m
    · subst q
      rw [pk_us, pk_us, pk_us, nI_clamp (by omega)]
      exact h2
    · rw [pk_un q, pk_un q, pk_un q]
      exact h1 i (by omega)
theorem sd_not2 {P Q : Prop} {A : Prop} (h : A ↔ ¬ P) : (A ∨ ¬ Q) ↔ ¬ (P ∧ Q) := by
  constructor
  · rintro (a | b) ⟨p, q⟩
    · exact h.1 a p
    · exact b q
  · intro n
    by_cases p : P
    · exact Or.inr (fun q => n ⟨p, q⟩)
    · exact Or.inl (h.2 p)
theorem i_vc_observe {k : Nat} {u : SX} {v : SY} (I : i_Rel k u v) (hk : k + 4 ≤ 2048) (v1 : Int32) (v2 : Int32) : wpX_observe (fun r u' => wpY_observe (fun r' v' => r' = r ∧ i_Rel (k + 4) u' v') v v1 v2) u v1 v2 := by
  obtain ⟨g, m, D, H, gk, ga, gb, fl, ol, ft, lv, oc, kd, fs, sc, pt, cy, an, va, rfl, rfl, hS⟩ := I
  obtain ⟨hC, hY, hF, hm, hO, hH, hft⟩ := id hS
  have hg : g ≤ 14 := hC.1
  unfold wpX_observe wpY_observe
  dsimp only
  rcases sd_di 128 v1 with hb | ⟨p, hp, rfl⟩
  · refine sx_pat_no hb ?_
    refine br_t rfl ?_
    refine sy_pat_no hb ?_
    exact br_f (by decide) ⟨rfl, sd_mk hS⟩
  refine sx_pat_ok hp ?_
  refine br_f (by decide) ?_
  rcases sd_dc v2 with hb | ⟨c, h1, h4, rfl⟩
  · refine sx_cyc_no hb ?_
    refine br_t rfl ?_
    refine sy_pat_ok hp ?_
    refine br_t rfl ?_
    refine sy_cyc_no hb ?_
    exact br_f (by decide) ⟨rfl, sd_mk hS⟩
  refine sx_cyc_ok h1 h4 ?_
  refine br_f (by decide) ?_
  refine pk_lt m 20 (fun hlt => ?_) (fun hge => ?_)
  · have hin : vp_in (nI m) 20 := vp_in_nI hlt (by decide)
    have cl : (nI m).toNatClampNeg = m := nI_clamp (by omega)
    refine sx_run hC h1 h4 (fun lv1 => ?_)
    dsimp only
    refine sx_ruleOut hC h1 h4 (fun H' lv2 ft' hH' hft' => ?_)
    dsimp only
    refine nm_r (nI_1 m) ?_
    refine sy_pat_ok hp ?_
    refine br_t rfl ?_
    refine sy_cyc_ok h1 h4 ?_
    refine br_t rfl (br_t (nI_lt (b := 20) hlt (by decide)) ⟨hin, nm_e ⟨hin, nm_e ?_⟩⟩)
    refine sy_run hC hY (sd_ok_of hg hF) hp h1 h4 (fun va' => ?_)
    dsimp only
    rw [cl]
    refine ⟨hin, nm_e (nm_r (nI_1 m) ⟨hin, pk_us, sd_mk ⟨hC, hY, hF, by omega, fun i hi => ?_, ?_, fun f hf => ?_⟩⟩)⟩
    · by_cases q : i = m
      · subst q
        rw [pk_us, pk_us]
        exact ⟨⟨p, hp, rfl⟩, ⟨c, h1, h4, rfl⟩⟩
      · rw [pk_un q, pk_un q]
        exact hO i (by omega)
    · rw [sd_exS h4, hH']
      exact sd_not2 hH
    · rw [sd_exS h4, hft' f hf]
      exact sd_not2 (hft f hf)
  · refine sy_pat_ok hp ?_
    refine br_t rfl ?_
    refine sy_cyc_ok h1 h4 ?_
    exact br_t rfl (br_f (nI_nlt (b := 20) hge (by omega)) ⟨rfl, sd_mk hS⟩)
theorem i_vc_candidates {k : Nat} {u : SX} {v : SY} (I : i_Rel k u v) (hk : k + 4 ≤ 2048) : wpX_candidates (fun r => wpY_candidates (fun r' v' => r' = r ∧ i_Rel (k + 4) u v') v) u := by
  obtain ⟨g, m, D, H, gk, ga, gb, fl, ol, ft, lv, oc, kd, fs, sc, pt, cy, an, va, rfl, rfl, hS⟩ := I
  obtain ⟨hC, hY, hF, hm, hO, hH, hft⟩ := id hS
  exact sx_candidates hC.1 hft (sy_candidates hC hY hm hO (fun va' => ⟨rfl, sd_mk hS⟩))
theorem i_vc_candidate {k : Nat} {u : SX} {v : SY} (I : i_Rel k u v) (hk : k + 4 ≤ 2048) (v1 : Int32) : wpX_candidate (fun r => wpY_candidate (fun r' v' => r' = r ∧ i_Rel (k + 4) u v') v v1) u v1 := by
  obtain ⟨g, m, D, H, gk, ga, gb, fl, ol, ft, lv, oc, kd, fs, sc, pt, cy, an, va, rfl, rfl, hS⟩ := I
  obtain ⟨hC, hY, hF, hm, hO, hH, hft⟩ := id hS
  exact sx_candidate hC.1 hft (sy_candidate hC hY hm hO (fun va' => ⟨rfl, sd_mk hS⟩))
theorem i_vc_healthy {k : Nat} {u : SX} {v : SY} (I : i_Rel k u v) (hk : k + 4 ≤ 2048) : wpX_healthy (fun r => wpY_healthy (fun r' v' => r' = r ∧ i_Rel (k + 4) u v') v) u := by
  obtain ⟨g, m, D, H, gk, ga, gb, fl, ol, ft, lv, oc, kd, fs, sc, pt, cy, an, va, rfl, rfl, hS⟩ := I
  obtain ⟨hC, hY, hF, hm, hO, hH, hft⟩ := id hS
  unfold wpX_healthy wpY_healthy
  dsimp only
  refine br_c (fun e => ?_) (fun e => ?_)
  · exact sy_explains hC hY sd_okm hm hO (fun t va' => absurd t (hH.1 e)) (fun t va' => br_t rfl ⟨rfl, sd_mk hS⟩)
  · exact sy_explains hC hY sd_okm hm hO (fun t va' => br_f (by decide) ⟨rfl, sd_mk hS⟩) (fun t va' => absurd (hH.2 t) e)
theorem i_vc_nextPattern {k : Nat} {u : SX} {v : SY} (I : i_Rel k u v) (hk : k + 4 ≤ 2048) : wpX_nextPattern (fun r u' => wpY_nextPattern (fun r' v' => r' = r ∧ i_Rel (k + 4) u' v') v) u := by
  obtain ⟨g, m, D, H, gk, ga, gb, fl, ol, ft, lv, oc, kd, fs, sc, pt, cy, an, va, rfl, rfl, hS⟩ := I
  obtain ⟨hC, hY, hF, hm, hO, hH, hft⟩ := id hS
  exact sx_nextPattern hC hft (fun lv' => sy_nextPattern hC hY hm hO (fun va' => ⟨rfl, sd_mk hS⟩))
theorem i_vc_detected {k : Nat} {u : SX} {v : SY} (I : i_Rel k u v) (hk : k + 4 ≤ 2048) (v1 : Int32) (v2 : Int32) : wpX_detected (fun r u' => wpY_detected (fun r' v' => r' = r ∧ i_Rel (k + 4) u' v') v v1 v2) u v1 v2 := by
  obtain ⟨g, m, D, H, gk, ga, gb, fl, ol, ft, lv, oc, kd, fs, sc, pt, cy, an, va, rfl, rfl, hS⟩ := I
  obtain ⟨hC, hY, hF, hm, hO, hH, hft⟩ := id hS
  rcases sd_di 128 v1 with hb | ⟨p, hp, rfl⟩
  · unfold wpX_detected wpY_detected
    dsimp only
    refine sx_pat_no hb ?_
    refine br_t rfl ?_
    refine sy_pat_no hb ?_
    exact br_f (by decide) ⟨rfl, sd_mk hS⟩
  rcases sd_dc v2 with hb | ⟨c, h1, h4, rfl⟩
  · unfold wpX_detected wpY_detected
    dsimp only
    refine sx_pat_ok hp ?_
    refine br_f (by decide) ?_
    refine sx_cyc_no hb ?_
    refine br_t rfl ?_
    refine sy_pat_ok hp ?_
    refine br_t rfl ?_
    refine sy_cyc_no hb ?_
    exact br_f (by decide) ⟨rfl, sd_mk hS⟩
  exact sx_detected hC hp h1 h4 (fun lv' => sy_detected hC hY hp h1 h4 (fun va' => ⟨rfl, sd_mk hS⟩))
theorem i_vc_hidden {k : Nat} {u : SX} {v : SY} (I : i_Rel k u v) (hk : k + 4 ≤ 2048) : wpX_hidden (fun r u' => wpY_hidden (fun r' v' => r' = r ∧ i_Rel (k + 4) u' v') v) u := by
  obtain ⟨g, m, D, H, gk, ga, gb, fl, ol, ft, lv, oc, kd, fs, sc, pt, cy, an, va, rfl, rfl, hS⟩ := I
  obtain ⟨hC, hY, hF, hm, hO, hH, hft⟩ := id hS
  exact sx_hidden hC (fun lv' => sy_hidden hC hY (fun va' => ⟨rfl, sd_mk hS⟩))
theorem i_vc_leader {k : Nat} {u : SX} {v : SY} (I : i_Rel k u v) (hk : k + 4 ≤ 2048) (v1 : Int32) : wpX_leader (fun r u' => wpY_leader (fun r' v' => r' = r ∧ i_Rel (k + 4) u' v') v v1) u v1 := by
  obtain ⟨g, m, D, H, gk, ga, gb, fl, ol, ft, lv, oc, kd, fs, sc, pt, cy, an, va, rfl, rfl, hS⟩ := I
  obtain ⟨hC, hY, hF, hm, hO, hH, hft⟩ := id hS
  unfold wpX_leader wpY_leader
  dsimp only
  rcases sd_di (2 * (7 + g)) v1 with hb | ⟨f, hf, rfl⟩
  · refine sx_fault_no hC.1 hb ?_
    refine br_t rfl ?_
    refine sy_fault_no hC.1 hb ?_
    exact br_f (by decide) ⟨rfl, sd_mk hS⟩
  refine sx_fault_ok hC.1 hf ?_
  refine br_f (by decide) ?_
  refine sx_fill hC (fun lv' oc' ho => ?_)
  dsimp only
  refine sx_least hC.1 ho hf ?_
  refine sy_fault_ok hC.1 hf ?_
  refine br_t rfl ?_
  exact sy_earliest hC hY hf (fun va' => ⟨rfl, sd_mk hS⟩)
theorem i_vc_groups {k : Nat} {u : SX} {v : SY} (I : i_Rel k u v) (hk : k + 4 ≤ 2048) : wpX_groups (fun r u' => wpY_groups (fun r' v' => r' = r ∧ i_Rel (k + 4) u' v') v) u := by
  obtain ⟨g, m, D, H, gk, ga, gb, fl, ol, ft, lv, oc, kd, fs, sc, pt, cy, an, va, rfl, rfl, hS⟩ := I
  obtain ⟨hC, hY, hF, hm, hO, hH, hft⟩ := id hS
  unfold wpX_groups
  dsimp only
  refine sx_fill hC (fun lv' oc' ho => ?_)
  exact sx_groupsLoop hC.1 ho (sy_groups hC hY (fun va' => ⟨rfl, sd_mk hS⟩))
theorem i_vc_candidateGroups {k : Nat} {u : SX} {v : SY} (I : i_Rel k u v) (hk : k + 4 ≤ 2048) : wpX_candidateGroups (fun r u' => wpY_candidateGroups (fun r' v' => r' = r ∧ i_Rel (k + 4) u' v') v) u := by
  obtain ⟨g, m, D, H, gk, ga, gb, fl, ol, ft, lv, oc, kd, fs, sc, pt, cy, an, va, rfl, rfl, hS⟩ := I
  obtain ⟨hC, hY, hF, hm, hO, hH, hft⟩ := id hS
  unfold wpX_candidateGroups
  dsimp only
  refine sx_fill hC (fun lv' oc' ho => ?_)
  exact sx_cgLoop hC.1 ho hft (sy_candidateGroups hC hY hm hO (fun va' => ⟨rfl, sd_mk hS⟩))
