/-! the other owed statements -/
theorem sd_kx {A B C : Prop} {n : Nat} {x y : Int32} (hy : y = nI n) (hn : n < 2 ^ 31) (hb : sd_bad n x) (h1 : A) (h2 : C) : (x < 0 → A) ∧ (¬ x < 0 → ((x < y → B) ∧ (¬ x < y → C))) := by
  rcases hb with hb | ⟨j, h3, h4, rfl⟩
  · exact br_t hb h1
  · exact br_f (nI_pos h4) (pk_lt j n (fun c => absurd c (by omega)) (fun _ => h2) rfl hy)
theorem sd_kxo {A B C : Prop} {n j : Nat} {y : Int32} (hy : y = nI n) (hn : n < 2 ^ 31) (h : j < n) (hB : B) : (nI j < 0 → A) ∧ (¬ nI j < 0 → ((nI j < y → B) ∧ (¬ nI j < y → C))) :=
  br_f (nI_pos (by omega)) (pk_lt j n (fun _ => hB) (fun c => absurd c (by omega)) rfl hy)
theorem sd_ky {A B C : Prop} {n : Nat} {x y : Int32} (hy : y = nI n) (hn : n < 2 ^ 31) (hb : sd_bad (n + 1) x) (h1 : A) (h2 : C) : (x < 0 → A) ∧ (¬ x < 0 → ((x ≤ y → B) ∧ (¬ x ≤ y → C))) := by
  rcases hb with hb | ⟨j, h3, h4, rfl⟩
  · exact br_t hb h1
  · exact br_f (nI_pos h4) (pk_le j n (fun c => absurd c (by omega)) (fun _ => h2) rfl hy)
theorem sd_kyo {A B C : Prop} {n j : Nat} {y : Int32} (hy : y = nI n) (hn : n < 2 ^ 31) (h : j < n + 1) (hB : B) : (nI j < 0 → A) ∧ (¬ nI j < 0 → ((nI j ≤ y → B) ∧ (¬ nI j ≤ y → C))) :=
  br_f (nI_pos (by omega)) (pk_le j n (fun _ => hB) (fun c => absurd c (by omega)) rfl hy)
theorem sd_ur {n L k l : Nat} {a : Nat → Int32} (h : ∀ i, i < n → ∃ j, j < L ∧ a i = nI j) (hl : l < L) : ∀ i, i < n → ∃ j, j < L ∧ upd a k (nI l) i = nI j := by
  intro i hi
  by_cases c : i = k
  · subst c
    exact ⟨l, hl, pk_us⟩
  · rw [pk_un c]
    exact h i hi
theorem i_vc_feed {k : Nat} {u : SX} {v : SY} (I : i_Rel k u v) (hk : k + 4 ≤ 2048) (v1 : Int32) (v2 : Int32) : wpX_feed (fun r u' => wpY_feed (fun r' v' => r' = r ∧ i_Rel (k + 4) u' v') v v1 v2) u v1 v2 := by
  obtain ⟨g, m, D, H, gk, ga, gb, fl, ol, ft, lv, oc, kd, fs, sc, pt, cy, an, va, rfl, rfl, hS⟩ := I
  obtain ⟨hC, hY, hF, _⟩ := id hS
  have hg : g ≤ 14 := hC.1
  unfold wpX_feed wpY_feed
  dsimp only
  rcases sd_di 3 v1 with hb | ⟨j, hj, rfl⟩
  · exact sd_kx (n := 3) rfl (by decide) hb (sd_ky (n := 2) rfl (by decide) hb ⟨rfl, sd_mk hS⟩ ⟨rfl, sd_mk hS⟩) (sd_ky (n := 2) rfl (by decide) hb ⟨rfl, sd_mk hS⟩ ⟨rfl, sd_mk hS⟩)
  refine sd_kxo (n := 3) rfl (by decide) hj ?_
  rcases sd_di (7 + g) v2 with hb | ⟨l, hl, rfl⟩
  · refine sx_line_no hb ?_
    refine br_t rfl ?_
    refine sd_kyo (n := 2) rfl (by decide) hj ?_
    refine sy_line_no hg hb ?_
    exact br_f (by decide) ⟨rfl, sd_mk hS⟩
  have hin : vp_in (nI j) 3 := vp_in_nI hj (by decide)
  have cl : (nI j).toNatClampNeg = j := nI_clamp (by omega)
  refine sx_line_ok hg hl ?_
  refine br_f (by decide) ⟨hin, nm_e ⟨hin, nm_e ?_⟩⟩
  refine sx_drop (fun ft' hft => ?_)
  dsimp only
  refine sd_kyo (n := 2) rfl (by decide) hj ?_
  refine sy_line_ok hg hl ?_
  refine br_t rfl ⟨hin, nm_e ⟨hin, nm_e ⟨rfl, ?_⟩⟩⟩
  rw [cl]
  exact sd_mk0 ⟨hC.1, hC.2.1, sd_ur hC.2.2.1 hl, hC.2.2.2⟩ hY hF hft
theorem i_vc_output {k : Nat} {u : SX} {v : SY} (I : i_Rel k u v) (hk : k + 4 ≤ 2048) (v1 : Int32) (v2 : Int32) : wpX_output (fun r u' => wpY_output (fun r' v' => r' = r ∧ i_Rel (k + 4) u' v') v v1 v2) u v1 v2 := by
  obtain ⟨g, m, D, H, gk, ga, gb, fl, ol, ft, lv, oc, kd, fs, sc, pt, cy, an, va, rfl, rfl, hS⟩ := I
  obtain ⟨hC, hY, hF, _⟩ := id hS
  have hg : g ≤ 14 := hC.1
  unfold wpX_output wpY_output
  dsimp only
  rcases sd_di 2 v1 with hb | ⟨j, hj, rfl⟩
  · exact sd_kx (n := 2) rfl (by decide) hb (sd_ky (n := 1) rfl (by decide) hb ⟨rfl, sd_mk hS⟩ ⟨rfl, sd_mk hS⟩) (sd_ky (n := 1) rfl (by decide) hb ⟨rfl, sd_mk hS⟩ ⟨rfl, sd_mk hS⟩)
  refine sd_kxo (n := 2) rfl (by decide) hj ?_
  rcases sd_di (7 + g) v2 with hb | ⟨l, hl, rfl⟩
  · refine sx_line_no hb ?_
    refine br_t rfl ?_
    refine sd_kyo (n := 1) rfl (by decide) hj ?_
    refine sy_line_no hg hb ?_
    exact br_f (by decide) ⟨rfl, sd_mk hS⟩
  have hin : vp_in (nI j) 2 := vp_in_nI hj (by decide)
  have cl : (nI j).toNatClampNeg = j := nI_clamp (by omega)
  refine sx_line_ok hg hl ?_
  refine br_f (by decide) ⟨hin, nm_e ⟨hin, nm_e ?_⟩⟩
  refine sx_drop (fun ft' hft => ?_)
  dsimp only
  refine sd_kyo (n := 1) rfl (by decide) hj ?_
  refine sy_line_ok hg hl ?_
  refine br_t rfl ⟨hin, nm_e ⟨hin, nm_e ⟨rfl, ?_⟩⟩⟩
  rw [cl]
  exact sd_mk0 ⟨hC.1, hC.2.1, hC.2.2.1, sd_ur hC.2.2.2 hl⟩ hY hF hft
theorem i_vc_lines {k : Nat} {u : SX} {v : SY} (I : i_Rel k u v) (hk : k + 4 ≤ 2048) : wpX_lines (fun r => wpY_lines (fun r' => r' = r ∧ i_Rel (k + 4) u v) v) u := by
  have J : i_Rel (k + 4) u v := I
  obtain ⟨g, m, D, H, gk, ga, gb, fl, ol, ft, lv, oc, kd, fs, sc, pt, cy, an, va, rfl, rfl, hS⟩ := I
  exact ⟨nI_add 7 g, J⟩
theorem i_vc_inject {k : Nat} {u : SX} {v : SY} (I : i_Rel k u v) (hk : k + 4 ≤ 2048) (v1 : Int32) : wpX_inject (fun r u' => wpY_inject (fun r' v' => r' = r ∧ i_Rel (k + 4) u' v') v v1) u v1 := by
  obtain ⟨g, m, D, H, gk, ga, gb, fl, ol, ft, lv, oc, kd, fs, sc, pt, cy, an, va, rfl, rfl, hS⟩ := I
  obtain ⟨hC, hY, hF, _⟩ := id hS
  have hg : g ≤ 14 := hC.1
  unfold wpX_inject wpY_inject wX_inject_15 wY_inject_15
  dsimp only
  by_cases c : v1 = -1
  · refine br_t c ?_
    refine sx_drop (fun ft' hft => ?_)
    exact br_t c ⟨rfl, sd_mk0 hC hY (Or.inl c) hft⟩
  · refine br_f c ?_
    rcases sd_di (2 * (7 + g)) v1 with hb | ⟨f, hf, rfl⟩
    · refine sx_fault_no hg hb ?_
      refine br_t rfl ?_
      refine br_f c ?_
      refine sy_fault_no hg hb ?_
      exact br_f (by decide) ⟨rfl, sd_mk hS⟩
    · refine sx_fault_ok hg hf ?_
      refine br_f (by decide) ?_
      refine sx_drop (fun ft' hft => ?_)
      refine br_f c ?_
      refine sy_fault_ok hg hf ?_
      exact br_t rfl ⟨rfl, sd_mk0 hC hY (Or.inr ⟨f, hf, rfl⟩) hft⟩
theorem i_vc_forget {k : Nat} {u : SX} {v : SY} (I : i_Rel k u v) (hk : k + 4 ≤ 2048) : wpX_forget (fun r u' => wpY_forget (fun r' v' => r' = r ∧ i_Rel (k + 4) u' v') v) u := by
  obtain ⟨g, m, D, H, gk, ga, gb, fl, ol, ft, lv, oc, kd, fs, sc, pt, cy, an, va, rfl, rfl, hS⟩ := I
  obtain ⟨hC, hY, hF, _⟩ := id hS
  unfold wpX_forget wpY_forget
  dsimp only
  exact sx_drop (fun ft' hft => ⟨rfl, sd_mk0 hC hY hF hft⟩)
theorem i_vc_observations {k : Nat} {u : SX} {v : SY} (I : i_Rel k u v) (hk : k + 4 ≤ 2048) : wpX_observations (fun r => wpY_observations (fun r' => r' = r ∧ i_Rel (k + 4) u v) v) u := by
  have J : i_Rel (k + 4) u v := I
  obtain ⟨g, m, D, H, gk, ga, gb, fl, ol, ft, lv, oc, kd, fs, sc, pt, cy, an, va, rfl, rfl, hS⟩ := I
  exact ⟨rfl, J⟩
theorem i_vc_response {k : Nat} {u : SX} {v : SY} (I : i_Rel k u v) (hk : k + 4 ≤ 2048) (v1 : Int32) (v2 : Int32) : wpX_response (fun r u' => wpY_response (fun r' v' => r' = r ∧ i_Rel (k + 4) u' v') v v1 v2) u v1 v2 := by
  obtain ⟨g, m, D, H, gk, ga, gb, fl, ol, ft, lv, oc, kd, fs, sc, pt, cy, an, va, rfl, rfl, hS⟩ := I
  obtain ⟨hC, hY, hF, _⟩ := id hS
  unfold wpX_response wpY_response
  dsimp only
  rcases sd_di 128 v1 with hb | ⟨p, hp, rfl⟩
  · refine sx_pat_no hb ?_
    refine br_t rfl ?_
    refine sy_pat_no hb ?_
    exact br_f (by decide) ⟨rfl, sd_mk hS⟩
  refine sx_pat_ok hp ?_
  refine br_f (by decide) ?_
  rcases sd_dc v2 with hb | ⟨c, h1, h4, rfl⟩
  · refine sx_cyc_no hb ?_
    refine br_t rfl ?_
    refine sy_pat_ok hp ?_
    refine br_t rfl ?_
    refine sy_cyc_no hb ?_
    exact br_f (by decide) ⟨rfl, sd_mk hS⟩
  refine sx_cyc_ok h1 h4 ?_
  refine br_f (by decide) ?_
  refine sx_run hC h1 h4 (fun lv' => ?_)
  dsimp only
  refine sy_pat_ok hp ?_
  refine br_t rfl ?_
  refine sy_cyc_ok h1 h4 ?_
  refine br_t rfl ?_
  exact sy_run hC hY sd_okm hp h1 h4 (fun va' => ⟨rfl, sd_mk hS⟩)
theorem i_vc_responseWith {k : Nat} {u : SX} {v : SY} (I : i_Rel k u v) (hk : k + 4 ≤ 2048) (v1 : Int32) (v2 : Int32) (v3 : Int32) : wpX_responseWith (fun r u' => wpY_responseWith (fun r' v' => r' = r ∧ i_Rel (k + 4) u' v') v v1 v2 v3) u v1 v2 v3 := by
  obtain ⟨g, m, D, H, gk, ga, gb, fl, ol, ft, lv, oc, kd, fs, sc, pt, cy, an, va, rfl, rfl, hS⟩ := I
  obtain ⟨hC, hY, hF, _⟩ := id hS
  have hg : g ≤ 14 := hC.1
  unfold wpX_responseWith wpY_responseWith
  dsimp only
  rcases sd_di (2 * (7 + g)) v1 with hb | ⟨f, hf, rfl⟩
  · refine sx_fault_no hg hb ?_
    refine br_t rfl ?_
    refine sy_fault_no hg hb ?_
    exact br_f (by decide) ⟨rfl, sd_mk hS⟩
  refine sx_fault_ok hg hf ?_
  refine br_f (by decide) ?_
  rcases sd_di 128 v2 with hb | ⟨p, hp, rfl⟩
  · refine sx_pat_no hb ?_
    refine br_t rfl ?_
    refine sy_fault_ok hg hf ?_
    refine br_t rfl ?_
    refine sy_pat_no hb ?_
    exact br_f (by decide) ⟨rfl, sd_mk hS⟩
  refine sx_pat_ok hp ?_
  refine br_f (by decide) ?_
  rcases sd_dc v3 with hb | ⟨c, h1, h4, rfl⟩
  · refine sx_cyc_no hb ?_
    refine br_t rfl ?_
    refine sy_fault_ok hg hf ?_
    refine br_t rfl ?_
    refine sy_pat_ok hp ?_
    refine br_t rfl ?_
    refine sy_cyc_no hb ?_
    exact br_f (by decide) ⟨rfl, sd_mk hS⟩
  refine sx_cyc_ok h1 h4 ?_
  refine br_f (by decide) ?_
  refine sx_run hC h1 h4 (fun lv' => ?_)
  dsimp only
  refine sy_fault_ok hg hf ?_
  refine br_t rfl ?_
  refine sy_pat_ok hp ?_
  refine br_t rfl ?_
  refine sy_cyc_ok h1 h4 ?_
  refine br_t rfl ?_
  exact sy_run hC hY (sd_okn (by omega)) hp h1 h4 (fun va' => ⟨rfl, sd_mk hS⟩)
