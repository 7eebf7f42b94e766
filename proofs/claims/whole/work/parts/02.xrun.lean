/-! the class's run against the pure picture -/
theorem sx_sw {post : Int32 → Prop} {k a b : Int32} (h : post (sd_gv k a b)) :
    (k < 0 → post (1 - a)) ∧ (¬ k < 0 → ((4 < k → post (1 - a)) ∧ (¬ 4 < k → ((k = 0 → post (a &&& b)) ∧ (¬ k = 0 → ((k = 1 → post (a ||| b)) ∧ (¬ k = 1 → ((k = 2 → post (a ^^^ b)) ∧ (¬ k = 2 → ((k = 3 → post (1 - (a &&& b))) ∧ (¬ k = 3 → ((k = 4 → post (1 - (a ||| b))) ∧ (¬ k = 4 → True))))))))))))) := by
  unfold sd_gv at h
  refine br_c (fun c => ?_) (fun _ => br_c (fun c => ?_) (fun _ => br_c (fun c => ?_) (fun c0 => br_c (fun c => ?_) (fun c1 => br_c (fun c => ?_) (fun c2 => br_c (fun c => ?_) (fun c3 => br_c (fun c => ?_) (fun _ => trivial)))))))
  · have n0 : ¬ k = 0 := fun e => absurd (e ▸ c) (by decide)
    have n1 : ¬ k = 1 := fun e => absurd (e ▸ c) (by decide)
    have n2 : ¬ k = 2 := fun e => absurd (e ▸ c) (by decide)
    have n3 : ¬ k = 3 := fun e => absurd (e ▸ c) (by decide)
    have n4 : ¬ k = 4 := fun e => absurd (e ▸ c) (by decide)
    rw [if_neg n0, if_neg n1, if_neg n2, if_neg n3, if_neg n4] at h
    exact h
  · have n0 : ¬ k = 0 := fun e => absurd (e ▸ c) (by decide)
    have n1 : ¬ k = 1 := fun e => absurd (e ▸ c) (by decide)
    have n2 : ¬ k = 2 := fun e => absurd (e ▸ c) (by decide)
    have n3 : ¬ k = 3 := fun e => absurd (e ▸ c) (by decide)
    have n4 : ¬ k = 4 := fun e => absurd (e ▸ c) (by decide)
    rw [if_neg n0, if_neg n1, if_neg n2, if_neg n3, if_neg n4] at h
    exact h
  · rw [if_pos c] at h
    exact h
  · rw [if_neg c0, if_pos c] at h
    exact h
  · rw [if_neg c0, if_neg c1, if_pos c] at h
    exact h
  · rw [if_neg c0, if_neg c1, if_neg c2, if_pos c] at h
    exact h
  · rw [if_neg c0, if_neg c1, if_neg c2, if_neg c3, if_pos c] at h
    exact h
theorem sx_gateValue {post : Int32 → Prop} {L D H N : Int32} {gk ga gb fl ol ft lv oc : Nat → Int32} {l a b : Nat} (hl : l < 21) (ha : a < 21) (hb : b < 21)
    (ea : ga l = nI a) (eb : gb l = nI b) (h : post (sd_gv (gk l) (lv a) (lv b))) : wpX_gateValue post (L, D, H, N, gk, ga, gb, fl, ol, ft, lv, oc) (nI l) := by
  have cl : (nI l).toNatClampNeg = l := nI_clamp (by omega)
  have ca : (nI a).toNatClampNeg = a := nI_clamp (by omega)
  have cb : (nI b).toNatClampNeg = b := nI_clamp (by omega)
  have hin : vp_in (nI l) 21 := vp_in_nI hl (by omega)
  unfold wpX_gateValue
  dsimp only
  rw [cl, ea, eb, ca, cb]
  exact ⟨hin, vp_in_nI ha (by omega), nm_e ⟨hin, vp_in_nI hb (by omega), nm_e ⟨hin, nm_e (sx_sw h)⟩⟩⟩
theorem sx_setLoop {post : SX → Prop} {g : Nat} {D H N φ src : Int32} {gk ga gb fl ol ft oc : Nat → Int32} (hC : sd_C g ga gb fl ol)
    (hp : ∀ lv', (∀ j, j < 7 + g → lv' j = sd_ls gk ga gb φ src (7 + g) j) → post (nI (7 + g), D, H, N, gk, ga, gb, fl, ol, ft, lv', oc)) :
    ∀ d i lv, i + d = 7 + g → (∀ j, j < i → lv j = sd_ls gk ga gb φ src i j) →
      wX_setLines_7 post φ src (φ >>> ((1 : Int32) &&& 31)) (nI (7 + g)) D H N (d + 1) (nI i) gk ga gb fl ol ft lv oc := by
  obtain ⟨hg, hC, _⟩ := hC
  intro d
  induction d with
  | zero =>
    intro i lv hi h
    obtain rfl : i = 7 + g := by omega
    exact br_t (nI_le (by omega) (by omega)) (hp lv h)
  | succ d ih =>
    intro i lv hi h
    have hin : vp_in (nI i) 21 := vp_in_nI (by omega) (by omega)
    have cl : (nI i).toNatClampNeg = i := nI_clamp (by omega)
    have hgi := fun h7 => hC i h7 (by omega)
    have key : ∀ x, x = sd_ln gk ga gb φ src lv i → ∀ lv', lv' = upd lv (nI i).toNatClampNeg x → ∀ y, y = nI i + 1 →
        wX_setLines_7 post φ src (φ >>> ((1 : Int32) &&& 31)) (nI (7 + g)) D H N (d + 1) y gk ga gb fl ol ft lv' oc := by
      intro x hx lv' elv y ey
      rw [elv, ey, nI_1, cl]
      exact ih (i + 1) _ (by omega) (sd_inv h hgi (by omega) hx)
    refine br_f (nI_ge (by omega) (by omega)) ?_
    by_cases c : nI i = φ >>> ((1 : Int32) &&& 31)
    · refine br_t c ⟨hin, fun lv' elv => key _ ?_ lv' elv⟩
      unfold sd_ln
      rw [if_pos c]
    · refine br_f c (pk_le 7 i (fun h7 => ?_) (fun h7 => ?_))
      · obtain ⟨⟨a, ha, ea⟩, ⟨b, hb, eb⟩⟩ := hgi h7
        refine sx_gateValue (by omega) (by omega) (by omega) ea eb ⟨hin, fun lv' elv => key _ ?_ lv' elv⟩
        unfold sd_ln sd_ns
        rw [if_neg c, if_neg (by omega), ea, eb, nI_clamp (by omega), nI_clamp (by omega)]
      · refine ⟨hin, fun lv' elv => key _ ?_ lv' elv⟩
        unfold sd_ln sd_ns
        rw [if_neg c, if_pos h7]
theorem sx_setLines {post : SX → Prop} {g : Nat} {D H N φ src : Int32} {gk ga gb fl ol ft lv oc : Nat → Int32} (hC : sd_C g ga gb fl ol)
    (hp : ∀ lv', (∀ j, j < 7 + g → lv' j = sd_ls gk ga gb φ src (7 + g) j) → post (nI (7 + g), D, H, N, gk, ga, gb, fl, ol, ft, lv', oc)) :
    wpX_setLines post (nI (7 + g), D, H, N, gk, ga, gb, fl, ol, ft, lv, oc) φ src := by
  unfold wpX_setLines
  dsimp only
  exact nm_e ⟨7 + g + 1, sx_setLoop hC hp (7 + g) 0 lv (by omega) (fun j hj => absurd hj (Nat.not_lt_zero j))⟩
theorem sx_fedLoop {post : Int32 → Prop} {L D H N : Int32} {gk ga gb fl ol ft lv oc : Nat → Int32} (hf : ∀ k, k < 3 → ∃ j, j < 21 ∧ fl k = nI j) (h : post (sd_fd fl lv 3)) :
    ∀ d i, i + d = 3 → wX_fedStates_4 post L D H N gk ga gb fl ol ft lv oc (d + 1) (sd_fd fl lv i) (nI i) := by
  intro d
  induction d with
  | zero =>
    intro i hi
    obtain rfl : i = 3 := by omega
    exact br_t (by decide) h
  | succ d ih =>
    intro i hi
    have cl : (nI i).toNatClampNeg = i := nI_clamp (by omega)
    obtain ⟨j, hj, e⟩ := hf i (by omega)
    refine br_f (nI_ge (b := 3) (by omega) (by decide)) ⟨vp_in_nI (by omega) (by omega), ?_, fun x ex y ey => ?_⟩
    · rw [cl, e]
      exact vp_in_nI hj (by omega)
    · rw [ex, ey, nI_1, cl]
      exact ih (i + 1) (by omega)
theorem sx_fed {post : Int32 → Prop} {L D H N : Int32} {gk ga gb fl ol ft lv oc : Nat → Int32} (hf : ∀ k, k < 3 → ∃ j, j < 21 ∧ fl k = nI j) (h : post (sd_fd fl lv 3)) :
    wpX_fedStates post (L, D, H, N, gk, ga, gb, fl, ol, ft, lv, oc) := by
  unfold wpX_fedStates
  dsimp only
  exact ⟨4, sx_fedLoop hf h 3 0 (by omega)⟩
theorem sx_runLoop {post : Int32 → SX → Prop} {g c : Nat} {D H N φ p : Int32} {gk ga gb fl ol ft oc : Nat → Int32} (hC : sd_C g ga gb fl ol) (h1 : 1 ≤ c) (h4 : c ≤ 4)
    (hp : ∀ lv', post (sd_run g gk ga gb fl ol φ p c) (nI (7 + g), D, H, N, gk, ga, gb, fl, ol, ft, lv', oc)) :
    ∀ d i lv, i + d = c → (0 < i → ∀ j, j < 7 + g → lv j = sd_ls gk ga gb φ (sd_src p (sd_st g gk ga gb fl φ p (i - 1))) (7 + g) j) →
      wX_run_14 post φ (nI c) (p &&& 15) (d + 1) (sd_st g gk ga gb fl φ p i) (nI i) (nI (7 + g)) D H N gk ga gb fl ol ft lv oc := by
  have hg : g ≤ 14 := hC.1
  have hf : ∀ k, k < 3 → ∃ j, j < 21 ∧ fl k = nI j := fun k hk => by
    obtain ⟨j, hj, e⟩ := hC.2.2.1 k hk
    exact ⟨j, by omega, e⟩
  intro d
  induction d with
  | zero =>
    intro i lv hi h
    obtain rfl : i = c := by omega
    obtain ⟨a, ha, ea⟩ := hC.2.2.2 0 (by omega)
    obtain ⟨b, hb, eb⟩ := hC.2.2.2 1 (by omega)
    refine br_t (nI_le (by omega) (by omega)) ⟨?_, nm_e ⟨?_, nm_e ?_⟩⟩
    · rw [ea]
      exact vp_in_nI (by omega) (by omega)
    · rw [eb]
      exact vp_in_nI (by omega) (by omega)
    · have e : sd_out ol lv (sd_st g gk ga gb fl φ p i) = sd_run g gk ga gb fl ol φ p i := sd_out_c (L := 7 + g) (by omega) (h (by omega)) hC.2.2.2
      have hq := hp lv
      rw [← e] at hq
      exact hq
  | succ d ih =>
    intro i lv hi h
    refine br_f (nI_ge (by omega) (by omega)) (nm_e ?_)
    refine sx_setLines hC (fun lv' hlv => ?_)
    refine sx_fed hf (nm_r (nI_1 i) ?_)
    have e : sd_fd fl lv' 3 = sd_st g gk ga gb fl φ p (i + 1) := sd_fd_c (L := 7 + g) (by omega) hlv hC.2.2.1 3 (by omega)
    rw [e]
    exact ih (i + 1) lv' (by omega) (fun _ => hlv)
theorem sx_run {post : Int32 → SX → Prop} {g c : Nat} {D H N φ p : Int32} {gk ga gb fl ol ft lv oc : Nat → Int32} (hC : sd_C g ga gb fl ol) (h1 : 1 ≤ c) (h4 : c ≤ 4)
    (hp : ∀ lv', post (sd_run g gk ga gb fl ol φ p c) (nI (7 + g), D, H, N, gk, ga, gb, fl, ol, ft, lv', oc)) :
    wpX_run post (nI (7 + g), D, H, N, gk, ga, gb, fl, ol, ft, lv, oc) φ p (nI c) := by
  unfold wpX_run
  dsimp only
  exact nm_e (nm_e ⟨c + 1, sx_runLoop hC h1 h4 hp c 0 lv (by omega) (fun h => absurd h (Nat.lt_irrefl 0))⟩)
