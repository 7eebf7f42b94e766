/-! the reference's run against the pure picture -/
theorem sy_gateValue {post : Int32 → Prop} {G Dv M : Int32} {gk ga gb kd fs sc fd ou pt cy an va : Nat → Int32} {l a b : Nat} (hY : sd_Y gk ga gb kd fs sc) (h7 : 7 ≤ l) (hl : l < 21) (ha : a < 21) (hb : b < 21)
    (ea : ga l = nI a) (eb : gb l = nI b) (h : post (sd_gv (gk l) (va a) (va b))) : wpY_gateValue post (G, Dv, M, kd, fs, sc, fd, ou, pt, cy, an, va) (nI l - 7) := by
  have e7 : nI l - 7 = nI (l - 7) := pk_sub (b := 7) h7
  have cl : (nI (l - 7)).toNatClampNeg = l - 7 := nI_clamp (by omega)
  have ca : (nI a).toNatClampNeg = a := nI_clamp (by omega)
  have cb : (nI b).toNatClampNeg = b := nI_clamp (by omega)
  have hin : vp_in (nI (l - 7)) 14 := vp_in_nI (by omega) (by omega)
  have h77 : l - 7 + 7 = l := by omega
  have ek : kd (l - 7) = gk l := by rw [hY.1, h77]
  have ef : fs (l - 7) = nI a := by rw [hY.2.1, h77, ea]
  have es : sc (l - 7) = nI b := by rw [hY.2.2, h77, eb]
  unfold wpY_gateValue
  dsimp only
  rw [e7, cl, ek, ef, es, ca, cb]
  unfold sd_gv at h
  refine ⟨hin, vp_in_nI ha (by omega), nm_e ⟨hin, vp_in_nI hb (by omega), nm_e ⟨hin, br_c (fun c => ?_) (fun c0 => ⟨hin, br_c (fun c => ?_) (fun c1 => ⟨hin, br_c (fun c => ?_) (fun c2 => ⟨hin, br_c (fun c => ?_) (fun c3 => ⟨hin, br_c (fun c => ?_) (fun c4 => ?_)⟩)⟩)⟩)⟩)⟩⟩⟩
  · rw [if_pos c] at h
    exact h
  · rw [if_neg c0, if_pos c] at h
    exact h
  · rw [if_neg c0, if_neg c1, if_pos c] at h
    exact h
  · rw [if_neg c0, if_neg c1, if_neg c2, if_pos c] at h
    exact h
  · rw [if_neg c0, if_neg c1, if_neg c2, if_neg c3, if_pos c] at h
    exact h
  · rw [if_neg c0, if_neg c1, if_neg c2, if_neg c3, if_neg c4] at h
    exact h
theorem sy_s70 {post : SY → Prop} {J3 : Int32 → (Nat → Int32) → (Nat → Int32) → (Nat → Int32) → (Nat → Int32) → (Nat → Int32) → (Nat → Int32) → (Nat → Int32) → (Nat → Int32) → (Nat → Int32) → Prop}
    {G Dv M φ x2 x3 x5 : Int32} {kd fs sc fd ou pt cy an va : Nat → Int32} {i : Nat} (hφ : sd_ok φ) (hi : i < 21)
    (h : J3 (nI (i + 1)) kd fs sc fd ou pt cy an (upd va i (if nI i = φ >>> ((1 : Int32) &&& 31) then φ &&& 1 else x5))) :
    wY_settle_70 post J3 φ x2 x3 (nI i) x5 G Dv M kd fs sc fd ou pt cy an va := by
  have hin : vp_in (nI i) 21 := vp_in_nI hi (by omega)
  have cl : (nI i).toNatClampNeg = i := nI_clamp (by omega)
  unfold wY_settle_70
  rw [cl, nI_1]
  rcases hφ with rfl | ⟨f, hf, rfl⟩
  · rw [if_neg (sd_fm i hi)] at h
    exact br_t (by decide) ⟨hin, nm_e (nm_e h)⟩
  · refine br_f (nI_pos (by omega)) ⟨by decide, br_c (fun c => ?_) (fun c => ?_)⟩
    · rw [sd_f2 f hf] at c
      rw [if_pos c.symm] at h
      exact ⟨by decide, nm_r (sd_f2r f hf) ⟨hin, nm_e (nm_e h)⟩⟩
    · rw [sd_f2 f hf] at c
      rw [if_neg (fun e => c e.symm)] at h
      exact ⟨hin, nm_e (nm_e h)⟩
theorem sy_setLoop {post : SY → Prop} {g a s : Nat} {Dv M φ : Int32} {gk ga gb kd fs sc fl ol pt cy an : Nat → Int32} (hC : sd_C g ga gb fl ol) (hY : sd_Y gk ga gb kd fs sc) (hφ : sd_ok φ) (ha : a < 16) (hs : s < 8)
    (hp : ∀ va', (∀ j, j < 7 + g → va' j = sd_ls gk ga gb φ (nI a ||| (nI s <<< ((4 : Int32) &&& 31))) (7 + g) j) → post (nI g, Dv, M, kd, fs, sc, fl, ol, pt, cy, an, va')) :
    ∀ d i va, i + d = 7 + g → (∀ j, j < i → va j = sd_ls gk ga gb φ (nI a ||| (nI s <<< ((4 : Int32) &&& 31))) i j) →
      wY_settle_3 post φ (nI a) (nI s) (nI g) Dv M (d + 1) (nI i) kd fs sc fl ol pt cy an va := by
  obtain ⟨hg, hC, _⟩ := hC
  intro d
  induction d with
  | zero =>
    intro i va hi h
    obtain rfl : i = 7 + g := by omega
    rw [wY_settle_3]
    unfold wpY_lineCount
    dsimp only
    exact pk_le (7 + g) (7 + g) (fun _ => hp va h) (fun c => absurd c (Nat.lt_irrefl _)) (nI_add 7 g)
  | succ d ih =>
    intro i va hi h
    have hgi := fun h7 => hC i h7 (by omega)
    have key : ∀ x5, x5 = sd_ns gk ga gb (nI a ||| (nI s <<< ((4 : Int32) &&& 31))) va i →
        wY_settle_70 post (wY_settle_3 post φ (nI a) (nI s) (nI g) Dv M (d + 1)) φ (nI a) (nI s) (nI i) x5 (nI g) Dv M kd fs sc fl ol pt cy an va := by
      intro x5 hx
      refine sy_s70 hφ (by omega) (ih (i + 1) _ (by omega) (sd_inv h hgi (by omega) ?_))
      unfold sd_ln
      rw [hx]
    rw [wY_settle_3]
    unfold wpY_lineCount
    dsimp only
    refine pk_le (7 + g) i (fun c => absurd c (by omega)) (fun _ => ?_) (nI_add 7 g)
    refine pk_le 21 i (fun c => absurd c (by omega)) (fun _ => ?_)
    refine pk_le 4 i (fun h4 => pk_le 7 i (fun h7 => ?_) (fun h7 => nm_e (key _ ?_))) (fun h4 => nm_e (key _ ?_))
    · obtain ⟨⟨x, hx, ex⟩, ⟨y, hy, ey⟩⟩ := hgi h7
      refine sy_gateValue hY h7 (by omega) (by omega) (by omega) ex ey (key _ ?_)
      unfold sd_ns
      rw [if_neg (by omega), ex, ey, nI_clamp (by omega), nI_clamp (by omega)]
    · unfold sd_ns
      rw [if_pos h7]
      have e := sd_s7 a ha s hs (i - 4) (by omega)
      rw [show i - 4 + 4 = i from by omega] at e
      exact e.symm
    · unfold sd_ns
      rw [if_pos (by omega)]
      exact (sd_s4 a ha s hs i h4).symm
theorem sy_settle {post : SY → Prop} {g a s : Nat} {Dv M φ : Int32} {gk ga gb kd fs sc fl ol pt cy an va : Nat → Int32} (hC : sd_C g ga gb fl ol) (hY : sd_Y gk ga gb kd fs sc) (hφ : sd_ok φ) (ha : a < 16) (hs : s < 8)
    (hp : ∀ va', (∀ j, j < 7 + g → va' j = sd_ls gk ga gb φ (nI a ||| (nI s <<< ((4 : Int32) &&& 31))) (7 + g) j) → post (nI g, Dv, M, kd, fs, sc, fl, ol, pt, cy, an, va')) :
    wpY_settle post (nI g, Dv, M, kd, fs, sc, fl, ol, pt, cy, an, va) φ (nI a) (nI s) := by
  unfold wpY_settle
  dsimp only
  exact ⟨7 + g + 1, sy_setLoop hC hY hφ ha hs hp (7 + g) 0 va (by omega) (fun j hj => absurd hj (Nat.not_lt_zero j))⟩
theorem sy_runLoop {post : Int32 → SY → Prop} {g c p : Nat} {Dv M φ : Int32} {gk ga gb kd fs sc fl ol pt cy an : Nat → Int32} (hC : sd_C g ga gb fl ol) (hY : sd_Y gk ga gb kd fs sc) (hφ : sd_ok φ) (hp : p < 128) (h1 : 1 ≤ c) (h4 : c ≤ 4)
    (hq : ∀ va', post (sd_run g gk ga gb fl ol φ (nI p) c) (nI g, Dv, M, kd, fs, sc, fl, ol, pt, cy, an, va')) :
    ∀ d i x5 va, i + d = c → (0 < i → x5 = sd_run g gk ga gb fl ol φ (nI p) i) →
      wY_run_11 post φ (nI p) (nI c) (d + 1) (sd_st g gk ga gb fl φ (nI p) i) x5 (nI i) (nI g) Dv M kd fs sc fl ol pt cy an va := by
  have hg : g ≤ 14 := hC.1
  obtain ⟨j0, hj0, e0⟩ := hC.2.2.1 0 (by omega)
  obtain ⟨j1, hj1, e1⟩ := hC.2.2.1 1 (by omega)
  obtain ⟨j2, hj2, e2⟩ := hC.2.2.1 2 (by omega)
  obtain ⟨o0, ho0, q0⟩ := hC.2.2.2 0 (by omega)
  obtain ⟨o1, ho1, q1⟩ := hC.2.2.2 1 (by omega)
  have v0 : vp_in (fl 0) 21 := by rw [e0]; exact vp_in_nI (by omega) (by omega)
  have v1 : vp_in (fl 1) 21 := by rw [e1]; exact vp_in_nI (by omega) (by omega)
  have v2 : vp_in (fl 2) 21 := by rw [e2]; exact vp_in_nI (by omega) (by omega)
  have w0 : vp_in (ol 0) 21 := by rw [q0]; exact vp_in_nI (by omega) (by omega)
  have w1 : vp_in (ol 1) 21 := by rw [q1]; exact vp_in_nI (by omega) (by omega)
  have k0 : (fl 0).toNatClampNeg < 7 + g := by rw [e0, nI_clamp (by omega)]; exact hj0
  have k1 : (fl 1).toNatClampNeg < 7 + g := by rw [e1, nI_clamp (by omega)]; exact hj1
  have k2 : (fl 2).toNatClampNeg < 7 + g := by rw [e2, nI_clamp (by omega)]; exact hj2
  have m0 : (ol 0).toNatClampNeg < 7 + g := by rw [q0, nI_clamp (by omega)]; exact ho0
  have m1 : (ol 1).toNatClampNeg < 7 + g := by rw [q1, nI_clamp (by omega)]; exact ho1
  intro d
  induction d with
  | zero =>
    intro i x5 va hi h
    obtain rfl : i = c := by omega
    have hx := hq va
    rw [← h (by omega)] at hx
    exact br_t (nI_le (by omega) (by omega)) hx
  | succ d ih =>
    intro i x5 va hi h
    obtain ⟨s, hs, es⟩ := sd_stR g gk ga gb fl φ hp i
    have esrc : sd_src (nI p) (sd_st g gk ga gb fl φ (nI p) i) = nI (p % 16) ||| (nI s <<< ((4 : Int32) &&& 31)) := by
      unfold sd_src
      rw [es, sd_p15 p hp]
    refine br_f (nI_ge (by omega) (by omega)) ?_
    rw [sd_p15 p hp, es]
    refine sy_settle hC hY hφ (by omega) hs (fun va' hva => ?_)
    dsimp only
    rw [hva _ k0, hva _ k1, hva _ k2, hva _ m0, hva _ m1, ← esrc]
    obtain ⟨t, ht, et, eu⟩ := sd_fd3 (fl := fl) (sd_b_ls gk ga gb φ (sd_src (nI p) (sd_st g gk ga gb fl φ (nI p) i)) (7 + g))
    have est : sd_st g gk ga gb fl φ (nI p) (i + 1) = nI t := et
    have eo := sd_out3 (ol := ol) ht (sd_b_ls gk ga gb φ (sd_src (nI p) (sd_st g gk ga gb fl φ (nI p) i)) (7 + g))
    refine ⟨v0, v1, v2, nm_r eu ⟨w0, w1, nm_r eo (nm_r (nI_1 i) ?_)⟩⟩
    rw [← est]
    exact ih (i + 1) _ va' (by omega) (fun _ => rfl)
theorem sy_run {post : Int32 → SY → Prop} {g c p : Nat} {Dv M φ : Int32} {gk ga gb kd fs sc fl ol pt cy an va : Nat → Int32} (hC : sd_C g ga gb fl ol) (hY : sd_Y gk ga gb kd fs sc) (hφ : sd_ok φ) (hp : p < 128) (h1 : 1 ≤ c) (h4 : c ≤ 4)
    (hq : ∀ va', post (sd_run g gk ga gb fl ol φ (nI p) c) (nI g, Dv, M, kd, fs, sc, fl, ol, pt, cy, an, va')) :
    wpY_run post (nI g, Dv, M, kd, fs, sc, fl, ol, pt, cy, an, va) φ (nI p) (nI c) := by
  unfold wpY_run
  dsimp only
  exact nm_e ⟨c + 1, sy_runLoop hC hY hφ hp h1 h4 hq c 0 0 va (by omega) (fun h => absurd h (Nat.lt_irrefl 0))⟩
