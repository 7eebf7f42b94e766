/-! the relation -/
def sd_Fo (g : Nat) (D : Int32) : Prop := D = -1 ∨ ∃ f, f < 2 * (7 + g) ∧ D = nI f
def sd_S (g m : Nat) (D H : Int32) (gk ga gb fl ol ft kd fs sc pt cy an : Nat → Int32) : Prop :=
  sd_C g ga gb fl ol ∧ sd_Y gk ga gb kd fs sc ∧ sd_Fo g D ∧ m ≤ 20 ∧ sd_O m pt cy
  ∧ (H = 0 ↔ ¬ sd_ex (sd_run g gk ga gb fl ol) m pt cy an (-1))
  ∧ (∀ f, f < 2 * (7 + g) → (ft f = 0 ↔ ¬ sd_ex (sd_run g gk ga gb fl ol) m pt cy an (nI f)))
/-- the circuits alike, the device alike, as many observations noted, and a fault fits where the noted observations agree with the pure run; scratch arrays are free -/
def i_Rel (k : Nat) (u : SX) (v : SY) : Prop :=
  ∃ (g m : Nat) (D H : Int32) (gk ga gb fl ol ft lv oc kd fs sc pt cy an va : Nat → Int32),
    u = (nI (7 + g), D, H, nI m, gk, ga, gb, fl, ol, ft, lv, oc) ∧ v = (nI g, D, nI m, kd, fs, sc, fl, ol, pt, cy, an, va) ∧
    sd_S g m D H gk ga gb fl ol ft kd fs sc pt cy an
theorem i_up {k : Nat} {u : SX} {v : SY} (h : i_Rel k u v) : i_Rel (k + 4) u v := h
theorem sd_mk {k g m : Nat} {D H : Int32} {gk ga gb fl ol ft lv oc kd fs sc pt cy an va : Nat → Int32} (h : sd_S g m D H gk ga gb fl ol ft kd fs sc pt cy an) :
    i_Rel k (nI (7 + g), D, H, nI m, gk, ga, gb, fl, ol, ft, lv, oc) (nI g, D, nI m, kd, fs, sc, fl, ol, pt, cy, an, va) :=
  ⟨g, m, D, H, gk, ga, gb, fl, ol, ft, lv, oc, kd, fs, sc, pt, cy, an, va, rfl, rfl, h⟩
theorem sd_S0 {g : Nat} {D : Int32} {gk ga gb fl ol ft kd fs sc pt cy an : Nat → Int32} (hC : sd_C g ga gb fl ol) (hY : sd_Y gk ga gb kd fs sc) (hF : sd_Fo g D) (hf : ∀ j, j < 42 → ft j = 1) :
    sd_S g 0 D 1 gk ga gb fl ol ft kd fs sc pt cy an := by
  have hg : g ≤ 14 := hC.1
  have hx : ∀ φ, sd_ex (sd_run g gk ga gb fl ol) 0 pt cy an φ := fun φ i hi => absurd hi (Nat.not_lt_zero i)
  refine ⟨hC, hY, hF, by omega, fun i hi => absurd hi (Nat.not_lt_zero i), ⟨fun e => absurd e (by decide), fun e => absurd (hx (-1)) e⟩, fun f hlt => ?_⟩
  rw [hf f (by omega)]
  exact ⟨fun e => absurd e (by decide), fun e => absurd (hx (nI f)) e⟩
theorem sd_mk0 {k g : Nat} {D : Int32} {gk ga gb fl ol ft lv oc kd fs sc pt cy an va : Nat → Int32} (hC : sd_C g ga gb fl ol) (hY : sd_Y gk ga gb kd fs sc) (hF : sd_Fo g D) (hf : ∀ j, j < 42 → ft j = 1) :
    i_Rel k (nI (7 + g), D, 1, 0, gk, ga, gb, fl, ol, ft, lv, oc) (nI g, D, 0, kd, fs, sc, fl, ol, pt, cy, an, va) :=
  sd_mk (m := 0) (sd_S0 hC hY hF hf)
theorem sd_ok_of {g : Nat} {D : Int32} (hg : g ≤ 14) (h : sd_Fo g D) : sd_ok D := by
  rcases h with h | ⟨f, hf, h⟩
  · exact Or.inl h
  · exact Or.inr ⟨f, by omega, h⟩
/-! the constructors -/
def sd_fi : Nat → Nat → Int32
  | 0 => fun _ => 0
  | k + 1 => upd (sd_fi k) k (4 + nI k)
theorem sx_initLoop {post : SX → Prop} {L D H N : Int32} {gk ga gb ol ft lv oc : Nat → Int32}
    (hp : ∀ ft', (∀ j, j < 42 → ft' j = 1) → post (L, D, 1, 0, gk, ga, gb, sd_fi 3, ol, ft', lv, oc)) :
    ∀ d i, i + d = 3 → wX_init_80 post L D H N (d + 1) (nI i) gk ga gb (sd_fi i) ol ft lv oc := by
  intro d
  induction d with
  | zero =>
    intro i hi
    obtain rfl : i = 3 := by omega
    exact br_t (by decide) (sx_drop hp)
  | succ d ih =>
    intro i hi
    refine br_f (nI_ge (b := 3) (by omega) (by decide)) ⟨vp_in_nI (by omega) (by omega), fun a ea y ey => ?_⟩
    rw [ea, ey, nI_1, nI_clamp (by omega)]
    exact ih (i + 1) (by omega)
theorem sy_initLoop {post : SY → Prop} {G Dv M : Int32} {kd fs sc ou pt cy an va : Nat → Int32} (hp : post (G, Dv, M, kd, fs, sc, sd_fi 3, ou, pt, cy, an, va)) :
    ∀ d i, i + d = 3 → wY_init_81 post G Dv M (d + 1) (nI i) kd fs sc (sd_fi i) ou pt cy an va := by
  intro d
  induction d with
  | zero =>
    intro i hi
    obtain rfl : i = 3 := by omega
    exact br_t (by decide) hp
  | succ d ih =>
    intro i hi
    refine br_f (nI_ge (b := 3) (by omega) (by decide)) ⟨vp_in_nI (by omega) (by omega), fun a ea y ey => ?_⟩
    rw [ea, ey, nI_1, nI_clamp (by omega)]
    exact ih (i + 1) (by omega)
theorem sd_C0 {ga gb : Nat → Int32} : sd_C 0 ga gb (sd_fi 3) (fun _ => 0) := by
  refine ⟨by omega, fun i h1 h2 => absurd h2 (by omega), fun k hk => ?_, fun k _ => ⟨0, by omega, rfl⟩⟩
  rcases (by omega : k = 0 ∨ k = 1 ∨ k = 2) with rfl | rfl | rfl
  · exact ⟨4, by omega, by decide⟩
  · exact ⟨5, by omega, by decide⟩
  · exact ⟨6, by omega, by decide⟩
theorem i_vc0 : wpX_init (fun u => wpY_init (fun v => i_Rel 0 u v)) := by
  unfold wpX_init
  refine ⟨4, sx_initLoop (fun ft' hft => ?_) 3 0 (by omega)⟩
  unfold wpY_init
  refine ⟨4, sy_initLoop ?_ 3 0 (by omega)⟩
  exact sd_mk0 (g := 0) sd_C0 ⟨fun _ => rfl, fun _ => rfl, fun _ => rfl⟩ (Or.inl rfl) hft
/-! gate -/
theorem sd_k6 {A B C : Prop} {x : Int32} (hb : sd_bad 6 x) (h1 : A) (h2 : C) : (x < 0 → A) ∧ (¬ x < 0 → ((x ≤ 5 → B) ∧ (¬ x ≤ 5 → C))) := by
  rcases hb with hb | ⟨j, h3, h4, rfl⟩
  · exact br_t hb h1
  · exact br_f (nI_pos h4) (pk_le j 5 (fun c => absurd c (by omega)) (fun _ => h2))
theorem sd_k6o {A B C : Prop} {j : Nat} (h : j < 6) (hB : B) : (nI j < 0 → A) ∧ (¬ nI j < 0 → ((nI j ≤ 5 → B) ∧ (¬ nI j ≤ 5 → C))) :=
  br_f (nI_pos (by omega)) (pk_le j 5 (fun _ => hB) (fun c => absurd c (by omega)))
theorem sx_g85 {post : Int32 → SX → Prop} {g : Nat} {L D H N z : Int32} {gk ga gb fl ol ft lv oc : Nat → Int32} (hg : g < 14)
    (h : ∀ ft', (∀ j, j < 42 → ft' j = 1) → post (nI (7 + g)) (nI (7 + (g + 1)), D, 1, 0, gk, ga, upd gb (7 + g) z, fl, ol, ft', lv, oc)) :
    wX_gate_85 post (nI (7 + g)) z (nI (7 + g)) L D H N gk ga gb fl ol ft lv oc := by
  unfold wX_gate_85
  rw [nI_clamp (by omega)]
  exact ⟨vp_in_nI (by omega) (by omega), nm_e (nm_r (nI_1 (7 + g)) (sx_drop h))⟩
theorem sx_g35 {post : Int32 → SX → Prop} {g kk : Nat} {D H N x2 x3 z : Int32} {gk ga gb fl ol ft lv oc : Nat → Int32} (hg : g < 14) (hk : kk < 6) (hz : (kk = 5 → z = x2) ∧ (kk ≠ 5 → z = x3))
    (h : ∀ ft', (∀ j, j < 42 → ft' j = 1) → post (nI (7 + g)) (nI (7 + (g + 1)), D, 1, 0, upd gk (7 + g) (nI kk), upd ga (7 + g) x2, upd gb (7 + g) z, fl, ol, ft', lv, oc)) :
    wX_gate_35 post (nI kk) x2 x3 (nI (7 + g)) D H N gk ga gb fl ol ft lv oc := by
  have hin : vp_in (nI (7 + g)) 21 := vp_in_nI (by omega) (by omega)
  unfold wX_gate_35
  rw [nI_clamp (by omega)]
  refine pk_lt (7 + g) 21 (fun _ => ⟨hin, nm_e ⟨hin, nm_e (pk_eq kk 5 (fun c => ?_) (fun c => ?_))⟩⟩) (fun c => absurd c (by omega))
  · rw [← hz.1 c]
    rw [← hz.1 c] at h
    exact sx_g85 hg h
  · rw [← hz.2 c]
    exact sx_g85 hg h
theorem sx_g35n {post : Int32 → SX → Prop} {g : Nat} {D H N x1 x2 x3 : Int32} {gk ga gb fl ol ft lv oc : Nat → Int32} (hg : g = 14)
    (h : post (-3) (nI (7 + g), D, H, N, gk, ga, gb, fl, ol, ft, lv, oc)) : wX_gate_35 post x1 x2 x3 (nI (7 + g)) D H N gk ga gb fl ol ft lv oc := by
  unfold wX_gate_35
  exact pk_lt (7 + g) 21 (fun c => absurd c (by omega)) (fun _ => h)
theorem sy_g83 {post : Int32 → SY → Prop} {g : Nat} {G Dv M z : Int32} {kd fs sc fl ol pt cy an va : Nat → Int32} (hg : g < 14)
    (h : post (7 + nI g) (nI (g + 1), Dv, 0, kd, fs, upd sc g z, fl, ol, pt, cy, an, va)) :
    wY_gate_83 post (nI g) z (nI g) G Dv M kd fs sc fl ol pt cy an va := by
  unfold wY_gate_83
  rw [nI_clamp (by omega)]
  exact ⟨vp_in_nI (by omega) (by omega), nm_e (nm_r (nI_1 g) h)⟩
theorem sy_g35 {post : Int32 → SY → Prop} {g kk : Nat} {Dv M x2 x3 z : Int32} {kd fs sc fl ol pt cy an va : Nat → Int32} (hg : g < 14) (hk : kk < 6) (hz : (kk = 5 → z = x2) ∧ (kk ≠ 5 → z = x3))
    (h : post (7 + nI g) (nI (g + 1), Dv, 0, upd kd g (nI kk), upd fs g x2, upd sc g z, fl, ol, pt, cy, an, va)) :
    wY_gate_35 post (nI kk) x2 x3 (nI g) Dv M kd fs sc fl ol pt cy an va := by
  have hin : vp_in (nI g) 14 := vp_in_nI (by omega) (by omega)
  unfold wY_gate_35
  rw [nI_clamp (by omega)]
  refine pk_lt g 14 (fun _ => ⟨hin, nm_e ⟨hin, nm_e (pk_eq kk 5 (fun c => ?_) (fun c => ?_))⟩⟩) (fun c => absurd c (by omega))
  · rw [← hz.1 c]
    rw [← hz.1 c] at h
    exact sy_g83 hg h
  · rw [← hz.2 c]
    exact sy_g83 hg h
theorem sy_g35n {post : Int32 → SY → Prop} {g : Nat} {Dv M x1 x2 x3 : Int32} {kd fs sc fl ol pt cy an va : Nat → Int32} (hg : g = 14)
    (h : post (-3) (nI g, Dv, M, kd, fs, sc, fl, ol, pt, cy, an, va)) : wY_gate_35 post x1 x2 x3 (nI g) Dv M kd fs sc fl ol pt cy an va := by
  unfold wY_gate_35
  exact pk_lt g 14 (fun c => absurd c (by omega)) (fun _ => h)
theorem sd_uY {g : Nat} {a b : Nat → Int32} {x : Int32} (h : ∀ i, b i = a (i + 7)) : ∀ i, upd b g x i = upd a (7 + g) x (i + 7) := by
  intro i
  by_cases c : i = g
  · subst c
    rw [pk_us, Nat.add_comm i 7, pk_us]
  · rw [pk_un c, pk_un (by omega)]
    exact h i
theorem sd_Cg {g a b : Nat} {ga gb fl ol : Nat → Int32} (hC : sd_C g ga gb fl ol) (hg : g < 14) (ha : a < 7 + g) (hb : b < 7 + g) : sd_C (g + 1) (upd ga (7 + g) (nI a)) (upd gb (7 + g) (nI b)) fl ol := by
  obtain ⟨_, h1, h2, h3⟩ := hC
  refine ⟨by omega, fun i hi1 hi2 => ?_, fun k hk => ?_, fun k hk => ?_⟩
  · by_cases c : i = 7 + g
    · subst c
      rw [pk_us, pk_us]
      exact ⟨⟨a, ha, rfl⟩, ⟨b, hb, rfl⟩⟩
    · rw [pk_un c, pk_un c]
      exact h1 i hi1 (by omega)
  · obtain ⟨j, hj, e⟩ := h2 k hk
    exact ⟨j, by omega, e⟩
  · obtain ⟨j, hj, e⟩ := h3 k hk
    exact ⟨j, by omega, e⟩
theorem sd_Fg {g : Nat} {D : Int32} (h : sd_Fo g D) : sd_Fo (g + 1) D := by
  rcases h with h | ⟨f, hf, h⟩
  · exact Or.inl h
  · exact Or.inr ⟨f, by omega, h⟩
theorem i_vc_gate {k : Nat} {u : SX} {v : SY} (I : i_Rel k u v) (hk : k + 4 ≤ 2048) (v1 : Int32) (v2 : Int32) (v3 : Int32) : wpX_gate (fun r u' => wpY_gate (fun r' v' => r' = r ∧ i_Rel (k + 4) u' v') v v1 v2 v3) u v1 v2 v3 := by
  obtain ⟨g, m, D, H, gk, ga, gb, fl, ol, ft, lv, oc, kd, fs, sc, pt, cy, an, va, rfl, rfl, hS⟩ := I
  obtain ⟨hC, hY, hF, _⟩ := id hS
  have hg : g ≤ 14 := hC.1
  unfold wpX_gate wpY_gate
  dsimp only
  rcases sd_di 6 v1 with hb | ⟨kk, hkk, rfl⟩
  · exact sd_k6 hb (sd_k6 hb ⟨rfl, sd_mk hS⟩ ⟨rfl, sd_mk hS⟩) (sd_k6 hb ⟨rfl, sd_mk hS⟩ ⟨rfl, sd_mk hS⟩)
  refine sd_k6o hkk ?_
  rcases sd_di (7 + g) v2 with hb | ⟨a, ha, rfl⟩
  · refine sx_line_no hb ?_
    refine br_t rfl ?_
    refine sd_k6o hkk ?_
    refine sy_line_no hg hb ?_
    exact br_f (by decide) ⟨rfl, sd_mk hS⟩
  refine sx_line_ok hg ha ?_
  refine br_f (by decide) ?_
  have fin : ∀ z x3 b, z = nI b → b < 7 + g → ((kk = 5 → z = nI a) ∧ (kk ≠ 5 → z = x3)) → ∀ postY : Int32 → SX → Prop,
      (∀ r u', (wY_gate_35 (fun r' v' => r' = r ∧ i_Rel (k + 4) u' v') (nI kk) (nI a) x3 (nI g) D (nI m) kd fs sc fl ol pt cy an va) → postY r u') →
      wX_gate_35 postY (nI kk) (nI a) x3 (nI (7 + g)) D H (nI m) gk ga gb fl ol ft lv oc := by
    intro z x3 b ez hb hz postY hpost
    by_cases c : g = 14
    · exact sx_g35n c (hpost _ _ (sy_g35n c ⟨rfl, sd_mk hS⟩))
    · refine sx_g35 (by omega) hkk hz (fun ft' hft => hpost _ _ (sy_g35 (by omega) hkk hz ⟨nI_add 7 g, ?_⟩))
      rw [ez]
      exact sd_mk0 (sd_Cg hC (by omega) ha hb) ⟨sd_uY hY.1, sd_uY hY.2.1, sd_uY hY.2.2⟩ (sd_Fg hF) hft
  refine pk_eq kk 5 (fun c => ?_) (fun c => ?_)
  · refine fin (nI a) v3 a rfl ha ⟨fun _ => rfl, fun q => absurd c q⟩ _ (fun r u' hr => ?_)
    refine sd_k6o hkk ?_
    refine sy_line_ok hg ha ?_
    exact br_t rfl (pk_eq kk 5 (fun _ => hr) (fun q => absurd c q))
  · rcases sd_di (7 + g) v3 with hb | ⟨b, hb, rfl⟩
    · refine sx_line_no hb ?_
      refine br_t rfl ?_
      refine sd_k6o hkk ?_
      refine sy_line_ok hg ha ?_
      refine br_t rfl (pk_eq kk 5 (fun q => absurd q c) (fun _ => ?_))
      refine sy_line_no hg hb ?_
      exact br_f (by decide) ⟨rfl, sd_mk hS⟩
    · refine sx_line_ok hg hb ?_
      refine br_f (by decide) ?_
      refine fin (nI b) (nI b) b rfl hb ⟨fun q => absurd q c, fun _ => rfl⟩ _ (fun r u' hr => ?_)
      refine sd_k6o hkk ?_
      refine sy_line_ok hg ha ?_
      refine br_t rfl (pk_eq kk 5 (fun q => absurd q c) (fun _ => ?_))
      refine sy_line_ok hg hb ?_
      exact br_t rfl hr
