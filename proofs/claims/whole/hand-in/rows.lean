section
theorem pk_us {f : Nat → Int32} {k : Nat} {x : Int32} : upd f k x k = x := if_pos rfl
theorem pk_un {f : Nat → Int32} {k j : Nat} {x : Int32} (h : j ≠ k) : upd f k x j = f j := if_neg h
theorem pk_sub {a b : Nat} (h : b ≤ a) : nI a - nI b = nI (a - b) := by
  obtain ⟨c, rfl⟩ : ∃ c, a = c + b := ⟨a - b, by omega⟩
  rw [← nI_add, Int32.add_sub_cancel, Nat.add_sub_cancel]
theorem pk_mul (a b : Nat) : nI a * nI b = nI (a * b) := (Int32.ofNat_mul a b).symm
theorem pk_le {x y : Int32} {A B : Prop} (a b : Nat) (f : a ≤ b → A) (g : b < a → B) (hx : x = nI a := by rfl) (hy : y = nI b := by rfl) (ha : a < 2 ^ 31 := by omega) (hb : b < 2 ^ 31 := by omega) : (x ≤ y → A) ∧ (¬ x ≤ y → B) := by
  subst hx hy
  rw [nI_leI ha hb]
  exact ⟨f, fun z => g (by omega)⟩
theorem pk_lt {x y : Int32} {A B : Prop} (a b : Nat) (f : a < b → A) (g : b ≤ a → B) (hx : x = nI a := by rfl) (hy : y = nI b := by rfl) (ha : a < 2 ^ 31 := by omega) (hb : b < 2 ^ 31 := by omega) : (x < y → A) ∧ (¬ x < y → B) := by
  subst hx hy
  rw [nI_ltI ha hb]
  exact ⟨f, fun z => g (by omega)⟩
theorem pk_eq {x y : Int32} {A B : Prop} (a b : Nat) (f : a = b → A) (g : a ≠ b → B) (hx : x = nI a := by rfl) (hy : y = nI b := by rfl) (ha : a < 2 ^ 31 := by omega) (hb : b < 2 ^ 31 := by omega) : (x = y → A) ∧ (¬ x = y → B) := by
  subst hx hy
  rw [nI_eq ha hb]
  exact ⟨f, g⟩
theorem pk_tn {n : Nat} (h : n < 2 ^ 32) : (nI n).toBitVec.toNat = n := Nat.mod_eq_of_lt h
theorem pk_and (x : Int32) {m : Int32} (k : Nat) (hm : m.toBitVec.toNat = 2 ^ k - 1) : x &&& m = nI (x.toBitVec.toNat % 2 ^ k) := by
  apply Int32.toBitVec_inj.mp
  apply BitVec.eq_of_toNat_eq
  rw [Int32.toBitVec_and, BitVec.toNat_and, hm, Nat.and_two_pow_sub_one_eq_mod]
  show _ = (BitVec.ofNat 32 _).toNat
  rw [BitVec.toNat_ofNat]
  exact (Nat.mod_eq_of_lt (Nat.lt_of_le_of_lt (Nat.mod_le _ _) x.toBitVec.isLt)).symm
theorem pk_andE (x : Int32) {m : Int32} (k : Nat) (hm : m.toBitVec.toNat = 2 ^ k - 1) : ∃ j : Nat, j < 2 ^ k ∧ x &&& m = nI j := ⟨_, Nat.mod_lt _ (Nat.two_pow_pos k), pk_and x k hm⟩
/-! the pure picture: a gate's value, the lines' values, the states, the response -/
def sd_gv (k a b : Int32) : Int32 :=
  if k = 0 then a &&& b else if k = 1 then a ||| b else if k = 2 then a ^^^ b
  else if k = 3 then 1 - (a &&& b) else if k = 4 then 1 - (a ||| b) else 1 - a
def sd_ns (gk ga gb : Nat → Int32) (src : Int32) (v : Nat → Int32) (l : Nat) : Int32 :=
  if l < 7 then (src >>> (nI l &&& 31)) &&& 1
  else sd_gv (gk l) (v (ga l).toNatClampNeg) (v (gb l).toNatClampNeg)
def sd_ln (gk ga gb : Nat → Int32) (φ src : Int32) (v : Nat → Int32) (l : Nat) : Int32 :=
  if nI l = φ >>> ((1 : Int32) &&& 31) then φ &&& 1 else sd_ns gk ga gb src v l
def sd_ls (gk ga gb : Nat → Int32) (φ src : Int32) : Nat → Nat → Int32
  | 0 => fun _ => 0
  | n + 1 => upd (sd_ls gk ga gb φ src n) n (sd_ln gk ga gb φ src (sd_ls gk ga gb φ src n) n)
def sd_fd (fl v : Nat → Int32) : Nat → Int32
  | 0 => 0
  | k + 1 => sd_fd fl v k ||| ((v (fl k).toNatClampNeg) <<< (nI k &&& 31))
def sd_src (p s : Int32) : Int32 := (p &&& 15) ||| (s <<< ((4 : Int32) &&& 31))
def sd_st (g : Nat) (gk ga gb fl : Nat → Int32) (φ p : Int32) : Nat → Int32
  | 0 => p >>> ((4 : Int32) &&& 31)
  | i + 1 => sd_fd fl (sd_ls gk ga gb φ (sd_src p (sd_st g gk ga gb fl φ p i)) (7 + g)) 3
def sd_out (ol v : Nat → Int32) (s : Int32) : Int32 :=
  (s ||| ((v (ol 0).toNatClampNeg) <<< ((3 : Int32) &&& 31))) ||| ((v (ol 1).toNatClampNeg) <<< ((4 : Int32) &&& 31))
def sd_run (g : Nat) (gk ga gb fl ol : Nat → Int32) (φ p : Int32) (c : Nat) : Int32 :=
  sd_out ol (sd_ls gk ga gb φ (sd_src p (sd_st g gk ga gb fl φ p (c - 1))) (7 + g)) (sd_st g gk ga gb fl φ p c)
/-! what a circuit keeps -/
def sd_C (g : Nat) (ga gb fl ol : Nat → Int32) : Prop :=
  g ≤ 14 ∧ (∀ i, 7 ≤ i → i < 7 + g → (∃ j, j < i ∧ ga i = nI j) ∧ (∃ j, j < i ∧ gb i = nI j))
  ∧ (∀ k, k < 3 → ∃ j, j < 7 + g ∧ fl k = nI j) ∧ (∀ k, k < 2 → ∃ j, j < 7 + g ∧ ol k = nI j)
def sd_Y (gk ga gb kd fs sc : Nat → Int32) : Prop :=
  (∀ i, kd i = gk (i + 7)) ∧ (∀ i, fs i = ga (i + 7)) ∧ (∀ i, sc i = gb (i + 7))
def sd_ok (φ : Int32) : Prop := φ = -1 ∨ ∃ f, f < 42 ∧ φ = nI f
def sd_b (x : Int32) : Prop := x = 0 ∨ x = 1
/-! the loop's step -/
theorem sd_ns_c {gk ga gb : Nat → Int32} {src : Int32} {v w : Nat → Int32} {l : Nat} (h : ∀ j, j < l → v j = w j)
    (hg : 7 ≤ l → (∃ j, j < l ∧ ga l = nI j) ∧ (∃ j, j < l ∧ gb l = nI j)) (hl : l < 100) : sd_ns gk ga gb src v l = sd_ns gk ga gb src w l := by
  unfold sd_ns
  by_cases c : l < 7
  · rw [if_pos c, if_pos c]
  · obtain ⟨⟨a, ha, ea⟩, ⟨b, hb, eb⟩⟩ := hg (by omega)
    rw [if_neg c, if_neg c, ea, eb, nI_clamp (by omega), nI_clamp (by omega), h a ha, h b hb]
theorem sd_ln_c {gk ga gb : Nat → Int32} {φ src : Int32} {v w : Nat → Int32} {l : Nat} (h : sd_ns gk ga gb src v l = sd_ns gk ga gb src w l) : sd_ln gk ga gb φ src v l = sd_ln gk ga gb φ src w l := by
  unfold sd_ln
  rw [h]
theorem sd_inv {gk ga gb : Nat → Int32} {φ src x : Int32} {v : Nat → Int32} {i : Nat} (h : ∀ j, j < i → v j = sd_ls gk ga gb φ src i j)
    (hg : 7 ≤ i → (∃ j, j < i ∧ ga i = nI j) ∧ (∃ j, j < i ∧ gb i = nI j)) (hl : i < 100)
    (hx : x = sd_ln gk ga gb φ src v i) : ∀ j, j < i + 1 → upd v i x j = sd_ls gk ga gb φ src (i + 1) j := by
  intro j hj
  show upd v i x j = upd (sd_ls gk ga gb φ src i) i _ j
  by_cases e : j = i
  · subst e
    rw [pk_us, pk_us, hx]
    exact sd_ln_c (sd_ns_c h hg hl)
  · rw [pk_un e, pk_un e]
    exact h j (by omega)
theorem sd_fd_c {fl v w : Nat → Int32} {L : Nat} (hL : L < 100) (h : ∀ j, j < L → v j = w j) (hf : ∀ k, k < 3 → ∃ j, j < L ∧ fl k = nI j) :
    ∀ k, k ≤ 3 → sd_fd fl v k = sd_fd fl w k := by
  intro k
  induction k with
  | zero => intro _; rfl
  | succ k ih =>
    intro hk
    obtain ⟨j, hj, e⟩ := hf k (by omega)
    show sd_fd fl v k ||| _ = sd_fd fl w k ||| _
    rw [ih (by omega), e, nI_clamp (by omega), h j hj]
theorem sd_out_c {ol v w : Nat → Int32} {s : Int32} {L : Nat} (hL : L < 100) (h : ∀ j, j < L → v j = w j) (hf : ∀ k, k < 2 → ∃ j, j < L ∧ ol k = nI j) :
    sd_out ol v s = sd_out ol w s := by
  obtain ⟨a, ha, ea⟩ := hf 0 (by omega)
  obtain ⟨b, hb, eb⟩ := hf 1 (by omega)
  unfold sd_out
  rw [ea, eb, nI_clamp (by omega), nI_clamp (by omega), h a ha, h b hb]
/-! bits -/
theorem sd_b1 (x : Int32) : sd_b (x &&& 1) := by
  obtain ⟨j, hj, e⟩ := pk_andE x (m := 1) 1 (by decide)
  rw [e]
  rcases (by omega : j = 0 ∨ j = 1) with rfl | rfl
  · exact Or.inl rfl
  · exact Or.inr rfl
theorem sd_b_gv (k : Int32) {a b : Int32} (ha : sd_b a) (hb : sd_b b) : sd_b (sd_gv k a b) := by
  unfold sd_gv
  rcases ha with rfl | rfl <;> rcases hb with rfl | rfl <;> (repeat' split) <;> (first | exact Or.inl (by decide) | exact Or.inr (by decide))
theorem sd_b_ls (gk ga gb : Nat → Int32) (φ src : Int32) : ∀ n j, sd_b (sd_ls gk ga gb φ src n j) := by
  intro n
  induction n with
  | zero => intro j; exact Or.inl rfl
  | succ n ih =>
    intro j
    show sd_b (upd (sd_ls gk ga gb φ src n) n _ j)
    by_cases e : j = n
    · subst e
      rw [pk_us]
      unfold sd_ln sd_ns
      split
      · exact sd_b1 _
      · split
        · exact sd_b1 _
        · exact sd_b_gv _ (ih _) (ih _)
    · rw [pk_un e]
      exact ih j
theorem sd_fd3 {fl v : Nat → Int32} (h : ∀ j, sd_b (v j)) : ∃ s, s < 8 ∧ sd_fd fl v 3 = nI s ∧ (v (fl 0).toNatClampNeg + 2 * v (fl 1).toNatClampNeg) + 4 * v (fl 2).toNatClampNeg = nI s := by
  have e : sd_fd fl v 3 = (((0 : Int32) ||| (v (fl 0).toNatClampNeg <<< (nI 0 &&& 31))) ||| (v (fl 1).toNatClampNeg <<< (nI 1 &&& 31))) ||| (v (fl 2).toNatClampNeg <<< (nI 2 &&& 31)) := rfl
  rw [e]
  rcases h (fl 0).toNatClampNeg with e0 | e0 <;> rcases h (fl 1).toNatClampNeg with e1 | e1 <;> rcases h (fl 2).toNatClampNeg with e2 | e2 <;> rw [e0, e1, e2]
  · exact ⟨0, by decide, by decide, by decide⟩
  · exact ⟨4, by decide, by decide, by decide⟩
  · exact ⟨2, by decide, by decide, by decide⟩
  · exact ⟨6, by decide, by decide, by decide⟩
  · exact ⟨1, by decide, by decide, by decide⟩
  · exact ⟨5, by decide, by decide, by decide⟩
  · exact ⟨3, by decide, by decide, by decide⟩
  · exact ⟨7, by decide, by decide, by decide⟩
theorem sd_o00 : ∀ s, s < 8 → (nI s + 8 * 0) + 16 * 0 = (nI s ||| ((0 : Int32) <<< ((3 : Int32) &&& 31))) ||| ((0 : Int32) <<< ((4 : Int32) &&& 31)) := by decide +kernel
theorem sd_o01 : ∀ s, s < 8 → (nI s + 8 * 0) + 16 * 1 = (nI s ||| ((0 : Int32) <<< ((3 : Int32) &&& 31))) ||| ((1 : Int32) <<< ((4 : Int32) &&& 31)) := by decide +kernel
theorem sd_o10 : ∀ s, s < 8 → (nI s + 8 * 1) + 16 * 0 = (nI s ||| ((1 : Int32) <<< ((3 : Int32) &&& 31))) ||| ((0 : Int32) <<< ((4 : Int32) &&& 31)) := by decide +kernel
theorem sd_o11 : ∀ s, s < 8 → (nI s + 8 * 1) + 16 * 1 = (nI s ||| ((1 : Int32) <<< ((3 : Int32) &&& 31))) ||| ((1 : Int32) <<< ((4 : Int32) &&& 31)) := by decide +kernel
theorem sd_out3 {ol v : Nat → Int32} {s : Nat} (hs : s < 8) (h : ∀ j, sd_b (v j)) : (nI s + 8 * v (ol 0).toNatClampNeg) + 16 * v (ol 1).toNatClampNeg = sd_out ol v (nI s) := by
  unfold sd_out
  rcases h (ol 0).toNatClampNeg with e0 | e0 <;> rcases h (ol 1).toNatClampNeg with e1 | e1 <;> rw [e0, e1]
  · exact sd_o00 s hs
  · exact sd_o01 s hs
  · exact sd_o10 s hs
  · exact sd_o11 s hs
theorem sd_p4 : ∀ p, p < 128 → nI p >>> ((4 : Int32) &&& 31) = nI (p / 16) := by decide +kernel
theorem sd_p15 : ∀ p, p < 128 → nI p &&& 15 = nI (p % 16) := by decide +kernel
theorem sd_stR (g : Nat) (gk ga gb fl : Nat → Int32) (φ : Int32) {p : Nat} (hp : p < 128) : ∀ i, ∃ s, s < 8 ∧ sd_st g gk ga gb fl φ (nI p) i = nI s := by
  intro i
  cases i with
  | zero => exact ⟨p / 16, by omega, sd_p4 p hp⟩
  | succ i =>
    obtain ⟨s, hs, e, _⟩ := sd_fd3 (fl := fl) (sd_b_ls gk ga gb φ (sd_src (nI p) (sd_st g gk ga gb fl φ (nI p) i)) (7 + g))
    exact ⟨s, hs, e⟩
/-! the sources and the fault, as the reference asks them -/
theorem sd_s4 : ∀ a, a < 16 → ∀ s, s < 8 → ∀ l, l < 4 → ((nI a ||| (nI s <<< ((4 : Int32) &&& 31))) >>> (nI l &&& 31)) &&& 1 = (nI a >>> (nI l &&& 31)) &&& 1 := by decide +kernel
theorem sd_s7 : ∀ a, a < 16 → ∀ s, s < 8 → ∀ l, l < 3 → ((nI a ||| (nI s <<< ((4 : Int32) &&& 31))) >>> (nI (l + 4) &&& 31)) &&& 1 = (nI s >>> ((nI (l + 4) - 4) &&& 31)) &&& 1 := by decide +kernel
theorem sd_f2 : ∀ f, f < 42 → nI f / 2 = nI f >>> ((1 : Int32) &&& 31) := by decide +kernel
theorem sd_f2r : ∀ f, f < 42 → nI f - nI f / 2 * 2 = nI f &&& 1 := by decide +kernel
theorem sd_fm : ∀ l, l < 21 → ¬ nI l = (-1) >>> ((1 : Int32) &&& 31) := by decide +kernel
end
section
/-! the class's run against the pure picture -/
theorem sx_sw {post : Int32 → Prop} {k a b : Int32} (h : post (sd_gv k a b)) :
    (k < 0 → post (1 - a)) ∧ (¬ k < 0 → ((4 < k → post (1 - a)) ∧ (¬ 4 < k → ((k = 0 → post (a &&& b)) ∧ (¬ k = 0 → ((k = 1 → post (a ||| b)) ∧ (¬ k = 1 → ((k = 2 → post (a ^^^ b)) ∧ (¬ k = 2 → ((k = 3 → post (1 - (a &&& b))) ∧ (¬ k = 3 → ((k = 4 → post (1 - (a ||| b))) ∧ (¬ k = 4 → True))))))))))))) := by
  unfold sd_gv at h
  refine br_c (fun c => ?_) (fun _ => br_c (fun c => ?_) (fun _ => br_c (fun c => ?_) (fun c0 => br_c (fun c => ?_) (fun c1 => br_c (fun c => ?_) (fun c2 => br_c (fun c => ?_) (fun c3 => br_c (fun c => ?_) (fun _ => trivial)))))))
  · have n0 : ¬ k = 0 := fun e => absurd (e ▸ c) (by decide)
    have n1 : ¬ k = 1 := fun e => absurd (e ▸ c) (by decide)
    have n2 : ¬ k = 2 := fun e => absurd (e ▸ c) (by decide)
    have n3 : ¬ k = 3 := fun e => absurd (e ▸ c) (by decide)
    have n4 : ¬ k = 4 := fun e => absurd (e ▸ c) (by decide)
    rw [if_neg n0, if_neg n1, if_neg n2, if_neg n3, if_neg n4] at h
    exact h
  · have n0 : ¬ k = 0 := fun e => absurd (e ▸ c) (by decide)
    have n1 : ¬ k = 1 := fun e => absurd (e ▸ c) (by decide)
    have n2 : ¬ k = 2 := fun e => absurd (e ▸ c) (by decide)
    have n3 : ¬ k = 3 := fun e => absurd (e ▸ c) (by decide)
    have n4 : ¬ k = 4 := fun e => absurd (e ▸ c) (by decide)
    rw [if_neg n0, if_neg n1, if_neg n2, if_neg n3, if_neg n4] at h
    exact h
  · rw [if_pos c] at h
    exact h
  · rw [if_neg c0, if_pos c] at h
    exact h
  · rw [if_neg c0, if_neg c1, if_pos c] at h
    exact h
  · rw [if_neg c0, if_neg c1, if_neg c2, if_pos c] at h
    exact h
  · rw [if_neg c0, if_neg c1, if_neg c2, if_neg c3, if_pos c] at h
    exact h
theorem sx_gateValue {post : Int32 → Prop} {L D H N : Int32} {gk ga gb fl ol ft lv oc : Nat → Int32} {l a b : Nat} (hl : l < 21) (ha : a < 21) (hb : b < 21)
    (ea : ga l = nI a) (eb : gb l = nI b) (h : post (sd_gv (gk l) (lv a) (lv b))) : wpX_gateValue post (L, D, H, N, gk, ga, gb, fl, ol, ft, lv, oc) (nI l) := by
  have cl : (nI l).toNatClampNeg = l := nI_clamp (by omega)
  have ca : (nI a).toNatClampNeg = a := nI_clamp (by omega)
  have cb : (nI b).toNatClampNeg = b := nI_clamp (by omega)
  have hin : vp_in (nI l) 21 := vp_in_nI hl (by omega)
  unfold wpX_gateValue
  dsimp only
  rw [cl, ea, eb, ca, cb]
  exact ⟨hin, vp_in_nI ha (by omega), nm_e ⟨hin, vp_in_nI hb (by omega), nm_e ⟨hin, nm_e (sx_sw h)⟩⟩⟩
theorem sx_setLoop {post : SX → Prop} {g : Nat} {D H N φ src : Int32} {gk ga gb fl ol ft oc : Nat → Int32} (hC : sd_C g ga gb fl ol)
    (hp : ∀ lv', (∀ j, j < 7 + g → lv' j = sd_ls gk ga gb φ src (7 + g) j) → post (nI (7 + g), D, H, N, gk, ga, gb, fl, ol, ft, lv', oc)) :
    ∀ d i lv, i + d = 7 + g → (∀ j, j < i → lv j = sd_ls gk ga gb φ src i j) →
      wX_setLines_7 post φ src (φ >>> ((1 : Int32) &&& 31)) (nI (7 + g)) D H N (d + 1) (nI i) gk ga gb fl ol ft lv oc := by
  obtain ⟨hg, hC, _⟩ := hC
  intro d
  induction d with
  | zero =>
    intro i lv hi h
    obtain rfl : i = 7 + g := by omega
    exact br_t (nI_le (by omega) (by omega)) (hp lv h)
  | succ d ih =>
    intro i lv hi h
    have hin : vp_in (nI i) 21 := vp_in_nI (by omega) (by omega)
    have cl : (nI i).toNatClampNeg = i := nI_clamp (by omega)
    have hgi := fun h7 => hC i h7 (by omega)
    have key : ∀ x, x = sd_ln gk ga gb φ src lv i → ∀ lv', lv' = upd lv (nI i).toNatClampNeg x → ∀ y, y = nI i + 1 →
        wX_setLines_7 post φ src (φ >>> ((1 : Int32) &&& 31)) (nI (7 + g)) D H N (d + 1) y gk ga gb fl ol ft lv' oc := by
      intro x hx lv' elv y ey
      rw [elv, ey, nI_1, cl]
      exact ih (i + 1) _ (by omega) (sd_inv h hgi (by omega) hx)
    refine br_f (nI_ge (by omega) (by omega)) ?_
    by_cases c : nI i = φ >>> ((1 : Int32) &&& 31)
    · refine br_t c ⟨hin, fun lv' elv => key _ ?_ lv' elv⟩
      unfold sd_ln
      rw [if_pos c]
    · refine br_f c (pk_le 7 i (fun h7 => ?_) (fun h7 => ?_))
      · obtain ⟨⟨a, ha, ea⟩, ⟨b, hb, eb⟩⟩ := hgi h7
        refine sx_gateValue (by omega) (by omega) (by omega) ea eb ⟨hin, fun lv' elv => key _ ?_ lv' elv⟩
        unfold sd_ln sd_ns
        rw [if_neg c, if_neg (by omega), ea, eb, nI_clamp (by omega), nI_clamp (by omega)]
      · refine ⟨hin, fun lv' elv => key _ ?_ lv' elv⟩
        unfold sd_ln sd_ns
        rw [if_neg c, if_pos h7]
theorem sx_setLines {post : SX → Prop} {g : Nat} {D H N φ src : Int32} {gk ga gb fl ol ft lv oc : Nat → Int32} (hC : sd_C g ga gb fl ol)
    (hp : ∀ lv', (∀ j, j < 7 + g → lv' j = sd_ls gk ga gb φ src (7 + g) j) → post (nI (7 + g), D, H, N, gk, ga, gb, fl, ol, ft, lv', oc)) :
    wpX_setLines post (nI (7 + g), D, H, N, gk, ga, gb, fl, ol, ft, lv, oc) φ src := by
  unfold wpX_setLines
  dsimp only
  exact nm_e ⟨7 + g + 1, sx_setLoop hC hp (7 + g) 0 lv (by omega) (fun j hj => absurd hj (Nat.not_lt_zero j))⟩
theorem sx_fedLoop {post : Int32 → Prop} {L D H N : Int32} {gk ga gb fl ol ft lv oc : Nat → Int32} (hf : ∀ k, k < 3 → ∃ j, j < 21 ∧ fl k = nI j) (h : post (sd_fd fl lv 3)) :
    ∀ d i, i + d = 3 → wX_fedStates_4 post L D H N gk ga gb fl ol ft lv oc (d + 1) (sd_fd fl lv i) (nI i) := by
  intro d
  induction d with
  | zero =>
    intro i hi
    obtain rfl : i = 3 := by omega
    exact br_t (by decide) h
  | succ d ih =>
    intro i hi
    have cl : (nI i).toNatClampNeg = i := nI_clamp (by omega)
    obtain ⟨j, hj, e⟩ := hf i (by omega)
    refine br_f (nI_ge (b := 3) (by omega) (by decide)) ⟨vp_in_nI (by omega) (by omega), ?_, fun x ex y ey => ?_⟩
    · rw [cl, e]
      exact vp_in_nI hj (by omega)
    · rw [ex, ey, nI_1, cl]
      exact ih (i + 1) (by omega)
theorem sx_fed {post : Int32 → Prop} {L D H N : Int32} {gk ga gb fl ol ft lv oc : Nat → Int32} (hf : ∀ k, k < 3 → ∃ j, j < 21 ∧ fl k = nI j) (h : post (sd_fd fl lv 3)) :
    wpX_fedStates post (L, D, H, N, gk, ga, gb, fl, ol, ft, lv, oc) := by
  unfold wpX_fedStates
  dsimp only
  exact ⟨4, sx_fedLoop hf h 3 0 (by omega)⟩
theorem sx_runLoop {post : Int32 → SX → Prop} {g c : Nat} {D H N φ p : Int32} {gk ga gb fl ol ft oc : Nat → Int32} (hC : sd_C g ga gb fl ol) (h1 : 1 ≤ c) (h4 : c ≤ 4)
    (hp : ∀ lv', post (sd_run g gk ga gb fl ol φ p c) (nI (7 + g), D, H, N, gk, ga, gb, fl, ol, ft, lv', oc)) :
    ∀ d i lv, i + d = c → (0 < i → ∀ j, j < 7 + g → lv j = sd_ls gk ga gb φ (sd_src p (sd_st g gk ga gb fl φ p (i - 1))) (7 + g) j) →
      wX_run_14 post φ (nI c) (p &&& 15) (d + 1) (sd_st g gk ga gb fl φ p i) (nI i) (nI (7 + g)) D H N gk ga gb fl ol ft lv oc := by
  have hg : g ≤ 14 := hC.1
  have hf : ∀ k, k < 3 → ∃ j, j < 21 ∧ fl k = nI j := fun k hk => by
    obtain ⟨j, hj, e⟩ := hC.2.2.1 k hk
    exact ⟨j, by omega, e⟩
  intro d
  induction d with
  | zero =>
    intro i lv hi h
    obtain rfl : i = c := by omega
    obtain ⟨a, ha, ea⟩ := hC.2.2.2 0 (by omega)
    obtain ⟨b, hb, eb⟩ := hC.2.2.2 1 (by omega)
    refine br_t (nI_le (by omega) (by omega)) ⟨?_, nm_e ⟨?_, nm_e ?_⟩⟩
    · rw [ea]
      exact vp_in_nI (by omega) (by omega)
    · rw [eb]
      exact vp_in_nI (by omega) (by omega)
    · have e : sd_out ol lv (sd_st g gk ga gb fl φ p i) = sd_run g gk ga gb fl ol φ p i := sd_out_c (L := 7 + g) (by omega) (h (by omega)) hC.2.2.2
      have hq := hp lv
      rw [← e] at hq
      exact hq
  | succ d ih =>
    intro i lv hi h
    refine br_f (nI_ge (by omega) (by omega)) (nm_e ?_)
    refine sx_setLines hC (fun lv' hlv => ?_)
    refine sx_fed hf (nm_r (nI_1 i) ?_)
    have e : sd_fd fl lv' 3 = sd_st g gk ga gb fl φ p (i + 1) := sd_fd_c (L := 7 + g) (by omega) hlv hC.2.2.1 3 (by omega)
    rw [e]
    exact ih (i + 1) lv' (by omega) (fun _ => hlv)
theorem sx_run {post : Int32 → SX → Prop} {g c : Nat} {D H N φ p : Int32} {gk ga gb fl ol ft lv oc : Nat → Int32} (hC : sd_C g ga gb fl ol) (h1 : 1 ≤ c) (h4 : c ≤ 4)
    (hp : ∀ lv', post (sd_run g gk ga gb fl ol φ p c) (nI (7 + g), D, H, N, gk, ga, gb, fl, ol, ft, lv', oc)) :
    wpX_run post (nI (7 + g), D, H, N, gk, ga, gb, fl, ol, ft, lv, oc) φ p (nI c) := by
  unfold wpX_run
  dsimp only
  exact nm_e (nm_e ⟨c + 1, sx_runLoop hC h1 h4 hp c 0 lv (by omega) (fun h => absurd h (Nat.lt_irrefl 0))⟩)
end
section
/-! the reference's run against the pure picture -/
theorem sy_gateValue {post : Int32 → Prop} {G Dv M : Int32} {gk ga gb kd fs sc fd ou pt cy an va : Nat → Int32} {l a b : Nat} (hY : sd_Y gk ga gb kd fs sc) (h7 : 7 ≤ l) (hl : l < 21) (ha : a < 21) (hb : b < 21)
    (ea : ga l = nI a) (eb : gb l = nI b) (h : post (sd_gv (gk l) (va a) (va b))) : wpY_gateValue post (G, Dv, M, kd, fs, sc, fd, ou, pt, cy, an, va) (nI l - 7) := by
  have e7 : nI l - 7 = nI (l - 7) := pk_sub (b := 7) h7
  have cl : (nI (l - 7)).toNatClampNeg = l - 7 := nI_clamp (by omega)
  have ca : (nI a).toNatClampNeg = a := nI_clamp (by omega)
  have cb : (nI b).toNatClampNeg = b := nI_clamp (by omega)
  have hin : vp_in (nI (l - 7)) 14 := vp_in_nI (by omega) (by omega)
  have h77 : l - 7 + 7 = l := by omega
  have ek : kd (l - 7) = gk l := by rw [hY.1, h77]
  have ef : fs (l - 7) = nI a := by rw [hY.2.1, h77, ea]
  have es : sc (l - 7) = nI b := by rw [hY.2.2, h77, eb]
  unfold wpY_gateValue
  dsimp only
  rw [e7, cl, ek, ef, es, ca, cb]
  unfold sd_gv at h
  refine ⟨hin, vp_in_nI ha (by omega), nm_e ⟨hin, vp_in_nI hb (by omega), nm_e ⟨hin, br_c (fun c => ?_) (fun c0 => ⟨hin, br_c (fun c => ?_) (fun c1 => ⟨hin, br_c (fun c => ?_) (fun c2 => ⟨hin, br_c (fun c => ?_) (fun c3 => ⟨hin, br_c (fun c => ?_) (fun c4 => ?_)⟩)⟩)⟩)⟩)⟩⟩⟩
  · rw [if_pos c] at h
    exact h
  · rw [if_neg c0, if_pos c] at h
    exact h
  · rw [if_neg c0, if_neg c1, if_pos c] at h
    exact h
  · rw [if_neg c0, if_neg c1, if_neg c2, if_pos c] at h
    exact h
  · rw [if_neg c0, if_neg c1, if_neg c2, if_neg c3, if_pos c] at h
    exact h
  · rw [if_neg c0, if_neg c1, if_neg c2, if_neg c3, if_neg c4] at h
    exact h
theorem sy_s70 {post : SY → Prop} {J3 : Int32 → (Nat → Int32) → (Nat → Int32) → (Nat → Int32) → (Nat → Int32) → (Nat → Int32) → (Nat → Int32) → (Nat → Int32) → (Nat → Int32) → (Nat → Int32) → Prop}
    {G Dv M φ x2 x3 x5 : Int32} {kd fs sc fd ou pt cy an va : Nat → Int32} {i : Nat} (hφ : sd_ok φ) (hi : i < 21)
    (h : J3 (nI (i + 1)) kd fs sc fd ou pt cy an (upd va i (if nI i = φ >>> ((1 : Int32) &&& 31) then φ &&& 1 else x5))) :
    wY_settle_70 post J3 φ x2 x3 (nI i) x5 G Dv M kd fs sc fd ou pt cy an va := by
  have hin : vp_in (nI i) 21 := vp_in_nI hi (by omega)
  have cl : (nI i).toNatClampNeg = i := nI_clamp (by omega)
  unfold wY_settle_70
  rw [cl, nI_1]
  rcases hφ with rfl | ⟨f, hf, rfl⟩
  · rw [if_neg (sd_fm i hi)] at h
    exact br_t (by decide) ⟨hin, nm_e (nm_e h)⟩
  · refine br_f (nI_pos (by omega)) ⟨by decide, br_c (fun c => ?_) (fun c => ?_)⟩
    · rw [sd_f2 f hf] at c
      rw [if_pos c.symm] at h
      exact ⟨by decide, nm_r (sd_f2r f hf) ⟨hin, nm_e (nm_e h)⟩⟩
    · rw [sd_f2 f hf] at c
      rw [if_neg (fun e => c e.symm)] at h
      exact ⟨hin, nm_e (nm_e h)⟩
theorem sy_setLoop {post : SY → Prop} {g a s : Nat} {Dv M φ : Int32} {gk ga gb kd fs sc fl ol pt cy an : Nat → Int32} (hC : sd_C g ga gb fl ol) (hY : sd_Y gk ga gb kd fs sc) (hφ : sd_ok φ) (ha : a < 16) (hs : s < 8)
    (hp : ∀ va', (∀ j, j < 7 + g → va' j = sd_ls gk ga gb φ (nI a ||| (nI s <<< ((4 : Int32) &&& 31))) (7 + g) j) → post (nI g, Dv, M, kd, fs, sc, fl, ol, pt, cy, an, va')) :
    ∀ d i va, i + d = 7 + g → (∀ j, j < i → va j = sd_ls gk ga gb φ (nI a ||| (nI s <<< ((4 : Int32) &&& 31))) i j) →
      wY_settle_3 post φ (nI a) (nI s) (nI g) Dv M (d + 1) (nI i) kd fs sc fl ol pt cy an va := by
  obtain ⟨hg, hC, _⟩ := hC
  intro d
  induction d with
  | zero =>
    intro i va hi h
    obtain rfl : i = 7 + g := by omega
    rw [wY_settle_3]
    unfold wpY_lineCount
    dsimp only
    exact pk_le (7 + g) (7 + g) (fun _ => hp va h) (fun c => absurd c (Nat.lt_irrefl _)) (nI_add 7 g)
  | succ d ih =>
    intro i va hi h
    have hgi := fun h7 => hC i h7 (by omega)
    have key : ∀ x5, x5 = sd_ns gk ga gb (nI a ||| (nI s <<< ((4 : Int32) &&& 31))) va i →
        wY_settle_70 post (wY_settle_3 post φ (nI a) (nI s) (nI g) Dv M (d + 1)) φ (nI a) (nI s) (nI i) x5 (nI g) Dv M kd fs sc fl ol pt cy an va := by
      intro x5 hx
      refine sy_s70 hφ (by omega) (ih (i + 1) _ (by omega) (sd_inv h hgi (by omega) ?_))
      unfold sd_ln
      rw [hx]
    rw [wY_settle_3]
    unfold wpY_lineCount
    dsimp only
    refine pk_le (7 + g) i (fun c => absurd c (by omega)) (fun _ => ?_) (nI_add 7 g)
    refine pk_le 21 i (fun c => absurd c (by omega)) (fun _ => ?_)
    refine pk_le 4 i (fun h4 => pk_le 7 i (fun h7 => ?_) (fun h7 => nm_e (key _ ?_))) (fun h4 => nm_e (key _ ?_))
    · obtain ⟨⟨x, hx, ex⟩, ⟨y, hy, ey⟩⟩ := hgi h7
      refine sy_gateValue hY h7 (by omega) (by omega) (by omega) ex ey (key _ ?_)
      unfold sd_ns
      rw [if_neg (by omega), ex, ey, nI_clamp (by omega), nI_clamp (by omega)]
    · unfold sd_ns
      rw [if_pos h7]
      have e := sd_s7 a ha s hs (i - 4) (by omega)
      rw [show i - 4 + 4 = i from by omega] at e
      exact e.symm
    · unfold sd_ns
      rw [if_pos (by omega)]
      exact (sd_s4 a ha s hs i h4).symm
theorem sy_settle {post : SY → Prop} {g a s : Nat} {Dv M φ : Int32} {gk ga gb kd fs sc fl ol pt cy an va : Nat → Int32} (hC : sd_C g ga gb fl ol) (hY : sd_Y gk ga gb kd fs sc) (hφ : sd_ok φ) (ha : a < 16) (hs : s < 8)
    (hp : ∀ va', (∀ j, j < 7 + g → va' j = sd_ls gk ga gb φ (nI a ||| (nI s <<< ((4 : Int32) &&& 31))) (7 + g) j) → post (nI g, Dv, M, kd, fs, sc, fl, ol, pt, cy, an, va')) :
    wpY_settle post (nI g, Dv, M, kd, fs, sc, fl, ol, pt, cy, an, va) φ (nI a) (nI s) := by
  unfold wpY_settle
  dsimp only
  exact ⟨7 + g + 1, sy_setLoop hC hY hφ ha hs hp (7 + g) 0 va (by omega) (fun j hj => absurd hj (Nat.not_lt_zero j))⟩
theorem sy_runLoop {post : Int32 → SY → Prop} {g c p : Nat} {Dv M φ : Int32} {gk ga gb kd fs sc fl ol pt cy an : Nat → Int32} (hC : sd_C g ga gb fl ol) (hY : sd_Y gk ga gb kd fs sc) (hφ : sd_ok φ) (hp : p < 128) (h1 : 1 ≤ c) (h4 : c ≤ 4)
    (hq : ∀ va', post (sd_run g gk ga gb fl ol φ (nI p) c) (nI g, Dv, M, kd, fs, sc, fl, ol, pt, cy, an, va')) :
    ∀ d i x5 va, i + d = c → (0 < i → x5 = sd_run g gk ga gb fl ol φ (nI p) i) →
      wY_run_11 post φ (nI p) (nI c) (d + 1) (sd_st g gk ga gb fl φ (nI p) i) x5 (nI i) (nI g) Dv M kd fs sc fl ol pt cy an va := by
  have hg : g ≤ 14 := hC.1
  obtain ⟨j0, hj0, e0⟩ := hC.2.2.1 0 (by omega)
  obtain ⟨j1, hj1, e1⟩ := hC.2.2.1 1 (by omega)
  obtain ⟨j2, hj2, e2⟩ := hC.2.2.1 2 (by omega)
  obtain ⟨o0, ho0, q0⟩ := hC.2.2.2 0 (by omega)
  obtain ⟨o1, ho1, q1⟩ := hC.2.2.2 1 (by omega)
  have v0 : vp_in (fl 0) 21 := by rw [e0]; exact vp_in_nI (by omega) (by omega)
  have v1 : vp_in (fl 1) 21 := by rw [e1]; exact vp_in_nI (by omega) (by omega)
  have v2 : vp_in (fl 2) 21 := by rw [e2]; exact vp_in_nI (by omega) (by omega)
  have w0 : vp_in (ol 0) 21 := by rw [q0]; exact vp_in_nI (by omega) (by omega)
  have w1 : vp_in (ol 1) 21 := by rw [q1]; exact vp_in_nI (by omega) (by omega)
  have k0 : (fl 0).toNatClampNeg < 7 + g := by rw [e0, nI_clamp (by omega)]; exact hj0
  have k1 : (fl 1).toNatClampNeg < 7 + g := by rw [e1, nI_clamp (by omega)]; exact hj1
  have k2 : (fl 2).toNatClampNeg < 7 + g := by rw [e2, nI_clamp (by omega)]; exact hj2
  have m0 : (ol 0).toNatClampNeg < 7 + g := by rw [q0, nI_clamp (by omega)]; exact ho0
  have m1 : (ol 1).toNatClampNeg < 7 + g := by rw [q1, nI_clamp (by omega)]; exact ho1
  intro d
  induction d with
  | zero =>
    intro i x5 va hi h
    obtain rfl : i = c := by omega
    have hx := hq va
    rw [← h (by omega)] at hx
    exact br_t (nI_le (by omega) (by omega)) hx
  | succ d ih =>
    intro i x5 va hi h
    obtain ⟨s, hs, es⟩ := sd_stR g gk ga gb fl φ hp i
    have esrc : sd_src (nI p) (sd_st g gk ga gb fl φ (nI p) i) = nI (p % 16) ||| (nI s <<< ((4 : Int32) &&& 31)) := by
      unfold sd_src
      rw [es, sd_p15 p hp]
    refine br_f (nI_ge (by omega) (by omega)) ?_
    rw [sd_p15 p hp, es]
    refine sy_settle hC hY hφ (by omega) hs (fun va' hva => ?_)
    dsimp only
    rw [hva _ k0, hva _ k1, hva _ k2, hva _ m0, hva _ m1, ← esrc]
    obtain ⟨t, ht, et, eu⟩ := sd_fd3 (fl := fl) (sd_b_ls gk ga gb φ (sd_src (nI p) (sd_st g gk ga gb fl φ (nI p) i)) (7 + g))
    have est : sd_st g gk ga gb fl φ (nI p) (i + 1) = nI t := et
    have eo := sd_out3 (ol := ol) ht (sd_b_ls gk ga gb φ (sd_src (nI p) (sd_st g gk ga gb fl φ (nI p) i)) (7 + g))
    refine ⟨v0, v1, v2, nm_r eu ⟨w0, w1, nm_r eo (nm_r (nI_1 i) ?_)⟩⟩
    rw [← est]
    exact ih (i + 1) _ va' (by omega) (fun _ => rfl)
theorem sy_run {post : Int32 → SY → Prop} {g c p : Nat} {Dv M φ : Int32} {gk ga gb kd fs sc fl ol pt cy an va : Nat → Int32} (hC : sd_C g ga gb fl ol) (hY : sd_Y gk ga gb kd fs sc) (hφ : sd_ok φ) (hp : p < 128) (h1 : 1 ≤ c) (h4 : c ≤ 4)
    (hq : ∀ va', post (sd_run g gk ga gb fl ol φ (nI p) c) (nI g, Dv, M, kd, fs, sc, fl, ol, pt, cy, an, va')) :
    wpY_run post (nI g, Dv, M, kd, fs, sc, fl, ol, pt, cy, an, va) φ (nI p) (nI c) := by
  unfold wpY_run
  dsimp only
  exact nm_e ⟨c + 1, sy_runLoop hC hY hφ hp h1 h4 hq c 0 0 va (by omega) (fun h => absurd h (Nat.lt_irrefl 0))⟩
end
section
/-! arguments: good or not -/
def sd_bad (n : Nat) (x : Int32) : Prop := x < 0 ∨ ∃ j, n ≤ j ∧ j < 2 ^ 31 ∧ x = nI j
theorem sd_di (n : Nat) (x : Int32) : sd_bad n x ∨ ∃ j, j < n ∧ x = nI j := by
  by_cases h : x < 0
  · exact Or.inl (Or.inl h)
  · obtain ⟨j, hj, rfl⟩ := nI_of h
    by_cases h2 : j < n
    · exact Or.inr ⟨j, h2, rfl⟩
    · exact Or.inl (Or.inr ⟨j, by omega, hj, rfl⟩)
def sd_badc (x : Int32) : Prop := x < 1 ∨ ∃ j, 4 < j ∧ j < 2 ^ 31 ∧ x = nI j
theorem sd_dc (x : Int32) : sd_badc x ∨ ∃ c, 1 ≤ c ∧ c ≤ 4 ∧ x = nI c := by
  by_cases h : x < 0
  · refine Or.inl (Or.inl ?_)
    rw [Int32.lt_iff_toInt_lt] at h ⊢
    have h0 : (0 : Int32).toInt = 0 := by decide
    have h1 : (1 : Int32).toInt = 1 := by decide
    omega
  · obtain ⟨j, hj, rfl⟩ := nI_of h
    by_cases h1 : j < 1
    · exact Or.inl (Or.inl (nI_lt (b := 1) h1 (by decide)))
    · by_cases h4 : j ≤ 4
      · exact Or.inr ⟨j, by omega, h4, rfl⟩
      · exact Or.inl (Or.inr ⟨j, by omega, hj, rfl⟩)
/-! choices and counts -/
noncomputable def sd_if (P : Prop) (a b : Int32) : Int32 := @ite Int32 P (Classical.propDecidable P) a b
theorem sd_ift {P : Prop} {a b : Int32} (h : P) : sd_if P a b = a := @if_pos P (Classical.propDecidable P) h Int32 a b
theorem sd_iff {P : Prop} {a b : Int32} (h : ¬ P) : sd_if P a b = b := @if_neg P (Classical.propDecidable P) h Int32 a b
noncomputable def sd_cnt (P : Nat → Prop) : Nat → Nat → Int32 → Int32
  | 0, _, x => x
  | d + 1, f, x => sd_if (P f) (sd_cnt P d (f + 1) (x + 1)) (sd_cnt P d (f + 1) x)
noncomputable def sd_nth (P : Nat → Prop) (i : Int32) : Nat → Nat → Int32 → Int32
  | 0, _, _ => -1
  | d + 1, f, x => sd_if (P f) (sd_if (x = i) (nI f) (sd_nth P i d (f + 1) (x + 1))) (sd_nth P i d (f + 1) x)
noncomputable def sd_fst (T : Nat → Prop) (z : Int32) : Nat → Nat → Int32
  | 0, _ => z
  | d + 1, p => sd_if (T p) (nI p) (sd_fst T z d (p + 1))
theorem sd_cl {σ : Type} (W : Nat → Int32 → Nat → σ → Prop) (P : Nat → Prop) (E : Nat) (fin : Int32)
    (hx : ∀ n s, W (n + 1) fin E s)
    (hs : ∀ n x f s, f < E → (P f → ∀ s', W n (x + 1) (f + 1) s') → (¬ P f → ∀ s', W n x (f + 1) s') → W (n + 1) x f s) :
    ∀ d f x s, f + d = E → sd_cnt P d f x = fin → W (d + 1) x f s := by
  intro d
  induction d with
  | zero =>
    intro f x s hf h
    obtain rfl : f = E := by omega
    have e : x = fin := h
    rw [e]
    exact hx 0 s
  | succ d ih =>
    intro f x s hf h
    have h' : sd_if (P f) (sd_cnt P d (f + 1) (x + 1)) (sd_cnt P d (f + 1) x) = fin := h
    refine hs (d + 1) x f s (by omega) (fun hP s' => ?_) (fun hP s' => ?_)
    · rw [sd_ift hP] at h'
      exact ih (f + 1) (x + 1) s' (by omega) h'
    · rw [sd_iff hP] at h'
      exact ih (f + 1) x s' (by omega) h'
theorem sd_nl {σ : Type} (W : Nat → Int32 → Nat → σ → Prop) (P : Nat → Prop) (i : Int32) (E : Nat) (post : Int32 → Prop)
    (hx : ∀ n x s, post (-1) → W (n + 1) x E s)
    (hs : ∀ n x f s, f < E → (P f → x = i → ∀ _ : σ, post (nI f)) → (P f → ¬ x = i → ∀ s', W n (x + 1) (f + 1) s') → (¬ P f → ∀ s', W n x (f + 1) s') → W (n + 1) x f s) :
    ∀ d f x s, f + d = E → post (sd_nth P i d f x) → W (d + 1) x f s := by
  intro d
  induction d with
  | zero =>
    intro f x s hf h
    obtain rfl : f = E := by omega
    exact hx 0 x s h
  | succ d ih =>
    intro f x s hf h
    have h' : post (sd_if (P f) (sd_if (x = i) (nI f) (sd_nth P i d (f + 1) (x + 1))) (sd_nth P i d (f + 1) x)) := h
    refine hs (d + 1) x f s (by omega) (fun hP hx _ => ?_) (fun hP hx s' => ?_) (fun hP s' => ?_)
    · rw [sd_ift hP, sd_ift hx] at h'
      exact h'
    · rw [sd_ift hP, sd_iff hx] at h'
      exact ih (f + 1) (x + 1) s' (by omega) h'
    · rw [sd_iff hP] at h'
      exact ih (f + 1) x s' (by omega) h'
theorem sd_fl {σ : Type} (W : Nat → Nat → σ → Prop) (T : Nat → Prop) (z : Int32) (E : Nat) (post : Int32 → σ → Prop)
    (hx : ∀ n s, (∀ s', post z s') → W (n + 1) E s)
    (hs : ∀ n p s, p < E → (T p → ∀ s', post (nI p) s') → (¬ T p → ∀ s', W n (p + 1) s') → W (n + 1) p s) :
    ∀ d p s, p + d = E → (∀ s', post (sd_fst T z d p) s') → W (d + 1) p s := by
  intro d
  induction d with
  | zero =>
    intro p s hp h
    obtain rfl : p = E := by omega
    exact hx 0 s h
  | succ d ih =>
    intro p s hp h
    have h' : ∀ s', post (sd_if (T p) (nI p) (sd_fst T z d (p + 1))) s' := h
    refine hs (d + 1) p s (by omega) (fun hT => ?_) (fun hT s' => ?_)
    · rw [sd_ift hT] at h'
      exact h'
    · rw [sd_iff hT] at h'
      exact ih (p + 1) s' (by omega) h'
/-! alike faults, the noted observations, the scan over the candidates -/
def sd_al (R : Int32 → Int32 → Nat → Int32) (φ ψ : Int32) : Prop := ∀ q, q < 128 → R φ (nI q) 1 = R ψ (nI q) 1
def sd_ex (R : Int32 → Int32 → Nat → Int32) (m : Nat) (pt cy an : Nat → Int32) (φ : Int32) : Prop := ∀ i, i < m → R φ (pt i) (cy i).toNatClampNeg = an i
def sd_T (R : Int32 → Int32 → Nat → Int32) (ex : Int32 → Prop) (p : Int32) : Nat → Nat → Int32 → Prop
  | 0, _, _ => False
  | d + 1, f, x => (ex (nI f) ∧ ((¬ x < 0 ∧ ¬ R (nI f) p 1 = x) ∨ ((x < 0 ∨ R (nI f) p 1 = x) ∧ sd_T R ex p d (f + 1) (R (nI f) p 1)))) ∨ (¬ ex (nI f) ∧ sd_T R ex p d (f + 1) x)
noncomputable def sd_er (R : Int32 → Int32 → Nat → Int32) (f : Nat) : Int32 := sd_fst (fun i => sd_al R (nI i) (nI f)) (nI f) f 0
def sd_po (R : Int32 → Int32 → Nat → Int32) (ex : Int32 → Prop) (E f : Nat) : Prop := ∃ h, f ≤ h ∧ h < E ∧ ex (nI h) ∧ sd_al R (nI f) (nI h)
theorem sd_Tl {σ : Type} (W : Nat → Int32 → Nat → σ → Prop) (R : Int32 → Int32 → Nat → Int32) (ex : Int32 → Prop) (p : Int32) (E : Nat) (Q1 Q0 : Prop)
    (hx : ∀ n x s, Q0 → W (n + 1) x E s)
    (hs : ∀ n x f s, f < E → (¬ ex (nI f) → ∀ s', W n x (f + 1) s') → (ex (nI f) → ¬ x < 0 → ¬ R (nI f) p 1 = x → Q1) →
      (ex (nI f) → (x < 0 ∨ R (nI f) p 1 = x) → ∀ s', W n (R (nI f) p 1) (f + 1) s') → W (n + 1) x f s) :
    ∀ d f x s, f + d = E → (sd_T R ex p d f x → Q1) → (¬ sd_T R ex p d f x → Q0) → W (d + 1) x f s := by
  intro d
  induction d with
  | zero =>
    intro f x s hf h1 h0
    obtain rfl : f = E := by omega
    exact hx 0 x s (h0 (fun h => h))
  | succ d ih =>
    intro f x s hf h1 h0
    refine hs (d + 1) x f s (by omega) (fun he s' => ?_) (fun he hn hr => ?_) (fun he hr s' => ?_)
    · refine ih (f + 1) x s' (by omega) (fun h => h1 (Or.inr ⟨he, h⟩)) (fun h => h0 ?_)
      rintro (⟨a, _⟩ | ⟨_, b⟩)
      · exact he a
      · exact h b
    · exact h1 (Or.inl ⟨he, Or.inl ⟨hn, hr⟩⟩)
    · refine ih (f + 1) _ s' (by omega) (fun h => h1 (Or.inl ⟨he, Or.inr ⟨hr, h⟩⟩)) (fun h => h0 ?_)
      rintro (⟨_, (⟨a, b⟩ | ⟨_, b⟩)⟩ | ⟨a, _⟩)
      · rcases hr with hr | hr
        · exact a hr
        · exact b hr
      · exact h b
      · exact a he
/-! the scan of a least one over naturals, with yes and no -/
theorem sd_yl {σ : Type} (W : Nat → Nat → σ → Prop) (P : Nat → Prop) (E b : Nat) (Q1 Q0 : Prop)
    (hx : ∀ n s, Q0 → W (n + 1) E s)
    (hs : ∀ n p s, b ≤ p → p < E → (P p → ∀ s', W n (p + 1) s') → (¬ P p → Q1) → W (n + 1) p s)
    (h0 : (∀ p, b ≤ p → p < E → P p) → Q0) (h1 : ¬ (∀ p, b ≤ p → p < E → P p) → Q1) :
    ∀ d p s, p + d = E → b ≤ p → (∀ q, b ≤ q → q < p → P q) → W (d + 1) p s := by
  intro d
  induction d with
  | zero =>
    intro p s hp hb h
    obtain rfl : p = E := by omega
    exact hx 0 s (h0 h)
  | succ d ih =>
    intro p s hp hb h
    refine hs (d + 1) p s hb (by omega) (fun hP s' => ?_) (fun hP => ?_)
    · refine ih (p + 1) s' (by omega) (by omega) (fun q hbq hq => ?_)
      rcases (by omega : q < p ∨ q = p) with c | rfl
      · exact h q hbq c
      · exact hP
    · exact h1 (fun a => hP (a p hb (by omega)))
end
section
/-! the class's other methods -/
section
variable {g : Nat} {D H N : Int32} {gk ga gb fl ol ft lv oc : Nat → Int32}
theorem sx_line_ok {post : Int32 → Prop} {l : Nat} (hg : g ≤ 14) (hl : l < 7 + g) (h : post 1) : wpX_isLine post (nI (7 + g), D, H, N, gk, ga, gb, fl, ol, ft, lv, oc) (nI l) :=
  br_f (nI_pos (by omega)) (br_f (nI_ge hl (by omega)) h)
theorem sx_line_no {post : Int32 → Prop} {x : Int32} (hb : sd_bad (7 + g) x) (h : post 0) : wpX_isLine post (nI (7 + g), D, H, N, gk, ga, gb, fl, ol, ft, lv, oc) x := by
  rcases hb with hb | ⟨j, h1, h2, rfl⟩
  · exact br_t hb h
  · exact br_f (nI_pos h2) (br_t (nI_le h1 h2) h)
theorem sx_fault_ok {post : Int32 → Prop} {f : Nat} (hg : g ≤ 14) (hf : f < 2 * (7 + g)) (h : post 1) : wpX_isFault post (nI (7 + g), D, H, N, gk, ga, gb, fl, ol, ft, lv, oc) (nI f) :=
  br_f (nI_pos (by omega)) (pk_le (2 * (7 + g)) f (fun c => absurd c (by omega)) (fun _ => h) (pk_mul 2 (7 + g)))
theorem sx_fault_no {post : Int32 → Prop} {x : Int32} (hg : g ≤ 14) (hb : sd_bad (2 * (7 + g)) x) (h : post 0) : wpX_isFault post (nI (7 + g), D, H, N, gk, ga, gb, fl, ol, ft, lv, oc) x := by
  rcases hb with hb | ⟨j, h1, h2, rfl⟩
  · exact br_t hb h
  · exact br_f (nI_pos h2) (pk_le (2 * (7 + g)) j (fun _ => h) (fun c => absurd c (by omega)) (pk_mul 2 (7 + g)))
theorem sx_pat_ok {post : Int32 → Prop} {L : Int32} {p : Nat} (hp : p < 128) (h : post 1) : wpX_isPattern post (L, D, H, N, gk, ga, gb, fl, ol, ft, lv, oc) (nI p) :=
  br_f (nI_pos (by omega)) (br_f (nI_ge (b := 128) hp (by decide)) h)
theorem sx_pat_no {post : Int32 → Prop} {L : Int32} {x : Int32} (hb : sd_bad 128 x) (h : post 0) : wpX_isPattern post (L, D, H, N, gk, ga, gb, fl, ol, ft, lv, oc) x := by
  rcases hb with hb | ⟨j, h1, h2, rfl⟩
  · exact br_t hb h
  · exact br_f (nI_pos h2) (br_t (nI_le (a := 128) h1 h2) h)
theorem sx_cyc_ok {post : Int32 → Prop} {L : Int32} {c : Nat} (h1 : 1 ≤ c) (h4 : c ≤ 4) (h : post 1) : wpX_isCycles post (L, D, H, N, gk, ga, gb, fl, ol, ft, lv, oc) (nI c) :=
  pk_lt c 1 (fun e => absurd e (by omega)) (fun _ => pk_lt 4 c (fun e => absurd e (by omega)) (fun _ => h))
theorem sx_cyc_no {post : Int32 → Prop} {L : Int32} {x : Int32} (hb : sd_badc x) (h : post 0) : wpX_isCycles post (L, D, H, N, gk, ga, gb, fl, ol, ft, lv, oc) x := by
  rcases hb with hb | ⟨j, h1, h2, rfl⟩
  · exact br_t hb h
  · exact pk_lt j 1 (fun e => absurd e (by omega)) (fun _ => pk_lt 4 j (fun _ => h) (fun e => absurd e (by omega)))
theorem sd_n1 : vp_nar .boolean 1 = 1 := by rfl
theorem sd_n0 : vp_nar .boolean 0 = 0 := by rfl
theorem sx_dropLoop {post : SX → Prop} {L D H N : Int32} {gk ga gb fl ol lv oc : Nat → Int32}
    (hp : ∀ ft', (∀ j, j < 42 → ft' j = 1) → post (L, D, H, N, gk, ga, gb, fl, ol, ft', lv, oc)) :
    ∀ d i ft, i + d = 42 → (∀ j, j < i → ft j = 1) → wX_dropObservations_12 post L D H N (d + 1) (nI i) gk ga gb fl ol ft lv oc := by
  intro d
  induction d with
  | zero =>
    intro i ft hi h
    obtain rfl : i = 42 := by omega
    exact br_t (by decide) (hp ft h)
  | succ d ih =>
    intro i ft hi h
    refine br_f (nI_ge (b := 42) (by omega) (by decide)) ⟨vp_in_nI (by omega) (by omega), fun ft' e y ey => ?_⟩
    rw [e, ey, nI_1, nI_clamp (by omega), sd_n1]
    refine ih (i + 1) _ (by omega) (fun j hj => ?_)
    by_cases c : j = i
    · rw [c, pk_us]
    · rw [pk_un c]
      exact h j (by omega)
theorem sx_drop {post : SX → Prop} {L : Int32} (hp : ∀ ft', (∀ j, j < 42 → ft' j = 1) → post (L, D, 1, 0, gk, ga, gb, fl, ol, ft', lv, oc)) :
    wpX_dropObservations post (L, D, H, N, gk, ga, gb, fl, ol, ft, lv, oc) := by
  unfold wpX_dropObservations
  dsimp only
  exact ⟨43, sx_dropLoop hp 42 0 ft (by omega) (fun j hj => absurd hj (Nat.not_lt_zero j))⟩
theorem sx_roLoop {post : SX → Prop} {p : Int32} {c : Nat} {seen : Int32} {ft0 : Nat → Int32} (hC : sd_C g ga gb fl ol) (h1 : 1 ≤ c) (h4 : c ≤ 4)
    (hp : ∀ lv' ft', (∀ f, f < 2 * (7 + g) → (ft' f = 0 ↔ (ft0 f = 0 ∨ ¬ sd_run g gk ga gb fl ol (nI f) p c = seen))) → post (nI (7 + g), D, H, N, gk, ga, gb, fl, ol, ft', lv', oc)) :
    ∀ d i lv ft, i + d = 2 * (7 + g) → (∀ f, f < i → (ft f = 0 ↔ (ft0 f = 0 ∨ ¬ sd_run g gk ga gb fl ol (nI f) p c = seen))) → (∀ f, i ≤ f → ft f = ft0 f) →
      wX_ruleOut_19 post p (nI c) seen (d + 1) (nI i) (nI (7 + g)) D H N gk ga gb fl ol ft lv oc := by
  have hg : g ≤ 14 := hC.1
  intro d
  induction d with
  | zero =>
    intro i lv ft hi h _
    obtain rfl : i = 2 * (7 + g) := by omega
    exact pk_le (2 * (7 + g)) (2 * (7 + g)) (fun _ => hp lv ft h) (fun e => absurd e (by omega)) (pk_mul 2 (7 + g))
  | succ d ih =>
    intro i lv ft hi h h'
    refine pk_le (2 * (7 + g)) i (fun e => absurd e (by omega)) (fun _ => ?_) (pk_mul 2 (7 + g))
    refine sx_run hC h1 h4 (fun lv' => br_c (fun e => nm_r (nI_1 i) ?_) (fun e => ⟨vp_in_nI (by omega) (by omega), fun ft' eft y ey => ?_⟩))
    · refine ih (i + 1) lv' ft (by omega) (fun f hf => ?_) (fun f hf => h' f (by omega))
      rcases (by omega : f < i ∨ f = i) with q | rfl
      · exact h f q
      · rw [h' f (Nat.le_refl f)]
        exact ⟨fun a => Or.inl a, fun a => a.elim id (fun b => absurd e b)⟩
    · rw [eft, ey, nI_1, nI_clamp (by omega), sd_n0]
      refine ih (i + 1) lv' _ (by omega) (fun f hf => ?_) (fun f hf => ?_)
      · by_cases q : f = i
        · subst q
          rw [pk_us]
          exact ⟨fun _ => Or.inr e, fun _ => rfl⟩
        · rw [pk_un q]
          exact h f (by omega)
      · rw [pk_un (by omega)]
        exact h' f (by omega)
theorem sx_ruleOut {post : SX → Prop} {p : Int32} {c : Nat} {seen : Int32} (hC : sd_C g ga gb fl ol) (h1 : 1 ≤ c) (h4 : c ≤ 4)
    (hp : ∀ H' lv' ft', ((H' = 0) ↔ (H = 0 ∨ ¬ sd_run g gk ga gb fl ol (-1) p c = seen)) →
      (∀ f, f < 2 * (7 + g) → (ft' f = 0 ↔ (ft f = 0 ∨ ¬ sd_run g gk ga gb fl ol (nI f) p c = seen))) → post (nI (7 + g), D, H', N, gk, ga, gb, fl, ol, ft', lv', oc)) :
    wpX_ruleOut post (nI (7 + g), D, H, N, gk, ga, gb, fl, ol, ft, lv, oc) p (nI c) seen := by
  unfold wpX_ruleOut
  dsimp only
  refine sx_run hC h1 h4 (fun lv' => br_c (fun e => ?_) (fun e => ?_))
  · exact ⟨2 * (7 + g) + 1, sx_roLoop hC h1 h4 (fun lv'' ft' hft => hp H lv'' ft' ⟨fun a => Or.inl a, fun a => a.elim id (fun b => absurd e b)⟩ hft) (2 * (7 + g)) 0 lv' ft (by omega) (fun f hf => absurd hf (Nat.not_lt_zero f)) (fun _ _ => rfl)⟩
  · exact ⟨2 * (7 + g) + 1, sx_roLoop hC h1 h4 (fun lv'' ft' hft => hp 0 lv'' ft' ⟨fun _ => Or.inr e, fun _ => rfl⟩ hft) (2 * (7 + g)) 0 lv' ft (by omega) (fun f hf => absurd hf (Nat.not_lt_zero f)) (fun _ _ => rfl)⟩
theorem sx_candidates {post : Int32 → Prop} {ex : Int32 → Prop} (hg : g ≤ 14) (hf : ∀ f, f < 2 * (7 + g) → (ft f = 0 ↔ ¬ ex (nI f)))
    (h : post (sd_cnt (fun f => ex (nI f)) (2 * (7 + g)) 0 0)) : wpX_candidates post (nI (7 + g), D, H, N, gk, ga, gb, fl, ol, ft, lv, oc) := by
  unfold wpX_candidates
  dsimp only
  refine ⟨2 * (7 + g) + 1, sd_cl (σ := Unit) (fun n x f _ => wX_candidates_4 post (nI (7 + g)) D H N gk ga gb fl ol ft lv oc n x (nI f)) (fun f => ex (nI f)) (2 * (7 + g)) _
    (fun n _ => ?_) (fun n x f _ hlt hy hn => ?_) (2 * (7 + g)) 0 0 () (by omega) rfl⟩
  · exact pk_le (2 * (7 + g)) (2 * (7 + g)) (fun _ => h) (fun e => absurd e (by omega)) (pk_mul 2 (7 + g))
  · refine pk_le (2 * (7 + g)) f (fun e => absurd e (by omega)) (fun _ => ⟨vp_in_nI (by omega) (by omega), ?_⟩) (pk_mul 2 (7 + g))
    rw [nI_clamp (by omega)]
    refine br_c (fun e => nm_r (nI_1 f) (hn ((hf f hlt).1 e) ())) (fun e => nm_e (nm_r (nI_1 f) (hy ?_ ())))
    exact Classical.byContradiction (fun q => e ((hf f hlt).2 q))
theorem sx_candidate {post : Int32 → Prop} {ex : Int32 → Prop} {i : Int32} (hg : g ≤ 14) (hf : ∀ f, f < 2 * (7 + g) → (ft f = 0 ↔ ¬ ex (nI f)))
    (h : post (sd_nth (fun f => ex (nI f)) i (2 * (7 + g)) 0 0)) : wpX_candidate post (nI (7 + g), D, H, N, gk, ga, gb, fl, ol, ft, lv, oc) i := by
  unfold wpX_candidate
  dsimp only
  refine ⟨2 * (7 + g) + 1, sd_nl (σ := Unit) (fun n x f _ => wX_candidate_4 post i (nI (7 + g)) D H N gk ga gb fl ol ft lv oc n x (nI f)) (fun f => ex (nI f)) i (2 * (7 + g)) post
    (fun n x _ hm => ?_) (fun n x f _ hlt hr hy hn => ?_) (2 * (7 + g)) 0 0 () (by omega) h⟩
  · exact pk_le (2 * (7 + g)) (2 * (7 + g)) (fun _ => hm) (fun e => absurd e (by omega)) (pk_mul 2 (7 + g))
  · refine pk_le (2 * (7 + g)) f (fun e => absurd e (by omega)) (fun _ => ⟨vp_in_nI (by omega) (by omega), ?_⟩) (pk_mul 2 (7 + g))
    rw [nI_clamp (by omega)]
    refine br_c (fun e => nm_r (nI_1 f) (hn ((hf f hlt).1 e) ())) (fun e => ?_)
    have he : ex (nI f) := Classical.byContradiction (fun q => e ((hf f hlt).2 q))
    exact br_c (fun c => hr he c ()) (fun c => nm_e (nm_r (nI_1 f) (hy he c ())))
theorem sx_tells {post : Int32 → SX → Prop} {ex : Int32 → Prop} {p : Int32} (hC : sd_C g ga gb fl ol) (hf : ∀ f, f < 2 * (7 + g) → (ft f = 0 ↔ ¬ ex (nI f)))
    (h1 : sd_T (sd_run g gk ga gb fl ol) ex p (2 * (7 + g)) 0 (-1) → ∀ lv', post 1 (nI (7 + g), D, H, N, gk, ga, gb, fl, ol, ft, lv', oc))
    (h0 : ¬ sd_T (sd_run g gk ga gb fl ol) ex p (2 * (7 + g)) 0 (-1) → ∀ lv', post 0 (nI (7 + g), D, H, N, gk, ga, gb, fl, ol, ft, lv', oc)) :
    wpX_tellsCandidatesApart post (nI (7 + g), D, H, N, gk, ga, gb, fl, ol, ft, lv, oc) p := by
  have hg : g ≤ 14 := hC.1
  unfold wpX_tellsCandidatesApart
  dsimp only
  refine ⟨2 * (7 + g) + 1, sd_Tl (σ := Nat → Int32) (fun n x f lv => wX_tellsCandidatesApart_4 post p n x (nI f) (nI (7 + g)) D H N gk ga gb fl ol ft lv oc) (sd_run g gk ga gb fl ol) ex p (2 * (7 + g)) _ _
    (fun n x s hq => ?_) (fun n x f s hlt hn hd hy => ?_) (2 * (7 + g)) 0 (-1) lv (by omega) h1 h0⟩
  · exact pk_le (2 * (7 + g)) (2 * (7 + g)) (fun _ => hq s) (fun e => absurd e (by omega)) (pk_mul 2 (7 + g))
  · refine pk_le (2 * (7 + g)) f (fun e => absurd e (by omega)) (fun _ => ⟨vp_in_nI (by omega) (by omega), ?_⟩) (pk_mul 2 (7 + g))
    rw [nI_clamp (by omega)]
    refine br_c (fun e => nm_r (nI_1 f) (hn ((hf f hlt).1 e) s)) (fun e => ?_)
    have he : ex (nI f) := Classical.byContradiction (fun q => e ((hf f hlt).2 q))
    refine sx_run (c := 1) hC (by omega) (by omega) (fun lv' => br_c (fun c => nm_r (nI_1 f) (hy he (Or.inl c) lv')) (fun c => br_c (fun r => nm_r (nI_1 f) (hy he (Or.inr r) lv')) (fun r => hd he c r lv')))
theorem sx_nextPattern {post : Int32 → SX → Prop} {ex : Int32 → Prop} (hC : sd_C g ga gb fl ol) (hf : ∀ f, f < 2 * (7 + g) → (ft f = 0 ↔ ¬ ex (nI f)))
    (h : ∀ lv', post (sd_fst (fun p => sd_T (sd_run g gk ga gb fl ol) ex (nI p) (2 * (7 + g)) 0 (-1)) (-1) 128 0) (nI (7 + g), D, H, N, gk, ga, gb, fl, ol, ft, lv', oc)) :
    wpX_nextPattern post (nI (7 + g), D, H, N, gk, ga, gb, fl, ol, ft, lv, oc) := by
  unfold wpX_nextPattern
  dsimp only
  refine ⟨129, sd_fl (σ := Nat → Int32) (fun n p lv => wX_nextPattern_2 post n (nI p) (nI (7 + g)) D H N gk ga gb fl ol ft lv oc) _ (-1) 128 (fun r lv' => post r (nI (7 + g), D, H, N, gk, ga, gb, fl, ol, ft, lv', oc))
    (fun n s hq => ?_) (fun n p s hlt hy hn => ?_) 128 0 lv (by omega) h⟩
  · exact br_t (by decide) (hq s)
  · refine br_f (nI_ge (b := 128) hlt (by decide)) ?_
    exact sx_tells hC hf (fun t lv' => br_f (by decide) (hy t lv')) (fun t lv' => br_t rfl (nm_r (nI_1 p) (hn t lv')))
theorem sx_detected {post : Int32 → SX → Prop} {p c : Nat} (hC : sd_C g ga gb fl ol) (hp : p < 128) (h1 : 1 ≤ c) (h4 : c ≤ 4)
    (h : ∀ lv', post (sd_cnt (fun f => ¬ sd_run g gk ga gb fl ol (nI f) (nI p) c = sd_run g gk ga gb fl ol (-1) (nI p) c) (2 * (7 + g)) 0 0) (nI (7 + g), D, H, N, gk, ga, gb, fl, ol, ft, lv', oc)) :
    wpX_detected post (nI (7 + g), D, H, N, gk, ga, gb, fl, ol, ft, lv, oc) (nI p) (nI c) := by
  have hg : g ≤ 14 := hC.1
  unfold wpX_detected
  dsimp only
  refine sx_pat_ok hp ?_
  refine br_f (by decide) ?_
  refine sx_cyc_ok h1 h4 ?_
  refine br_f (by decide) ?_
  refine sx_run hC h1 h4 (fun lv1 => ?_)
  refine ⟨2 * (7 + g) + 1, sd_cl (σ := Nat → Int32) (fun n x f lv => wX_detected_35 post (nI p) (nI c) (sd_run g gk ga gb fl ol (-1) (nI p) c) n x (nI f) (nI (7 + g)) D H N gk ga gb fl ol ft lv oc) (fun f => ¬ sd_run g gk ga gb fl ol (nI f) (nI p) c = sd_run g gk ga gb fl ol (-1) (nI p) c) (2 * (7 + g)) _
    (fun n s => ?_) (fun n x f s hlt hy hn => ?_) (2 * (7 + g)) 0 0 lv1 (by omega) rfl⟩
  · exact pk_le (2 * (7 + g)) (2 * (7 + g)) (fun _ => h s) (fun e => absurd e (by omega)) (pk_mul 2 (7 + g))
  · refine pk_le (2 * (7 + g)) f (fun e => absurd e (by omega)) (fun _ => ?_) (pk_mul 2 (7 + g))
    exact sx_run hC h1 h4 (fun lv' => br_c (fun e => nm_r (nI_1 f) (hn (fun q => q e) lv')) (fun e => nm_e (nm_r (nI_1 f) (hy e lv'))))
theorem sx_neverShows {post : Int32 → SX → Prop} {φ : Int32} (hC : sd_C g ga gb fl ol)
    (h1 : sd_al (sd_run g gk ga gb fl ol) φ (-1) → ∀ lv', post 1 (nI (7 + g), D, H, N, gk, ga, gb, fl, ol, ft, lv', oc))
    (h0 : ¬ sd_al (sd_run g gk ga gb fl ol) φ (-1) → ∀ lv', post 0 (nI (7 + g), D, H, N, gk, ga, gb, fl, ol, ft, lv', oc)) :
    wpX_neverShows post (nI (7 + g), D, H, N, gk, ga, gb, fl, ol, ft, lv, oc) φ := by
  unfold wpX_neverShows
  dsimp only
  refine ⟨129, sd_yl (σ := Nat → Int32) (fun n q lv => wX_neverShows_2 post φ n (nI q) (nI (7 + g)) D H N gk ga gb fl ol ft lv oc) (fun q => sd_run g gk ga gb fl ol φ (nI q) 1 = sd_run g gk ga gb fl ol (-1) (nI q) 1) 128 0 _ _
    (fun n s hq => ?_) (fun n q s _ hlt hy hn => ?_) (fun a => h1 (fun q hq => a q (Nat.zero_le q) hq)) (fun a => h0 (fun b => a (fun q _ hq => b q hq))) 128 0 lv (by omega) (by omega) (fun q _ hq => absurd hq (Nat.not_lt_zero q))⟩
  · exact br_t (by decide) (hq s)
  · refine br_f (nI_ge (b := 128) hlt (by decide)) ?_
    refine sx_run (c := 1) hC (by omega) (by omega) (fun lv1 => ?_)
    exact sx_run (c := 1) hC (by omega) (by omega) (fun lv2 => br_c (fun e => nm_r (nI_1 q) (hy e lv2)) (fun e => hn e lv2))
theorem sx_hidden {post : Int32 → SX → Prop} (hC : sd_C g ga gb fl ol)
    (h : ∀ lv', post (sd_cnt (fun f => sd_al (sd_run g gk ga gb fl ol) (nI f) (-1)) (2 * (7 + g)) 0 0) (nI (7 + g), D, H, N, gk, ga, gb, fl, ol, ft, lv', oc)) :
    wpX_hidden post (nI (7 + g), D, H, N, gk, ga, gb, fl, ol, ft, lv, oc) := by
  have hg : g ≤ 14 := hC.1
  unfold wpX_hidden
  dsimp only
  refine ⟨2 * (7 + g) + 1, sd_cl (σ := Nat → Int32) (fun n x f lv => wX_hidden_4 post n x (nI f) (nI (7 + g)) D H N gk ga gb fl ol ft lv oc) (fun f => sd_al (sd_run g gk ga gb fl ol) (nI f) (-1)) (2 * (7 + g)) _
    (fun n s => ?_) (fun n x f s hlt hy hn => ?_) (2 * (7 + g)) 0 0 lv (by omega) rfl⟩
  · exact pk_le (2 * (7 + g)) (2 * (7 + g)) (fun _ => h s) (fun e => absurd e (by omega)) (pk_mul 2 (7 + g))
  · refine pk_le (2 * (7 + g)) f (fun e => absurd e (by omega)) (fun _ => ?_) (pk_mul 2 (7 + g))
    exact sx_neverShows hC (fun t lv' => br_f (by decide) (nm_e (nm_r (nI_1 f) (hy t lv')))) (fun t lv' => br_t rfl (nm_r (nI_1 f) (hn t lv')))
end
end
section
/-! the class's table of one-cycle responses, and the questions on alike faults -/
def sd_oc (R : Int32 → Int32 → Nat → Int32) (E : Nat) (oc : Nat → Int32) : Prop := ∀ f, f < E → ∀ q, q < 128 → oc (f * 128 + q) = R (nI f) (nI q) 1
theorem sd_ix (i j : Nat) : nI i * 128 + nI j = nI (i * 128 + j) := by
  rw [show (128 : Int32) = nI 128 from rfl, pk_mul, nI_add]
section
variable {g : Nat} {D H N : Int32} {gk ga gb fl ol ft lv oc : Nat → Int32}
theorem sx_fillIn {post : SX → Prop} {J2 : Int32 → Int32 → Int32 → Int32 → Int32 → (Nat → Int32) → (Nat → Int32) → (Nat → Int32) → (Nat → Int32) → (Nat → Int32) → (Nat → Int32) → (Nat → Int32) → (Nat → Int32) → Prop} {i : Nat}
    (hC : sd_C g ga gb fl ol) (hi : i < 2 * (7 + g))
    (hJ : ∀ lv' oc', sd_oc (sd_run g gk ga gb fl ol) (i + 1) oc' → J2 (nI (i + 1)) (nI (7 + g)) D H N gk ga gb fl ol ft lv' oc') :
    ∀ d j lv oc, j + d = 128 → sd_oc (sd_run g gk ga gb fl ol) i oc → (∀ q, q < j → oc (i * 128 + q) = sd_run g gk ga gb fl ol (nI i) (nI q) 1) →
      wX_fillOneCycleResponses_14 post J2 (nI i) (d + 1) (nI j) (nI (7 + g)) D H N gk ga gb fl ol ft lv oc := by
  have hg : g ≤ 14 := hC.1
  intro d
  induction d with
  | zero =>
    intro j lv oc hj h hr
    obtain rfl : j = 128 := by omega
    refine br_t (by decide) (nm_r (nI_1 i) (hJ lv oc (fun f hf q hq => ?_)))
    rcases (by omega : f < i ∨ f = i) with c | rfl
    · exact h f c q hq
    · exact hr q hq
  | succ d ih =>
    intro j lv oc hj h hr
    refine br_f (nI_ge (b := 128) (by omega) (by decide)) ?_
    refine sx_run (c := 1) hC (by omega) (by omega) (fun lv' => ?_)
    dsimp only
    rw [sd_ix, nI_clamp (by omega)]
    refine ⟨vp_in_nI (by omega) (by omega), nm_e (nm_r (nI_1 j) (ih (j + 1) lv' _ (by omega) (fun f hf q hq => ?_) (fun q hq => ?_)))⟩
    · rw [pk_un (by omega)]
      exact h f hf q hq
    · by_cases c : q = j
      · rw [c, pk_us]
      · rw [pk_un (by omega)]
        exact hr q (by omega)
theorem sx_fillOut {post : SX → Prop} (hC : sd_C g ga gb fl ol)
    (hp : ∀ lv' oc', sd_oc (sd_run g gk ga gb fl ol) (2 * (7 + g)) oc' → post (nI (7 + g), D, H, N, gk, ga, gb, fl, ol, ft, lv', oc')) :
    ∀ d i lv oc, i + d = 2 * (7 + g) → sd_oc (sd_run g gk ga gb fl ol) i oc → wX_fillOneCycleResponses_2 post (d + 1) (nI i) (nI (7 + g)) D H N gk ga gb fl ol ft lv oc := by
  have hg : g ≤ 14 := hC.1
  intro d
  induction d with
  | zero =>
    intro i lv oc hi h
    obtain rfl : i = 2 * (7 + g) := by omega
    exact pk_le (2 * (7 + g)) (2 * (7 + g)) (fun _ => hp lv oc h) (fun e => absurd e (by omega)) (pk_mul 2 (7 + g))
  | succ d ih =>
    intro i lv oc hi h
    refine pk_le (2 * (7 + g)) i (fun e => absurd e (by omega)) (fun _ => ?_) (pk_mul 2 (7 + g))
    exact ⟨129, sx_fillIn hC (by omega) (fun lv' oc' ho => ih (i + 1) lv' oc' (by omega) ho) 128 0 lv oc (by omega) h (fun q hq => absurd hq (Nat.not_lt_zero q))⟩
theorem sx_fill {post : SX → Prop} (hC : sd_C g ga gb fl ol)
    (hp : ∀ lv' oc', sd_oc (sd_run g gk ga gb fl ol) (2 * (7 + g)) oc' → post (nI (7 + g), D, H, N, gk, ga, gb, fl, ol, ft, lv', oc')) :
    wpX_fillOneCycleResponses post (nI (7 + g), D, H, N, gk, ga, gb, fl, ol, ft, lv, oc) := by
  unfold wpX_fillOneCycleResponses
  dsimp only
  exact ⟨2 * (7 + g) + 1, sx_fillOut hC hp (2 * (7 + g)) 0 lv oc (by omega) (fun f hf => absurd hf (Nat.not_lt_zero f))⟩
theorem sx_areAlike {post : Int32 → Prop} {R : Int32 → Int32 → Nat → Int32} {e f : Nat} (hg : g ≤ 14) (ho : sd_oc R (2 * (7 + g)) oc) (he : e < 2 * (7 + g)) (hf : f < 2 * (7 + g))
    (h1 : sd_al R (nI e) (nI f) → post 1) (h0 : ¬ sd_al R (nI e) (nI f) → post 0) :
    wpX_areAlike post (nI (7 + g), D, H, N, gk, ga, gb, fl, ol, ft, lv, oc) (nI e) (nI f) := by
  unfold wpX_areAlike
  dsimp only
  refine ⟨129, sd_yl (σ := Unit) (fun n q _ => wX_areAlike_2 post (nI e) (nI f) (nI (7 + g)) D H N gk ga gb fl ol ft lv oc n (nI q)) (fun q => R (nI e) (nI q) 1 = R (nI f) (nI q) 1) 128 0 (post 0) (post 1)
    (fun n _ hq => ?_) (fun n q _ _ hlt hy hn => ?_) (fun a => h1 (fun q hq => a q (Nat.zero_le q) hq)) (fun a => h0 (fun b => a (fun q _ hq => b q hq))) 128 0 () (by omega) (by omega) (fun q _ hq => absurd hq (Nat.not_lt_zero q))⟩
  · exact br_t (by decide) hq
  · refine br_f (nI_ge (b := 128) hlt (by decide)) ?_
    rw [sd_ix, sd_ix, nI_clamp (by omega), nI_clamp (by omega), ho e he q hlt, ho f hf q hlt]
    exact ⟨vp_in_nI (by omega) (by omega), nm_e ⟨vp_in_nI (by omega) (by omega), br_c (fun c => nm_r (nI_1 q) (hy c ())) (fun c => hn c)⟩⟩
theorem sx_least {post : Int32 → Prop} {R : Int32 → Int32 → Nat → Int32} {f : Nat} (hg : g ≤ 14) (ho : sd_oc R (2 * (7 + g)) oc) (hf : f < 2 * (7 + g)) (h : post (sd_er R f)) :
    wpX_leastAlike post (nI (7 + g), D, H, N, gk, ga, gb, fl, ol, ft, lv, oc) (nI f) := by
  unfold wpX_leastAlike
  dsimp only
  refine ⟨f + 1, sd_fl (σ := Unit) (fun n i _ => wX_leastAlike_2 post (nI f) (nI (7 + g)) D H N gk ga gb fl ol ft lv oc n (nI i)) (fun i => sd_al R (nI i) (nI f)) (nI f) f (fun r _ => post r)
    (fun n _ hq => ?_) (fun n i _ hlt hy hn => ?_) f 0 () (by omega) (fun _ => h)⟩
  · exact br_t (nI_le (by omega) (by omega)) (hq ())
  · refine br_f (nI_ge (by omega) (by omega)) ?_
    exact sx_areAlike hg ho (by omega) hf (fun t => br_f (by decide) (hy t ())) (fun t => br_t rfl (nm_r (nI_1 i) (hn t ())))
theorem sx_ghc {post : Int32 → Prop} {R : Int32 → Int32 → Nat → Int32} {ex : Int32 → Prop} {f : Nat} (hg : g ≤ 14) (ho : sd_oc R (2 * (7 + g)) oc) (hx : ∀ f, f < 2 * (7 + g) → (ft f = 0 ↔ ¬ ex (nI f))) (hf : f < 2 * (7 + g))
    (h1 : sd_po R ex (2 * (7 + g)) f → post 1) (h0 : ¬ sd_po R ex (2 * (7 + g)) f → post 0) :
    wpX_groupHasCandidate post (nI (7 + g), D, H, N, gk, ga, gb, fl, ol, ft, lv, oc) (nI f) := by
  unfold wpX_groupHasCandidate
  dsimp only
  refine ⟨(2 * (7 + g) - f) + 1, sd_yl (σ := Unit) (fun n i _ => wX_groupHasCandidate_2 post (nI f) (nI (7 + g)) D H N gk ga gb fl ol ft lv oc n (nI i)) (fun i => ¬ (ex (nI i) ∧ sd_al R (nI f) (nI i))) (2 * (7 + g)) f (post 1) (post 0)
    (fun n _ hq => ?_) (fun n i _ _ hlt hy hn => ?_) (fun a => h0 ?_) (fun a => h1 ?_) (2 * (7 + g) - f) f () (by omega) (by omega) (fun q hq1 hq => absurd hq (by omega))⟩
  · exact pk_le (2 * (7 + g)) (2 * (7 + g)) (fun _ => hq) (fun e => absurd e (by omega)) (pk_mul 2 (7 + g))
  · refine pk_le (2 * (7 + g)) i (fun e => absurd e (by omega)) (fun _ => ⟨vp_in_nI (by omega) (by omega), ?_⟩) (pk_mul 2 (7 + g))
    rw [nI_clamp (by omega)]
    refine br_c (fun e => nm_r (nI_1 i) (hy (fun q => (hx i hlt).1 e q.1) ())) (fun e => ?_)
    have he : ex (nI i) := Classical.byContradiction (fun q => e ((hx i hlt).2 q))
    exact sx_areAlike hg ho hf hlt (fun t => br_f (by decide) (hn (fun q => q ⟨he, t⟩))) (fun t => br_t rfl (nm_r (nI_1 i) (hy (fun q => t q.2) ())))
  · rintro ⟨i, h1, h2, h3, h4⟩
    exact a i h1 h2 ⟨h3, h4⟩
  · refine Classical.byContradiction (fun q => a (fun i h1 h2 h3 => q ⟨i, h1, h2, h3.1, h3.2⟩))
theorem sx_groupsLoop {post : Int32 → SX → Prop} {R : Int32 → Int32 → Nat → Int32} (hg : g ≤ 14) (ho : sd_oc R (2 * (7 + g)) oc)
    (h : post (sd_cnt (fun f => sd_er R f = nI f) (2 * (7 + g)) 0 0) (nI (7 + g), D, H, N, gk, ga, gb, fl, ol, ft, lv, oc)) :
    ∃ n, wX_groups_8 post (nI (7 + g)) D H N gk ga gb fl ol ft lv oc n 0 0 := by
  refine ⟨2 * (7 + g) + 1, sd_cl (σ := Unit) (fun n x f _ => wX_groups_8 post (nI (7 + g)) D H N gk ga gb fl ol ft lv oc n x (nI f)) (fun f => sd_er R f = nI f) (2 * (7 + g)) _
    (fun n _ => ?_) (fun n x f _ hlt hy hn => ?_) (2 * (7 + g)) 0 0 () (by omega) rfl⟩
  · exact pk_le (2 * (7 + g)) (2 * (7 + g)) (fun _ => h) (fun e => absurd e (by omega)) (pk_mul 2 (7 + g))
  · refine pk_le (2 * (7 + g)) f (fun e => absurd e (by omega)) (fun _ => ?_) (pk_mul 2 (7 + g))
    exact sx_least hg ho hlt (br_c (fun c => nm_e (nm_r (nI_1 f) (hy c ()))) (fun c => nm_r (nI_1 f) (hn c ())))
theorem sx_cgLoop {post : Int32 → SX → Prop} {R : Int32 → Int32 → Nat → Int32} {ex : Int32 → Prop} (hg : g ≤ 14) (ho : sd_oc R (2 * (7 + g)) oc) (hx : ∀ f, f < 2 * (7 + g) → (ft f = 0 ↔ ¬ ex (nI f)))
    (h : post (sd_cnt (fun f => sd_er R f = nI f ∧ sd_po R ex (2 * (7 + g)) f) (2 * (7 + g)) 0 0) (nI (7 + g), D, H, N, gk, ga, gb, fl, ol, ft, lv, oc)) :
    ∃ n, wX_candidateGroups_8 post (nI (7 + g)) D H N gk ga gb fl ol ft lv oc n 0 0 := by
  refine ⟨2 * (7 + g) + 1, sd_cl (σ := Unit) (fun n x f _ => wX_candidateGroups_8 post (nI (7 + g)) D H N gk ga gb fl ol ft lv oc n x (nI f)) (fun f => sd_er R f = nI f ∧ sd_po R ex (2 * (7 + g)) f) (2 * (7 + g)) _
    (fun n _ => ?_) (fun n x f _ hlt hy hn => ?_) (2 * (7 + g)) 0 0 () (by omega) rfl⟩
  · exact pk_le (2 * (7 + g)) (2 * (7 + g)) (fun _ => h) (fun e => absurd e (by omega)) (pk_mul 2 (7 + g))
  · refine pk_le (2 * (7 + g)) f (fun e => absurd e (by omega)) (fun _ => ?_) (pk_mul 2 (7 + g))
    refine sx_least hg ho hlt (br_c (fun c => ?_) (fun c => nm_r (nI_1 f) (hn (fun q => c q.1) ())))
    exact sx_ghc hg ho hx hlt (fun t => br_f (by decide) (nm_e (nm_r (nI_1 f) (hy ⟨c, t⟩ ())))) (fun t => br_t rfl (nm_r (nI_1 f) (hn (fun q => t q.2) ())))
end
end
section
/-! the reference's other methods -/
def sd_O (m : Nat) (pt cy : Nat → Int32) : Prop := ∀ i, i < m → (∃ p, p < 128 ∧ pt i = nI p) ∧ (∃ c, 1 ≤ c ∧ c ≤ 4 ∧ cy i = nI c)
theorem sd_2L (g : Nat) : (2 : Int32) * (7 + nI g) = nI (2 * (7 + g)) := by
  rw [show (7 : Int32) + nI g = nI (7 + g) from nI_add 7 g]
  exact pk_mul 2 (7 + g)
theorem sd_okm : sd_ok (-1) := Or.inl rfl
theorem sd_okn {f : Nat} (h : f < 42) : sd_ok (nI f) := Or.inr ⟨f, h, rfl⟩
section
variable {g m : Nat} {Dv M : Int32} {gk ga gb kd fs sc fl ol pt cy an va : Nat → Int32}
theorem sy_line_ok {post : Int32 → Prop} {l : Nat} (hg : g ≤ 14) (hl : l < 7 + g) (h : post 0) : wpY_badLine post (nI g, Dv, M, kd, fs, sc, fl, ol, pt, cy, an, va) (nI l) :=
  br_f (nI_pos (by omega)) (pk_le (7 + g) l (fun c => absurd c (by omega)) (fun _ => pk_le l 20 (fun _ => h) (fun c => absurd c (by omega))) (nI_add 7 g))
theorem sy_line_no {post : Int32 → Prop} {x : Int32} (hg : g ≤ 14) (hb : sd_bad (7 + g) x) (h : post 1) : wpY_badLine post (nI g, Dv, M, kd, fs, sc, fl, ol, pt, cy, an, va) x := by
  rcases hb with hb | ⟨j, h1, h2, rfl⟩
  · exact br_t hb h
  · exact br_f (nI_pos h2) (pk_le (7 + g) j (fun _ => h) (fun c => absurd c (by omega)) (nI_add 7 g))
theorem sy_fault_ok {post : Int32 → Prop} {f : Nat} (hg : g ≤ 14) (hf : f < 2 * (7 + g)) (h : post 0) : wpY_badFault post (nI g, Dv, M, kd, fs, sc, fl, ol, pt, cy, an, va) (nI f) :=
  br_f (nI_pos (by omega)) (pk_lt f (2 * (7 + g)) (fun _ => h) (fun c => absurd c (by omega)) rfl (sd_2L g))
theorem sy_fault_no {post : Int32 → Prop} {x : Int32} (hg : g ≤ 14) (hb : sd_bad (2 * (7 + g)) x) (h : post 1) : wpY_badFault post (nI g, Dv, M, kd, fs, sc, fl, ol, pt, cy, an, va) x := by
  rcases hb with hb | ⟨j, h1, h2, rfl⟩
  · exact br_t hb h
  · exact br_f (nI_pos h2) (pk_lt j (2 * (7 + g)) (fun c => absurd c (by omega)) (fun _ => h) rfl (sd_2L g))
theorem sy_pat_ok {post : Int32 → Prop} {G : Int32} {p : Nat} (hp : p < 128) (h : post 0) : wpY_badPattern post (G, Dv, M, kd, fs, sc, fl, ol, pt, cy, an, va) (nI p) :=
  br_f (nI_pos (by omega)) (pk_le p 127 (fun _ => h) (fun c => absurd c (by omega)))
theorem sy_pat_no {post : Int32 → Prop} {G : Int32} {x : Int32} (hb : sd_bad 128 x) (h : post 1) : wpY_badPattern post (G, Dv, M, kd, fs, sc, fl, ol, pt, cy, an, va) x := by
  rcases hb with hb | ⟨j, h1, h2, rfl⟩
  · exact br_t hb h
  · exact br_f (nI_pos h2) (pk_le j 127 (fun c => absurd c (by omega)) (fun _ => h))
theorem sy_cyc_ok {post : Int32 → Prop} {G : Int32} {c : Nat} (h1 : 1 ≤ c) (h4 : c ≤ 4) (h : post 0) : wpY_badCycles post (G, Dv, M, kd, fs, sc, fl, ol, pt, cy, an, va) (nI c) :=
  pk_lt c 1 (fun e => absurd e (by omega)) (fun _ => pk_le c 4 (fun _ => h) (fun e => absurd e (by omega)))
theorem sy_cyc_no {post : Int32 → Prop} {G : Int32} {x : Int32} (hb : sd_badc x) (h : post 1) : wpY_badCycles post (G, Dv, M, kd, fs, sc, fl, ol, pt, cy, an, va) x := by
  rcases hb with hb | ⟨j, h1, h2, rfl⟩
  · exact br_t hb h
  · exact pk_lt j 1 (fun e => absurd e (by omega)) (fun _ => pk_le j 4 (fun e => absurd e (by omega)) (fun _ => h))
theorem sy_explains {post : Int32 → SY → Prop} {φ : Int32} (hC : sd_C g ga gb fl ol) (hY : sd_Y gk ga gb kd fs sc) (hφ : sd_ok φ) (hm : m ≤ 20) (hO : sd_O m pt cy)
    (h1 : sd_ex (sd_run g gk ga gb fl ol) m pt cy an φ → ∀ va', post 1 (nI g, Dv, nI m, kd, fs, sc, fl, ol, pt, cy, an, va'))
    (h0 : ¬ sd_ex (sd_run g gk ga gb fl ol) m pt cy an φ → ∀ va', post 0 (nI g, Dv, nI m, kd, fs, sc, fl, ol, pt, cy, an, va')) :
    wpY_explains post (nI g, Dv, nI m, kd, fs, sc, fl, ol, pt, cy, an, va) φ := by
  unfold wpY_explains
  dsimp only
  refine ⟨m + 1, sd_yl (σ := Nat → Int32) (fun n i va => wY_explains_2 post φ n (nI i) (nI g) Dv (nI m) kd fs sc fl ol pt cy an va) (fun i => sd_run g gk ga gb fl ol φ (pt i) (cy i).toNatClampNeg = an i) m 0 _ _
    (fun n s hq => ?_) (fun n i s _ hlt hy hn => ?_) (fun a => h1 (fun q hq => a q (Nat.zero_le q) hq)) (fun a => h0 (fun b => a (fun q _ hq => b q hq))) m 0 va (by omega) (by omega) (fun q _ hq => absurd hq (Nat.not_lt_zero q))⟩
  · exact br_t (nI_le (by omega) (by omega)) (hq s)
  · obtain ⟨⟨p, hp, ep⟩, ⟨c, hc1, hc4, ec⟩⟩ := hO i hlt
    have hin : vp_in (nI i) 20 := vp_in_nI (by omega) (by omega)
    have cl : (nI i).toNatClampNeg = i := nI_clamp (by omega)
    have cc : (nI c).toNatClampNeg = c := nI_clamp (by omega)
    rw [ep, ec, cc] at hy hn
    refine br_f (nI_ge (by omega) (by omega)) (br_f (nI_ge (b := 20) (by omega) (by decide)) ⟨hin, hin, ?_⟩)
    rw [cl, ep, ec]
    exact sy_run hC hY hφ hp hc1 hc4 (fun va' => ⟨hin, br_c (fun e => nm_r (nI_1 i) (hy e va')) (fun e => hn e va')⟩)
theorem sy_alike {post : Int32 → SY → Prop} {φ ψ : Int32} (hC : sd_C g ga gb fl ol) (hY : sd_Y gk ga gb kd fs sc) (hφ : sd_ok φ) (hψ : sd_ok ψ)
    (h1 : sd_al (sd_run g gk ga gb fl ol) φ ψ → ∀ va', post 1 (nI g, Dv, M, kd, fs, sc, fl, ol, pt, cy, an, va'))
    (h0 : ¬ sd_al (sd_run g gk ga gb fl ol) φ ψ → ∀ va', post 0 (nI g, Dv, M, kd, fs, sc, fl, ol, pt, cy, an, va')) :
    wpY_alike post (nI g, Dv, M, kd, fs, sc, fl, ol, pt, cy, an, va) φ ψ := by
  unfold wpY_alike
  dsimp only
  refine ⟨129, sd_yl (σ := Nat → Int32) (fun n q va => wY_alike_2 post φ ψ n (nI q) (nI g) Dv M kd fs sc fl ol pt cy an va) (fun q => sd_run g gk ga gb fl ol φ (nI q) 1 = sd_run g gk ga gb fl ol ψ (nI q) 1) 128 0 _ _
    (fun n s hq => ?_) (fun n q s _ hlt hy hn => ?_) (fun a => h1 (fun q hq => a q (Nat.zero_le q) hq)) (fun a => h0 (fun b => a (fun q _ hq => b q hq))) 128 0 va (by omega) (by omega) (fun q _ hq => absurd hq (Nat.not_lt_zero q))⟩
  · exact br_t (by decide) (hq s)
  · refine br_f (nI_ge (b := 128) hlt (by decide)) ?_
    refine sy_run (c := 1) hC hY hφ hlt (by omega) (by omega) (fun va1 => ?_)
    exact sy_run (c := 1) hC hY hψ hlt (by omega) (by omega) (fun va2 => br_c (fun e => nm_r (nI_1 q) (hy e va2)) (fun e => hn e va2))
theorem sy_earliest {post : Int32 → SY → Prop} {f : Nat} (hC : sd_C g ga gb fl ol) (hY : sd_Y gk ga gb kd fs sc) (hf : f < 2 * (7 + g))
    (h : ∀ va', post (sd_er (sd_run g gk ga gb fl ol) f) (nI g, Dv, M, kd, fs, sc, fl, ol, pt, cy, an, va')) :
    wpY_earliest post (nI g, Dv, M, kd, fs, sc, fl, ol, pt, cy, an, va) (nI f) := by
  have hg : g ≤ 14 := hC.1
  unfold wpY_earliest
  dsimp only
  refine ⟨f + 1, sd_fl (σ := Nat → Int32) (fun n i va => wY_earliest_2 post (nI f) n (nI i) (nI g) Dv M kd fs sc fl ol pt cy an va) (fun i => sd_al (sd_run g gk ga gb fl ol) (nI i) (nI f)) (nI f) f (fun r va' => post r (nI g, Dv, M, kd, fs, sc, fl, ol, pt, cy, an, va'))
    (fun n s hq => ?_) (fun n i s hlt hy hn => ?_) f 0 va (by omega) h⟩
  · exact br_t (nI_le (by omega) (by omega)) (hq s)
  · refine br_f (nI_ge (by omega) (by omega)) ?_
    exact sy_alike hC hY (sd_okn (by omega)) (sd_okn (by omega)) (fun t va' => br_f (by decide) (hy t va')) (fun t va' => br_t rfl (nm_r (nI_1 i) (hn t va')))
theorem sy_possible {post : Int32 → SY → Prop} {f : Nat} (hC : sd_C g ga gb fl ol) (hY : sd_Y gk ga gb kd fs sc) (hm : m ≤ 20) (hO : sd_O m pt cy) (hf : f < 2 * (7 + g))
    (h1 : sd_po (sd_run g gk ga gb fl ol) (sd_ex (sd_run g gk ga gb fl ol) m pt cy an) (2 * (7 + g)) f → ∀ va', post 1 (nI g, Dv, nI m, kd, fs, sc, fl, ol, pt, cy, an, va'))
    (h0 : ¬ sd_po (sd_run g gk ga gb fl ol) (sd_ex (sd_run g gk ga gb fl ol) m pt cy an) (2 * (7 + g)) f → ∀ va', post 0 (nI g, Dv, nI m, kd, fs, sc, fl, ol, pt, cy, an, va')) :
    wpY_possible post (nI g, Dv, nI m, kd, fs, sc, fl, ol, pt, cy, an, va) (nI f) := by
  have hg : g ≤ 14 := hC.1
  unfold wpY_possible
  dsimp only
  refine ⟨(2 * (7 + g) - f) + 1, sd_yl (σ := Nat → Int32) (fun n i va => wY_possible_2 post (nI f) n (nI i) (nI g) Dv (nI m) kd fs sc fl ol pt cy an va) (fun i => ¬ (sd_ex (sd_run g gk ga gb fl ol) m pt cy an (nI i) ∧ sd_al (sd_run g gk ga gb fl ol) (nI f) (nI i))) (2 * (7 + g)) f _ _
    (fun n s hq => ?_) (fun n i s _ hlt hy hn => ?_) (fun a => h0 ?_) (fun a => h1 ?_) (2 * (7 + g) - f) f va (by omega) (by omega) (fun q hq1 hq => absurd hq (by omega))⟩
  · exact pk_le (2 * (7 + g)) (2 * (7 + g)) (fun _ => hq s) (fun e => absurd e (by omega)) (sd_2L g)
  · refine pk_le (2 * (7 + g)) i (fun e => absurd e (by omega)) (fun _ => ?_) (sd_2L g)
    refine sy_explains hC hY (sd_okn (by omega)) hm hO (fun he va1 => br_f (by decide) ?_) (fun he va1 => br_t rfl (nm_r (nI_1 i) (hy (fun q => he q.1) va1)))
    exact sy_alike hC hY (sd_okn (by omega)) (sd_okn (by omega)) (fun t va' => br_f (by decide) (hn (fun q => q ⟨he, t⟩) va')) (fun t va' => br_t rfl (nm_r (nI_1 i) (hy (fun q => t q.2) va')))
  · rintro ⟨i, h1, h2, h3, h4⟩
    exact a i h1 h2 ⟨h3, h4⟩
  · refine Classical.byContradiction (fun q => a (fun i h1 h2 h3 => q ⟨i, h1, h2, h3.1, h3.2⟩))
theorem sy_candidates {post : Int32 → SY → Prop} (hC : sd_C g ga gb fl ol) (hY : sd_Y gk ga gb kd fs sc) (hm : m ≤ 20) (hO : sd_O m pt cy)
    (h : ∀ va', post (sd_cnt (fun f => sd_ex (sd_run g gk ga gb fl ol) m pt cy an (nI f)) (2 * (7 + g)) 0 0) (nI g, Dv, nI m, kd, fs, sc, fl, ol, pt, cy, an, va')) :
    wpY_candidates post (nI g, Dv, nI m, kd, fs, sc, fl, ol, pt, cy, an, va) := by
  have hg : g ≤ 14 := hC.1
  unfold wpY_candidates
  dsimp only
  refine ⟨2 * (7 + g) + 1, sd_cl (σ := Nat → Int32) (fun n x f va => wY_candidates_4 post n x (nI f) (nI g) Dv (nI m) kd fs sc fl ol pt cy an va) (fun f => sd_ex (sd_run g gk ga gb fl ol) m pt cy an (nI f)) (2 * (7 + g)) _
    (fun n s => ?_) (fun n x f s hlt hy hn => ?_) (2 * (7 + g)) 0 0 va (by omega) rfl⟩
  · exact pk_le (2 * (7 + g)) (2 * (7 + g)) (fun _ => h s) (fun e => absurd e (by omega)) (sd_2L g)
  · refine pk_le (2 * (7 + g)) f (fun e => absurd e (by omega)) (fun _ => ?_) (sd_2L g)
    exact sy_explains hC hY (sd_okn (by omega)) hm hO (fun t va' => br_f (by decide) (nm_e (nm_r (nI_1 f) (hy t va')))) (fun t va' => br_t rfl (nm_r (nI_1 f) (hn t va')))
theorem sy_candidate {post : Int32 → SY → Prop} {i : Int32} (hC : sd_C g ga gb fl ol) (hY : sd_Y gk ga gb kd fs sc) (hm : m ≤ 20) (hO : sd_O m pt cy)
    (h : ∀ va', post (sd_nth (fun f => sd_ex (sd_run g gk ga gb fl ol) m pt cy an (nI f)) i (2 * (7 + g)) 0 0) (nI g, Dv, nI m, kd, fs, sc, fl, ol, pt, cy, an, va')) :
    wpY_candidate post (nI g, Dv, nI m, kd, fs, sc, fl, ol, pt, cy, an, va) i := by
  have hg : g ≤ 14 := hC.1
  unfold wpY_candidate
  dsimp only
  refine ⟨2 * (7 + g) + 1, sd_nl (σ := Nat → Int32) (fun n x f va => wY_candidate_4 post i n x (nI f) (nI g) Dv (nI m) kd fs sc fl ol pt cy an va) (fun f => sd_ex (sd_run g gk ga gb fl ol) m pt cy an (nI f)) i (2 * (7 + g)) (fun r => ∀ va', post r (nI g, Dv, nI m, kd, fs, sc, fl, ol, pt, cy, an, va'))
    (fun n x s hq => ?_) (fun n x f s hlt hr hy hn => ?_) (2 * (7 + g)) 0 0 va (by omega) h⟩
  · exact pk_le (2 * (7 + g)) (2 * (7 + g)) (fun _ => hq s) (fun e => absurd e (by omega)) (sd_2L g)
  · refine pk_le (2 * (7 + g)) f (fun e => absurd e (by omega)) (fun _ => ?_) (sd_2L g)
    exact sy_explains hC hY (sd_okn (by omega)) hm hO (fun t va' => br_f (by decide) (br_c (fun c => hr t c va' va') (fun c => nm_e (nm_r (nI_1 f) (hy t c va'))))) (fun t va' => br_t rfl (nm_r (nI_1 f) (hn t va')))
theorem sy_nextPattern {post : Int32 → SY → Prop} (hC : sd_C g ga gb fl ol) (hY : sd_Y gk ga gb kd fs sc) (hm : m ≤ 20) (hO : sd_O m pt cy)
    (h : ∀ va', post (sd_fst (fun p => sd_T (sd_run g gk ga gb fl ol) (sd_ex (sd_run g gk ga gb fl ol) m pt cy an) (nI p) (2 * (7 + g)) 0 (-1)) (-1) 128 0) (nI g, Dv, nI m, kd, fs, sc, fl, ol, pt, cy, an, va')) :
    wpY_nextPattern post (nI g, Dv, nI m, kd, fs, sc, fl, ol, pt, cy, an, va) := by
  have hg : g ≤ 14 := hC.1
  unfold wpY_nextPattern
  dsimp only
  refine ⟨129, sd_fl (σ := Nat → Int32) (fun n p va => wY_nextPattern_2 post n (nI p) (nI g) Dv (nI m) kd fs sc fl ol pt cy an va) (fun p => sd_T (sd_run g gk ga gb fl ol) (sd_ex (sd_run g gk ga gb fl ol) m pt cy an) (nI p) (2 * (7 + g)) 0 (-1)) (-1) 128 (fun r va' => post r (nI g, Dv, nI m, kd, fs, sc, fl, ol, pt, cy, an, va'))
    (fun n s hq => ?_) (fun n p s hlt hy hn => ?_) 128 0 va (by omega) h⟩
  · exact br_t (by decide) (hq s)
  · refine br_f (nI_ge (b := 128) hlt (by decide)) ⟨2 * (7 + g) + 1, ?_⟩
    refine sd_Tl (σ := Nat → Int32) (fun n' x f va => wY_nextPattern_13 post (wY_nextPattern_2 post n) (nI p) n' x (nI f) (nI g) Dv (nI m) kd fs sc fl ol pt cy an va) (sd_run g gk ga gb fl ol) (sd_ex (sd_run g gk ga gb fl ol) m pt cy an) (nI p) (2 * (7 + g)) _ _
      (fun n' x s hq => ?_) (fun n' x f s hlt' hn' hd' hy' => ?_) (2 * (7 + g)) 0 (-1) s (by omega) hy hn
    · exact pk_le (2 * (7 + g)) (2 * (7 + g)) (fun _ => nm_r (nI_1 p) (hq s)) (fun e => absurd e (by omega)) (sd_2L g)
    · refine pk_le (2 * (7 + g)) f (fun e => absurd e (by omega)) (fun _ => ?_) (sd_2L g)
      refine sy_explains hC hY (sd_okn (by omega)) hm hO (fun he va1 => br_f (by decide) ?_) (fun he va1 => br_t rfl (nm_r (nI_1 f) (hn' he va1)))
      exact sy_run (c := 1) hC hY (sd_okn (by omega)) hlt (by omega) (by omega) (fun va' => br_c (fun c => nm_r (nI_1 f) (hy' he (Or.inl c) va')) (fun c => br_c (fun r => nm_r (nI_1 f) (hy' he (Or.inr r) va')) (fun r => hd' he c r va')))
theorem sy_detected {post : Int32 → SY → Prop} {p c : Nat} (hC : sd_C g ga gb fl ol) (hY : sd_Y gk ga gb kd fs sc) (hp : p < 128) (h1 : 1 ≤ c) (h4 : c ≤ 4)
    (h : ∀ va', post (sd_cnt (fun f => ¬ sd_run g gk ga gb fl ol (nI f) (nI p) c = sd_run g gk ga gb fl ol (-1) (nI p) c) (2 * (7 + g)) 0 0) (nI g, Dv, M, kd, fs, sc, fl, ol, pt, cy, an, va')) :
    wpY_detected post (nI g, Dv, M, kd, fs, sc, fl, ol, pt, cy, an, va) (nI p) (nI c) := by
  have hg : g ≤ 14 := hC.1
  unfold wpY_detected
  dsimp only
  refine sy_pat_ok hp ?_
  refine br_t rfl ?_
  refine sy_cyc_ok h1 h4 ?_
  refine br_t rfl ?_
  refine sy_run hC hY sd_okm hp h1 h4 (fun va1 => ?_)
  refine ⟨2 * (7 + g) + 1, sd_cl (σ := Nat → Int32) (fun n x f va => wY_detected_35 post (nI p) (nI c) (sd_run g gk ga gb fl ol (-1) (nI p) c) n x (nI f) (nI g) Dv M kd fs sc fl ol pt cy an va) (fun f => ¬ sd_run g gk ga gb fl ol (nI f) (nI p) c = sd_run g gk ga gb fl ol (-1) (nI p) c) (2 * (7 + g)) _
    (fun n s => ?_) (fun n x f s hlt hy hn => ?_) (2 * (7 + g)) 0 0 va1 (by omega) rfl⟩
  · exact pk_le (2 * (7 + g)) (2 * (7 + g)) (fun _ => h s) (fun e => absurd e (by omega)) (sd_2L g)
  · refine pk_le (2 * (7 + g)) f (fun e => absurd e (by omega)) (fun _ => ?_) (sd_2L g)
    exact sy_run hC hY (sd_okn (by omega)) hp h1 h4 (fun va' => br_c (fun e => nm_r (nI_1 f) (hn (fun q => q e) va')) (fun e => nm_e (nm_r (nI_1 f) (hy e va'))))
theorem sy_hidden {post : Int32 → SY → Prop} (hC : sd_C g ga gb fl ol) (hY : sd_Y gk ga gb kd fs sc)
    (h : ∀ va', post (sd_cnt (fun f => sd_al (sd_run g gk ga gb fl ol) (nI f) (-1)) (2 * (7 + g)) 0 0) (nI g, Dv, M, kd, fs, sc, fl, ol, pt, cy, an, va')) :
    wpY_hidden post (nI g, Dv, M, kd, fs, sc, fl, ol, pt, cy, an, va) := by
  have hg : g ≤ 14 := hC.1
  unfold wpY_hidden
  dsimp only
  refine ⟨2 * (7 + g) + 1, sd_cl (σ := Nat → Int32) (fun n x f va => wY_hidden_4 post n x (nI f) (nI g) Dv M kd fs sc fl ol pt cy an va) (fun f => sd_al (sd_run g gk ga gb fl ol) (nI f) (-1)) (2 * (7 + g)) _
    (fun n s => ?_) (fun n x f s hlt hy hn => ?_) (2 * (7 + g)) 0 0 va (by omega) rfl⟩
  · exact pk_le (2 * (7 + g)) (2 * (7 + g)) (fun _ => h s) (fun e => absurd e (by omega)) (sd_2L g)
  · refine pk_le (2 * (7 + g)) f (fun e => absurd e (by omega)) (fun _ => ?_) (sd_2L g)
    exact sy_alike hC hY (sd_okn (by omega)) sd_okm (fun t va' => br_f (by decide) (nm_e (nm_r (nI_1 f) (hy t va')))) (fun t va' => br_t rfl (nm_r (nI_1 f) (hn t va')))
theorem sy_groups {post : Int32 → SY → Prop} (hC : sd_C g ga gb fl ol) (hY : sd_Y gk ga gb kd fs sc)
    (h : ∀ va', post (sd_cnt (fun f => sd_er (sd_run g gk ga gb fl ol) f = nI f) (2 * (7 + g)) 0 0) (nI g, Dv, M, kd, fs, sc, fl, ol, pt, cy, an, va')) :
    wpY_groups post (nI g, Dv, M, kd, fs, sc, fl, ol, pt, cy, an, va) := by
  have hg : g ≤ 14 := hC.1
  unfold wpY_groups
  dsimp only
  refine ⟨2 * (7 + g) + 1, sd_cl (σ := Nat → Int32) (fun n x f va => wY_groups_4 post n x (nI f) (nI g) Dv M kd fs sc fl ol pt cy an va) (fun f => sd_er (sd_run g gk ga gb fl ol) f = nI f) (2 * (7 + g)) _
    (fun n s => ?_) (fun n x f s hlt hy hn => ?_) (2 * (7 + g)) 0 0 va (by omega) rfl⟩
  · exact pk_le (2 * (7 + g)) (2 * (7 + g)) (fun _ => h s) (fun e => absurd e (by omega)) (sd_2L g)
  · refine pk_le (2 * (7 + g)) f (fun e => absurd e (by omega)) (fun _ => ?_) (sd_2L g)
    exact sy_earliest hC hY hlt (fun va' => br_c (fun c => nm_e (nm_r (nI_1 f) (hy c va'))) (fun c => nm_r (nI_1 f) (hn c va')))
theorem sy_candidateGroups {post : Int32 → SY → Prop} (hC : sd_C g ga gb fl ol) (hY : sd_Y gk ga gb kd fs sc) (hm : m ≤ 20) (hO : sd_O m pt cy)
    (h : ∀ va', post (sd_cnt (fun f => sd_er (sd_run g gk ga gb fl ol) f = nI f ∧ sd_po (sd_run g gk ga gb fl ol) (sd_ex (sd_run g gk ga gb fl ol) m pt cy an) (2 * (7 + g)) f) (2 * (7 + g)) 0 0) (nI g, Dv, nI m, kd, fs, sc, fl, ol, pt, cy, an, va')) :
    wpY_candidateGroups post (nI g, Dv, nI m, kd, fs, sc, fl, ol, pt, cy, an, va) := by
  have hg : g ≤ 14 := hC.1
  unfold wpY_candidateGroups
  dsimp only
  refine ⟨2 * (7 + g) + 1, sd_cl (σ := Nat → Int32) (fun n x f va => wY_candidateGroups_4 post n x (nI f) (nI g) Dv (nI m) kd fs sc fl ol pt cy an va) (fun f => sd_er (sd_run g gk ga gb fl ol) f = nI f ∧ sd_po (sd_run g gk ga gb fl ol) (sd_ex (sd_run g gk ga gb fl ol) m pt cy an) (2 * (7 + g)) f) (2 * (7 + g)) _
    (fun n s => ?_) (fun n x f s hlt hy hn => ?_) (2 * (7 + g)) 0 0 va (by omega) rfl⟩
  · exact pk_le (2 * (7 + g)) (2 * (7 + g)) (fun _ => h s) (fun e => absurd e (by omega)) (sd_2L g)
  · refine pk_le (2 * (7 + g)) f (fun e => absurd e (by omega)) (fun _ => ?_) (sd_2L g)
    refine sy_earliest hC hY hlt (fun va1 => br_c (fun c => ?_) (fun c => nm_r (nI_1 f) (hn (fun q => c q.1) va1)))
    exact sy_possible hC hY hm hO hlt (fun t va' => br_f (by decide) (nm_e (nm_r (nI_1 f) (hy ⟨c, t⟩ va')))) (fun t va' => br_t rfl (nm_r (nI_1 f) (hn (fun q => t q.2) va')))
end
end
section
/-! the relation -/
def sd_Fo (g : Nat) (D : Int32) : Prop := D = -1 ∨ ∃ f, f < 2 * (7 + g) ∧ D = nI f
def sd_S (g m : Nat) (D H : Int32) (gk ga gb fl ol ft kd fs sc pt cy an : Nat → Int32) : Prop :=
  sd_C g ga gb fl ol ∧ sd_Y gk ga gb kd fs sc ∧ sd_Fo g D ∧ m ≤ 20 ∧ sd_O m pt cy
  ∧ (H = 0 ↔ ¬ sd_ex (sd_run g gk ga gb fl ol) m pt cy an (-1))
  ∧ (∀ f, f < 2 * (7 + g) → (ft f = 0 ↔ ¬ sd_ex (sd_run g gk ga gb fl ol) m pt cy an (nI f)))
/-- the circuits alike, the device alike, as many observations noted, and a fault fits where the noted observations agree with the pure run; scratch arrays are free -/
def i_Rel (k : Nat) (u : SX) (v : SY) : Prop :=
  ∃ (g m : Nat) (D H : Int32) (gk ga gb fl ol ft lv oc kd fs sc pt cy an va : Nat → Int32),
    u = (nI (7 + g), D, H, nI m, gk, ga, gb, fl, ol, ft, lv, oc) ∧ v = (nI g, D, nI m, kd, fs, sc, fl, ol, pt, cy, an, va) ∧
    sd_S g m D H gk ga gb fl ol ft kd fs sc pt cy an
theorem i_up {k : Nat} {u : SX} {v : SY} (h : i_Rel k u v) : i_Rel (k + 4) u v := h
theorem sd_mk {k g m : Nat} {D H : Int32} {gk ga gb fl ol ft lv oc kd fs sc pt cy an va : Nat → Int32} (h : sd_S g m D H gk ga gb fl ol ft kd fs sc pt cy an) :
    i_Rel k (nI (7 + g), D, H, nI m, gk, ga, gb, fl, ol, ft, lv, oc) (nI g, D, nI m, kd, fs, sc, fl, ol, pt, cy, an, va) :=
  ⟨g, m, D, H, gk, ga, gb, fl, ol, ft, lv, oc, kd, fs, sc, pt, cy, an, va, rfl, rfl, h⟩
theorem sd_S0 {g : Nat} {D : Int32} {gk ga gb fl ol ft kd fs sc pt cy an : Nat → Int32} (hC : sd_C g ga gb fl ol) (hY : sd_Y gk ga gb kd fs sc) (hF : sd_Fo g D) (hf : ∀ j, j < 42 → ft j = 1) :
    sd_S g 0 D 1 gk ga gb fl ol ft kd fs sc pt cy an := by
  have hg : g ≤ 14 := hC.1
  have hx : ∀ φ, sd_ex (sd_run g gk ga gb fl ol) 0 pt cy an φ := fun φ i hi => absurd hi (Nat.not_lt_zero i)
  refine ⟨hC, hY, hF, by omega, fun i hi => absurd hi (Nat.not_lt_zero i), ⟨fun e => absurd e (by decide), fun e => absurd (hx (-1)) e⟩, fun f hlt => ?_⟩
  rw [hf f (by omega)]
  exact ⟨fun e => absurd e (by decide), fun e => absurd (hx (nI f)) e⟩
theorem sd_mk0 {k g : Nat} {D : Int32} {gk ga gb fl ol ft lv oc kd fs sc pt cy an va : Nat → Int32} (hC : sd_C g ga gb fl ol) (hY : sd_Y gk ga gb kd fs sc) (hF : sd_Fo g D) (hf : ∀ j, j < 42 → ft j = 1) :
    i_Rel k (nI (7 + g), D, 1, 0, gk, ga, gb, fl, ol, ft, lv, oc) (nI g, D, 0, kd, fs, sc, fl, ol, pt, cy, an, va) :=
  sd_mk (m := 0) (sd_S0 hC hY hF hf)
theorem sd_ok_of {g : Nat} {D : Int32} (hg : g ≤ 14) (h : sd_Fo g D) : sd_ok D := by
  rcases h with h | ⟨f, hf, h⟩
  · exact Or.inl h
  · exact Or.inr ⟨f, by omega, h⟩
/-! the constructors -/
def sd_fi : Nat → Nat → Int32
  | 0 => fun _ => 0
  | k + 1 => upd (sd_fi k) k (4 + nI k)
theorem sx_initLoop {post : SX → Prop} {L D H N : Int32} {gk ga gb ol ft lv oc : Nat → Int32}
    (hp : ∀ ft', (∀ j, j < 42 → ft' j = 1) → post (L, D, 1, 0, gk, ga, gb, sd_fi 3, ol, ft', lv, oc)) :
    ∀ d i, i + d = 3 → wX_init_80 post L D H N (d + 1) (nI i) gk ga gb (sd_fi i) ol ft lv oc := by
  intro d
  induction d with
  | zero =>
    intro i hi
    obtain rfl : i = 3 := by omega
    exact br_t (by decide) (sx_drop hp)
  | succ d ih =>
    intro i hi
    refine br_f (nI_ge (b := 3) (by omega) (by decide)) ⟨vp_in_nI (by omega) (by omega), fun a ea y ey => ?_⟩
    rw [ea, ey, nI_1, nI_clamp (by omega)]
    exact ih (i + 1) (by omega)
theorem sy_initLoop {post : SY → Prop} {G Dv M : Int32} {kd fs sc ou pt cy an va : Nat → Int32} (hp : post (G, Dv, M, kd, fs, sc, sd_fi 3, ou, pt, cy, an, va)) :
    ∀ d i, i + d = 3 → wY_init_81 post G Dv M (d + 1) (nI i) kd fs sc (sd_fi i) ou pt cy an va := by
  intro d
  induction d with
  | zero =>
    intro i hi
    obtain rfl : i = 3 := by omega
    exact br_t (by decide) hp
  | succ d ih =>
    intro i hi
    refine br_f (nI_ge (b := 3) (by omega) (by decide)) ⟨vp_in_nI (by omega) (by omega), fun a ea y ey => ?_⟩
    rw [ea, ey, nI_1, nI_clamp (by omega)]
    exact ih (i + 1) (by omega)
theorem sd_C0 {ga gb : Nat → Int32} : sd_C 0 ga gb (sd_fi 3) (fun _ => 0) := by
  refine ⟨by omega, fun i h1 h2 => absurd h2 (by omega), fun k hk => ?_, fun k _ => ⟨0, by omega, rfl⟩⟩
  rcases (by omega : k = 0 ∨ k = 1 ∨ k = 2) with rfl | rfl | rfl
  · exact ⟨4, by omega, by decide⟩
  · exact ⟨5, by omega, by decide⟩
  · exact ⟨6, by omega, by decide⟩
theorem i_vc0 : wpX_init (fun u => wpY_init (fun v => i_Rel 0 u v)) := by
  unfold wpX_init
  refine ⟨4, sx_initLoop (fun ft' hft => ?_) 3 0 (by omega)⟩
  unfold wpY_init
  refine ⟨4, sy_initLoop ?_ 3 0 (by omega)⟩
  exact sd_mk0 (g := 0) sd_C0 ⟨fun _ => rfl, fun _ => rfl, fun _ => rfl⟩ (Or.inl rfl) hft
/-! gate -/
theorem sd_k6 {A B C : Prop} {x : Int32} (hb : sd_bad 6 x) (h1 : A) (h2 : C) : (x < 0 → A) ∧ (¬ x < 0 → ((x ≤ 5 → B) ∧ (¬ x ≤ 5 → C))) := by
  rcases hb with hb | ⟨j, h3, h4, rfl⟩
  · exact br_t hb h1
  · exact br_f (nI_pos h4) (pk_le j 5 (fun c => absurd c (by omega)) (fun _ => h2))
theorem sd_k6o {A B C : Prop} {j : Nat} (h : j < 6) (hB : B) : (nI j < 0 → A) ∧ (¬ nI j < 0 → ((nI j ≤ 5 → B) ∧ (¬ nI j ≤ 5 → C))) :=
  br_f (nI_pos (by omega)) (pk_le j 5 (fun _ => hB) (fun c => absurd c (by omega)))
theorem sx_g85 {post : Int32 → SX → Prop} {g : Nat} {L D H N z : Int32} {gk ga gb fl ol ft lv oc : Nat → Int32} (hg : g < 14)
    (h : ∀ ft', (∀ j, j < 42 → ft' j = 1) → post (nI (7 + g)) (nI (7 + (g + 1)), D, 1, 0, gk, ga, upd gb (7 + g) z, fl, ol, ft', lv, oc)) :
    wX_gate_85 post (nI (7 + g)) z (nI (7 + g)) L D H N gk ga gb fl ol ft lv oc := by
  unfold wX_gate_85
  rw [nI_clamp (by omega)]
  exact ⟨vp_in_nI (by omega) (by omega), nm_e (nm_r (nI_1 (7 + g)) (sx_drop h))⟩
theorem sx_g35 {post : Int32 → SX → Prop} {g kk : Nat} {D H N x2 x3 z : Int32} {gk ga gb fl ol ft lv oc : Nat → Int32} (hg : g < 14) (hk : kk < 6) (hz : (kk = 5 → z = x2) ∧ (kk ≠ 5 → z = x3))
    (h : ∀ ft', (∀ j, j < 42 → ft' j = 1) → post (nI (7 + g)) (nI (7 + (g + 1)), D, 1, 0, upd gk (7 + g) (nI kk), upd ga (7 + g) x2, upd gb (7 + g) z, fl, ol, ft', lv, oc)) :
    wX_gate_35 post (nI kk) x2 x3 (nI (7 + g)) D H N gk ga gb fl ol ft lv oc := by
  have hin : vp_in (nI (7 + g)) 21 := vp_in_nI (by omega) (by omega)
  unfold wX_gate_35
  rw [nI_clamp (by omega)]
  refine pk_lt (7 + g) 21 (fun _ => ⟨hin, nm_e ⟨hin, nm_e (pk_eq kk 5 (fun c => ?_) (fun c => ?_))⟩⟩) (fun c => absurd c (by omega))
  · rw [← hz.1 c]
    rw [← hz.1 c] at h
    exact sx_g85 hg h
  · rw [← hz.2 c]
    exact sx_g85 hg h
theorem sx_g35n {post : Int32 → SX → Prop} {g : Nat} {D H N x1 x2 x3 : Int32} {gk ga gb fl ol ft lv oc : Nat → Int32} (hg : g = 14)
    (h : post (-3) (nI (7 + g), D, H, N, gk, ga, gb, fl, ol, ft, lv, oc)) : wX_gate_35 post x1 x2 x3 (nI (7 + g)) D H N gk ga gb fl ol ft lv oc := by
  unfold wX_gate_35
  exact pk_lt (7 + g) 21 (fun c => absurd c (by omega)) (fun _ => h)
theorem sy_g83 {post : Int32 → SY → Prop} {g : Nat} {G Dv M z : Int32} {kd fs sc fl ol pt cy an va : Nat → Int32} (hg : g < 14)
    (h : post (7 + nI g) (nI (g + 1), Dv, 0, kd, fs, upd sc g z, fl, ol, pt, cy, an, va)) :
    wY_gate_83 post (nI g) z (nI g) G Dv M kd fs sc fl ol pt cy an va := by
  unfold wY_gate_83
  rw [nI_clamp (by omega)]
  exact ⟨vp_in_nI (by omega) (by omega), nm_e (nm_r (nI_1 g) h)⟩
theorem sy_g35 {post : Int32 → SY → Prop} {g kk : Nat} {Dv M x2 x3 z : Int32} {kd fs sc fl ol pt cy an va : Nat → Int32} (hg : g < 14) (hk : kk < 6) (hz : (kk = 5 → z = x2) ∧ (kk ≠ 5 → z = x3))
    (h : post (7 + nI g) (nI (g + 1), Dv, 0, upd kd g (nI kk), upd fs g x2, upd sc g z, fl, ol, pt, cy, an, va)) :
    wY_gate_35 post (nI kk) x2 x3 (nI g) Dv M kd fs sc fl ol pt cy an va := by
  have hin : vp_in (nI g) 14 := vp_in_nI (by omega) (by omega)
  unfold wY_gate_35
  rw [nI_clamp (by omega)]
  refine pk_lt g 14 (fun _ => ⟨hin, nm_e ⟨hin, nm_e (pk_eq kk 5 (fun c => ?_) (fun c => ?_))⟩⟩) (fun c => absurd c (by omega))
  · rw [← hz.1 c]
    rw [← hz.1 c] at h
    exact sy_g83 hg h
  · rw [← hz.2 c]
    exact sy_g83 hg h
theorem sy_g35n {post : Int32 → SY → Prop} {g : Nat} {Dv M x1 x2 x3 : Int32} {kd fs sc fl ol pt cy an va : Nat → Int32} (hg : g = 14)
    (h : post (-3) (nI g, Dv, M, kd, fs, sc, fl, ol, pt, cy, an, va)) : wY_gate_35 post x1 x2 x3 (nI g) Dv M kd fs sc fl ol pt cy an va := by
  unfold wY_gate_35
  exact pk_lt g 14 (fun c => absurd c (by omega)) (fun _ => h)
theorem sd_uY {g : Nat} {a b : Nat → Int32} {x : Int32} (h : ∀ i, b i = a (i + 7)) : ∀ i, upd b g x i = upd a (7 + g) x (i + 7) := by
  intro i
  by_cases c : i = g
  · subst c
    rw [pk_us, Nat.add_comm i 7, pk_us]
  · rw [pk_un c, pk_un (by omega)]
    exact h i
theorem sd_Cg {g a b : Nat} {ga gb fl ol : Nat → Int32} (hC : sd_C g ga gb fl ol) (hg : g < 14) (ha : a < 7 + g) (hb : b < 7 + g) : sd_C (g + 1) (upd ga (7 + g) (nI a)) (upd gb (7 + g) (nI b)) fl ol := by
  obtain ⟨_, h1, h2, h3⟩ := hC
  refine ⟨by omega, fun i hi1 hi2 => ?_, fun k hk => ?_, fun k hk => ?_⟩
  · by_cases c : i = 7 + g
    · subst c
      rw [pk_us, pk_us]
      exact ⟨⟨a, ha, rfl⟩, ⟨b, hb, rfl⟩⟩
    · rw [pk_un c, pk_un c]
      exact h1 i hi1 (by omega)
  · obtain ⟨j, hj, e⟩ := h2 k hk
    exact ⟨j, by omega, e⟩
  · obtain ⟨j, hj, e⟩ := h3 k hk
    exact ⟨j, by omega, e⟩
theorem sd_Fg {g : Nat} {D : Int32} (h : sd_Fo g D) : sd_Fo (g + 1) D := by
  rcases h with h | ⟨f, hf, h⟩
  · exact Or.inl h
  · exact Or.inr ⟨f, by omega, h⟩
theorem i_vc_gate {k : Nat} {u : SX} {v : SY} (I : i_Rel k u v) (hk : k + 4 ≤ 2048) (v1 : Int32) (v2 : Int32) (v3 : Int32) : wpX_gate (fun r u' => wpY_gate (fun r' v' => r' = r ∧ i_Rel (k + 4) u' v') v v1 v2 v3) u v1 v2 v3 := by
  obtain ⟨g, m, D, H, gk, ga, gb, fl, ol, ft, lv, oc, kd, fs, sc, pt, cy, an, va, rfl, rfl, hS⟩ := I
  obtain ⟨hC, hY, hF, _⟩ := id hS
  have hg : g ≤ 14 := hC.1
  unfold wpX_gate wpY_gate
  dsimp only
  rcases sd_di 6 v1 with hb | ⟨kk, hkk, rfl⟩
  · exact sd_k6 hb (sd_k6 hb ⟨rfl, sd_mk hS⟩ ⟨rfl, sd_mk hS⟩) (sd_k6 hb ⟨rfl, sd_mk hS⟩ ⟨rfl, sd_mk hS⟩)
  refine sd_k6o hkk ?_
  rcases sd_di (7 + g) v2 with hb | ⟨a, ha, rfl⟩
  · refine sx_line_no hb ?_
    refine br_t rfl ?_
    refine sd_k6o hkk ?_
    refine sy_line_no hg hb ?_
    exact br_f (by decide) ⟨rfl, sd_mk hS⟩
  refine sx_line_ok hg ha ?_
  refine br_f (by decide) ?_
  have fin : ∀ z x3 b, z = nI b → b < 7 + g → ((kk = 5 → z = nI a) ∧ (kk ≠ 5 → z = x3)) → ∀ postY : Int32 → SX → Prop,
      (∀ r u', (wY_gate_35 (fun r' v' => r' = r ∧ i_Rel (k + 4) u' v') (nI kk) (nI a) x3 (nI g) D (nI m) kd fs sc fl ol pt cy an va) → postY r u') →
      wX_gate_35 postY (nI kk) (nI a) x3 (nI (7 + g)) D H (nI m) gk ga gb fl ol ft lv oc := by
    intro z x3 b ez hb hz postY hpost
    by_cases c : g = 14
    · exact sx_g35n c (hpost _ _ (sy_g35n c ⟨rfl, sd_mk hS⟩))
    · refine sx_g35 (by omega) hkk hz (fun ft' hft => hpost _ _ (sy_g35 (by omega) hkk hz ⟨nI_add 7 g, ?_⟩))
      rw [ez]
      exact sd_mk0 (sd_Cg hC (by omega) ha hb) ⟨sd_uY hY.1, sd_uY hY.2.1, sd_uY hY.2.2⟩ (sd_Fg hF) hft
  refine pk_eq kk 5 (fun c => ?_) (fun c => ?_)
  · refine fin (nI a) v3 a rfl ha ⟨fun _ => rfl, fun q => absurd c q⟩ _ (fun r u' hr => ?_)
    refine sd_k6o hkk ?_
    refine sy_line_ok hg ha ?_
    exact br_t rfl (pk_eq kk 5 (fun _ => hr) (fun q => absurd c q))
  · rcases sd_di (7 + g) v3 with hb | ⟨b, hb, rfl⟩
    · refine sx_line_no hb ?_
      refine br_t rfl ?_
      refine sd_k6o hkk ?_
      refine sy_line_ok hg ha ?_
      refine br_t rfl (pk_eq kk 5 (fun q => absurd q c) (fun _ => ?_))
      refine sy_line_no hg hb ?_
      exact br_f (by decide) ⟨rfl, sd_mk hS⟩
    · refine sx_line_ok hg hb ?_
      refine br_f (by decide) ?_
      refine fin (nI b) (nI b) b rfl hb ⟨fun q => absurd q c, fun _ => rfl⟩ _ (fun r u' hr => ?_)
      refine sd_k6o hkk ?_
      refine sy_line_ok hg ha ?_
      refine br_t rfl (pk_eq kk 5 (fun q => absurd q c) (fun _ => ?_))
      refine sy_line_ok hg hb ?_
      exact br_t rfl hr
end
section
/-! the other owed statements -/
theorem sd_kx {A B C : Prop} {n : Nat} {x y : Int32} (hy : y = nI n) (hn : n < 2 ^ 31) (hb : sd_bad n x) (h1 : A) (h2 : C) : (x < 0 → A) ∧ (¬ x < 0 → ((x < y → B) ∧ (¬ x < y → C))) := by
  rcases hb with hb | ⟨j, h3, h4, rfl⟩
  · exact br_t hb h1
  · exact br_f (nI_pos h4) (pk_lt j n (fun c => absurd c (by omega)) (fun _ => h2) rfl hy)
theorem sd_kxo {A B C : Prop} {n j : Nat} {y : Int32} (hy : y = nI n) (hn : n < 2 ^ 31) (h : j < n) (hB : B) : (nI j < 0 → A) ∧ (¬ nI j < 0 → ((nI j < y → B) ∧ (¬ nI j < y → C))) :=
  br_f (nI_pos (by omega)) (pk_lt j n (fun _ => hB) (fun c => absurd c (by omega)) rfl hy)
theorem sd_ky {A B C : Prop} {n : Nat} {x y : Int32} (hy : y = nI n) (hn : n < 2 ^ 31) (hb : sd_bad (n + 1) x) (h1 : A) (h2 : C) : (x < 0 → A) ∧ (¬ x < 0 → ((x ≤ y → B) ∧ (¬ x ≤ y → C))) := by
  rcases hb with hb | ⟨j, h3, h4, rfl⟩
  · exact br_t hb h1
  · exact br_f (nI_pos h4) (pk_le j n (fun c => absurd c (by omega)) (fun _ => h2) rfl hy)
theorem sd_kyo {A B C : Prop} {n j : Nat} {y : Int32} (hy : y = nI n) (hn : n < 2 ^ 31) (h : j < n + 1) (hB : B) : (nI j < 0 → A) ∧ (¬ nI j < 0 → ((nI j ≤ y → B) ∧ (¬ nI j ≤ y → C))) :=
  br_f (nI_pos (by omega)) (pk_le j n (fun _ => hB) (fun c => absurd c (by omega)) rfl hy)
theorem sd_ur {n L k l : Nat} {a : Nat → Int32} (h : ∀ i, i < n → ∃ j, j < L ∧ a i = nI j) (hl : l < L) : ∀ i, i < n → ∃ j, j < L ∧ upd a k (nI l) i = nI j := by
  intro i hi
  by_cases c : i = k
  · subst c
    exact ⟨l, hl, pk_us⟩
  · rw [pk_un c]
    exact h i hi
theorem i_vc_feed {k : Nat} {u : SX} {v : SY} (I : i_Rel k u v) (hk : k + 4 ≤ 2048) (v1 : Int32) (v2 : Int32) : wpX_feed (fun r u' => wpY_feed (fun r' v' => r' = r ∧ i_Rel (k + 4) u' v') v v1 v2) u v1 v2 := by
  obtain ⟨g, m, D, H, gk, ga, gb, fl, ol, ft, lv, oc, kd, fs, sc, pt, cy, an, va, rfl, rfl, hS⟩ := I
  obtain ⟨hC, hY, hF, _⟩ := id hS
  have hg : g ≤ 14 := hC.1
  unfold wpX_feed wpY_feed
  dsimp only
  rcases sd_di 3 v1 with hb | ⟨j, hj, rfl⟩
  · exact sd_kx (n := 3) rfl (by decide) hb (sd_ky (n := 2) rfl (by decide) hb ⟨rfl, sd_mk hS⟩ ⟨rfl, sd_mk hS⟩) (sd_ky (n := 2) rfl (by decide) hb ⟨rfl, sd_mk hS⟩ ⟨rfl, sd_mk hS⟩)
  refine sd_kxo (n := 3) rfl (by decide) hj ?_
  rcases sd_di (7 + g) v2 with hb | ⟨l, hl, rfl⟩
  · refine sx_line_no hb ?_
    refine br_t rfl ?_
    refine sd_kyo (n := 2) rfl (by decide) hj ?_
    refine sy_line_no hg hb ?_
    exact br_f (by decide) ⟨rfl, sd_mk hS⟩
  have hin : vp_in (nI j) 3 := vp_in_nI hj (by decide)
  have cl : (nI j).toNatClampNeg = j := nI_clamp (by omega)
  refine sx_line_ok hg hl ?_
  refine br_f (by decide) ⟨hin, nm_e ⟨hin, nm_e ?_⟩⟩
  refine sx_drop (fun ft' hft => ?_)
  dsimp only
  refine sd_kyo (n := 2) rfl (by decide) hj ?_
  refine sy_line_ok hg hl ?_
  refine br_t rfl ⟨hin, nm_e ⟨hin, nm_e ⟨rfl, ?_⟩⟩⟩
  rw [cl]
  exact sd_mk0 ⟨hC.1, hC.2.1, sd_ur hC.2.2.1 hl, hC.2.2.2⟩ hY hF hft
theorem i_vc_output {k : Nat} {u : SX} {v : SY} (I : i_Rel k u v) (hk : k + 4 ≤ 2048) (v1 : Int32) (v2 : Int32) : wpX_output (fun r u' => wpY_output (fun r' v' => r' = r ∧ i_Rel (k + 4) u' v') v v1 v2) u v1 v2 := by
  obtain ⟨g, m, D, H, gk, ga, gb, fl, ol, ft, lv, oc, kd, fs, sc, pt, cy, an, va, rfl, rfl, hS⟩ := I
  obtain ⟨hC, hY, hF, _⟩ := id hS
  have hg : g ≤ 14 := hC.1
  unfold wpX_output wpY_output
  dsimp only
  rcases sd_di 2 v1 with hb | ⟨j, hj, rfl⟩
  · exact sd_kx (n := 2) rfl (by decide) hb (sd_ky (n := 1) rfl (by decide) hb ⟨rfl, sd_mk hS⟩ ⟨rfl, sd_mk hS⟩) (sd_ky (n := 1) rfl (by decide) hb ⟨rfl, sd_mk hS⟩ ⟨rfl, sd_mk hS⟩)
  refine sd_kxo (n := 2) rfl (by decide) hj ?_
  rcases sd_di (7 + g) v2 with hb | ⟨l, hl, rfl⟩
  · refine sx_line_no hb ?_
    refine br_t rfl ?_
    refine sd_kyo (n := 1) rfl (by decide) hj ?_
    refine sy_line_no hg hb ?_
    exact br_f (by decide) ⟨rfl, sd_mk hS⟩
  have hin : vp_in (nI j) 2 := vp_in_nI hj (by decide)
  have cl : (nI j).toNatClampNeg = j := nI_clamp (by omega)
  refine sx_line_ok hg hl ?_
  refine br_f (by decide) ⟨hin, nm_e ⟨hin, nm_e ?_⟩⟩
  refine sx_drop (fun ft' hft => ?_)
  dsimp only
  refine sd_kyo (n := 1) rfl (by decide) hj ?_
  refine sy_line_ok hg hl ?_
  refine br_t rfl ⟨hin, nm_e ⟨hin, nm_e ⟨rfl, ?_⟩⟩⟩
  rw [cl]
  exact sd_mk0 ⟨hC.1, hC.2.1, hC.2.2.1, sd_ur hC.2.2.2 hl⟩ hY hF hft
theorem i_vc_lines {k : Nat} {u : SX} {v : SY} (I : i_Rel k u v) (hk : k + 4 ≤ 2048) : wpX_lines (fun r => wpY_lines (fun r' => r' = r ∧ i_Rel (k + 4) u v) v) u := by
  have J : i_Rel (k + 4) u v := I
  obtain ⟨g, m, D, H, gk, ga, gb, fl, ol, ft, lv, oc, kd, fs, sc, pt, cy, an, va, rfl, rfl, hS⟩ := I
  exact ⟨nI_add 7 g, J⟩
theorem i_vc_inject {k : Nat} {u : SX} {v : SY} (I : i_Rel k u v) (hk : k + 4 ≤ 2048) (v1 : Int32) : wpX_inject (fun r u' => wpY_inject (fun r' v' => r' = r ∧ i_Rel (k + 4) u' v') v v1) u v1 := by
  obtain ⟨g, m, D, H, gk, ga, gb, fl, ol, ft, lv, oc, kd, fs, sc, pt, cy, an, va, rfl, rfl, hS⟩ := I
  obtain ⟨hC, hY, hF, _⟩ := id hS
  have hg : g ≤ 14 := hC.1
  unfold wpX_inject wpY_inject wX_inject_15 wY_inject_15
  dsimp only
  by_cases c : v1 = -1
  · refine br_t c ?_
    refine sx_drop (fun ft' hft => ?_)
    exact br_t c ⟨rfl, sd_mk0 hC hY (Or.inl c) hft⟩
  · refine br_f c ?_
    rcases sd_di (2 * (7 + g)) v1 with hb | ⟨f, hf, rfl⟩
    · refine sx_fault_no hg hb ?_
      refine br_t rfl ?_
      refine br_f c ?_
      refine sy_fault_no hg hb ?_
      exact br_f (by decide) ⟨rfl, sd_mk hS⟩
    · refine sx_fault_ok hg hf ?_
      refine br_f (by decide) ?_
      refine sx_drop (fun ft' hft => ?_)
      refine br_f c ?_
      refine sy_fault_ok hg hf ?_
      exact br_t rfl ⟨rfl, sd_mk0 hC hY (Or.inr ⟨f, hf, rfl⟩) hft⟩
theorem i_vc_forget {k : Nat} {u : SX} {v : SY} (I : i_Rel k u v) (hk : k + 4 ≤ 2048) : wpX_forget (fun r u' => wpY_forget (fun r' v' => r' = r ∧ i_Rel (k + 4) u' v') v) u := by
  obtain ⟨g, m, D, H, gk, ga, gb, fl, ol, ft, lv, oc, kd, fs, sc, pt, cy, an, va, rfl, rfl, hS⟩ := I
  obtain ⟨hC, hY, hF, _⟩ := id hS
  unfold wpX_forget wpY_forget
  dsimp only
  exact sx_drop (fun ft' hft => ⟨rfl, sd_mk0 hC hY hF hft⟩)
theorem i_vc_observations {k : Nat} {u : SX} {v : SY} (I : i_Rel k u v) (hk : k + 4 ≤ 2048) : wpX_observations (fun r => wpY_observations (fun r' => r' = r ∧ i_Rel (k + 4) u v) v) u := by
  have J : i_Rel (k + 4) u v := I
  obtain ⟨g, m, D, H, gk, ga, gb, fl, ol, ft, lv, oc, kd, fs, sc, pt, cy, an, va, rfl, rfl, hS⟩ := I
  exact ⟨rfl, J⟩
theorem i_vc_response {k : Nat} {u : SX} {v : SY} (I : i_Rel k u v) (hk : k + 4 ≤ 2048) (v1 : Int32) (v2 : Int32) : wpX_response (fun r u' => wpY_response (fun r' v' => r' = r ∧ i_Rel (k + 4) u' v') v v1 v2) u v1 v2 := by
  obtain ⟨g, m, D, H, gk, ga, gb, fl, ol, ft, lv, oc, kd, fs, sc, pt, cy, an, va, rfl, rfl, hS⟩ := I
  obtain ⟨hC, hY, hF, _⟩ := id hS
  unfold wpX_response wpY_response
  dsimp only
  rcases sd_di 128 v1 with hb | ⟨p, hp, rfl⟩
  · refine sx_pat_no hb ?_
    refine br_t rfl ?_
    refine sy_pat_no hb ?_
    exact br_f (by decide) ⟨rfl, sd_mk hS⟩
  refine sx_pat_ok hp ?_
  refine br_f (by decide) ?_
  rcases sd_dc v2 with hb | ⟨c, h1, h4, rfl⟩
  · refine sx_cyc_no hb ?_
    refine br_t rfl ?_
    refine sy_pat_ok hp ?_
    refine br_t rfl ?_
    refine sy_cyc_no hb ?_
    exact br_f (by decide) ⟨rfl, sd_mk hS⟩
  refine sx_cyc_ok h1 h4 ?_
  refine br_f (by decide) ?_
  refine sx_run hC h1 h4 (fun lv' => ?_)
  dsimp only
  refine sy_pat_ok hp ?_
  refine br_t rfl ?_
  refine sy_cyc_ok h1 h4 ?_
  refine br_t rfl ?_
  exact sy_run hC hY sd_okm hp h1 h4 (fun va' => ⟨rfl, sd_mk hS⟩)
theorem i_vc_responseWith {k : Nat} {u : SX} {v : SY} (I : i_Rel k u v) (hk : k + 4 ≤ 2048) (v1 : Int32) (v2 : Int32) (v3 : Int32) : wpX_responseWith (fun r u' => wpY_responseWith (fun r' v' => r' = r ∧ i_Rel (k + 4) u' v') v v1 v2 v3) u v1 v2 v3 := by
  obtain ⟨g, m, D, H, gk, ga, gb, fl, ol, ft, lv, oc, kd, fs, sc, pt, cy, an, va, rfl, rfl, hS⟩ := I
  obtain ⟨hC, hY, hF, _⟩ := id hS
  have hg : g ≤ 14 := hC.1
  unfold wpX_responseWith wpY_responseWith
  dsimp only
  rcases sd_di (2 * (7 + g)) v1 with hb | ⟨f, hf, rfl⟩
  · refine sx_fault_no hg hb ?_
    refine br_t rfl ?_
    refine sy_fault_no hg hb ?_
    exact br_f (by decide) ⟨rfl, sd_mk hS⟩
  refine sx_fault_ok hg hf ?_
  refine br_f (by decide) ?_
  rcases sd_di 128 v2 with hb | ⟨p, hp, rfl⟩
  · refine sx_pat_no hb ?_
    refine br_t rfl ?_
    refine sy_fault_ok hg hf ?_
    refine br_t rfl ?_
    refine sy_pat_no hb ?_
    exact br_f (by decide) ⟨rfl, sd_mk hS⟩
  refine sx_pat_ok hp ?_
  refine br_f (by decide) ?_
  rcases sd_dc v3 with hb | ⟨c, h1, h4, rfl⟩
  · refine sx_cyc_no hb ?_
    refine br_t rfl ?_
    refine sy_fault_ok hg hf ?_
    refine br_t rfl ?_
    refine sy_pat_ok hp ?_
    refine br_t rfl ?_
    refine sy_cyc_no hb ?_
    exact br_f (by decide) ⟨rfl, sd_mk hS⟩
  refine sx_cyc_ok h1 h4 ?_
  refine br_f (by decide) ?_
  refine sx_run hC h1 h4 (fun lv' => ?_)
  dsimp only
  refine sy_fault_ok hg hf ?_
  refine br_t rfl ?_
  refine sy_pat_ok hp ?_
  refine br_t rfl ?_
  refine sy_cyc_ok h1 h4 ?_
  refine br_t rfl ?_
  exact sy_run hC hY (sd_okn (by omega)) hp h1 h4 (fun va' => ⟨rfl, sd_mk hS⟩)
end
section
/-! observe, and the questions on candidates and alike faults -/
theorem sd_exS {R : Int32 → Int32 → Nat → Int32} {m c : Nat} {pt cy an : Nat → Int32} {p r φ : Int32} (hc : c ≤ 4) :
    sd_ex R (m + 1) (upd pt m p) (upd cy m (nI c)) (upd an m r) φ ↔ (sd_ex R m pt cy an φ ∧ R φ p c = r) := by
  constructor
  · intro h
    refine ⟨fun i hi => ?_, ?_⟩
    · have e := h i (by omega)
      rw [pk_un (by omega), pk_un (by omega), pk_un (by omega)] at e
      exact e
    · have e := h m (by omega)
      rw [pk_us, pk_us, pk_us, nI_clamp (by omega)] at e
      exact e
  · rintro ⟨h1, h2⟩ i hi
    by_cases q : i = m
    · subst q
      rw [pk_us, pk_us, pk_us, nI_clamp (by omega)]
      exact h2
    · rw [pk_un q, pk_un q, pk_un q]
      exact h1 i (by omega)
theorem sd_not2 {P Q : Prop} {A : Prop} (h : A ↔ ¬ P) : (A ∨ ¬ Q) ↔ ¬ (P ∧ Q) := by
  constructor
  · rintro (a | b) ⟨p, q⟩
    · exact h.1 a p
    · exact b q
  · intro n
    by_cases p : P
    · exact Or.inr (fun q => n ⟨p, q⟩)
    · exact Or.inl (h.2 p)
theorem i_vc_observe {k : Nat} {u : SX} {v : SY} (I : i_Rel k u v) (hk : k + 4 ≤ 2048) (v1 : Int32) (v2 : Int32) : wpX_observe (fun r u' => wpY_observe (fun r' v' => r' = r ∧ i_Rel (k + 4) u' v') v v1 v2) u v1 v2 := by
  obtain ⟨g, m, D, H, gk, ga, gb, fl, ol, ft, lv, oc, kd, fs, sc, pt, cy, an, va, rfl, rfl, hS⟩ := I
  obtain ⟨hC, hY, hF, hm, hO, hH, hft⟩ := id hS
  have hg : g ≤ 14 := hC.1
  unfold wpX_observe wpY_observe
  dsimp only
  rcases sd_di 128 v1 with hb | ⟨p, hp, rfl⟩
  · refine sx_pat_no hb ?_
    refine br_t rfl ?_
    refine sy_pat_no hb ?_
    exact br_f (by decide) ⟨rfl, sd_mk hS⟩
  refine sx_pat_ok hp ?_
  refine br_f (by decide) ?_
  rcases sd_dc v2 with hb | ⟨c, h1, h4, rfl⟩
  · refine sx_cyc_no hb ?_
    refine br_t rfl ?_
    refine sy_pat_ok hp ?_
    refine br_t rfl ?_
    refine sy_cyc_no hb ?_
    exact br_f (by decide) ⟨rfl, sd_mk hS⟩
  refine sx_cyc_ok h1 h4 ?_
  refine br_f (by decide) ?_
  refine pk_lt m 20 (fun hlt => ?_) (fun hge => ?_)
  · have hin : vp_in (nI m) 20 := vp_in_nI hlt (by decide)
    have cl : (nI m).toNatClampNeg = m := nI_clamp (by omega)
    refine sx_run hC h1 h4 (fun lv1 => ?_)
    dsimp only
    refine sx_ruleOut hC h1 h4 (fun H' lv2 ft' hH' hft' => ?_)
    dsimp only
    refine nm_r (nI_1 m) ?_
    refine sy_pat_ok hp ?_
    refine br_t rfl ?_
    refine sy_cyc_ok h1 h4 ?_
    refine br_t rfl (br_t (nI_lt (b := 20) hlt (by decide)) ⟨hin, nm_e ⟨hin, nm_e ?_⟩⟩)
    refine sy_run hC hY (sd_ok_of hg hF) hp h1 h4 (fun va' => ?_)
    dsimp only
    rw [cl]
    refine ⟨hin, nm_e (nm_r (nI_1 m) ⟨hin, pk_us, sd_mk ⟨hC, hY, hF, by omega, fun i hi => ?_, ?_, fun f hf => ?_⟩⟩)⟩
    · by_cases q : i = m
      · subst q
        rw [pk_us, pk_us]
        exact ⟨⟨p, hp, rfl⟩, ⟨c, h1, h4, rfl⟩⟩
      · rw [pk_un q, pk_un q]
        exact hO i (by omega)
    · rw [sd_exS h4, hH']
      exact sd_not2 hH
    · rw [sd_exS h4, hft' f hf]
      exact sd_not2 (hft f hf)
  · refine sy_pat_ok hp ?_
    refine br_t rfl ?_
    refine sy_cyc_ok h1 h4 ?_
    exact br_t rfl (br_f (nI_nlt (b := 20) hge (by omega)) ⟨rfl, sd_mk hS⟩)
theorem i_vc_candidates {k : Nat} {u : SX} {v : SY} (I : i_Rel k u v) (hk : k + 4 ≤ 2048) : wpX_candidates (fun r => wpY_candidates (fun r' v' => r' = r ∧ i_Rel (k + 4) u v') v) u := by
  obtain ⟨g, m, D, H, gk, ga, gb, fl, ol, ft, lv, oc, kd, fs, sc, pt, cy, an, va, rfl, rfl, hS⟩ := I
  obtain ⟨hC, hY, hF, hm, hO, hH, hft⟩ := id hS
  exact sx_candidates hC.1 hft (sy_candidates hC hY hm hO (fun va' => ⟨rfl, sd_mk hS⟩))
theorem i_vc_candidate {k : Nat} {u : SX} {v : SY} (I : i_Rel k u v) (hk : k + 4 ≤ 2048) (v1 : Int32) : wpX_candidate (fun r => wpY_candidate (fun r' v' => r' = r ∧ i_Rel (k + 4) u v') v v1) u v1 := by
  obtain ⟨g, m, D, H, gk, ga, gb, fl, ol, ft, lv, oc, kd, fs, sc, pt, cy, an, va, rfl, rfl, hS⟩ := I
  obtain ⟨hC, hY, hF, hm, hO, hH, hft⟩ := id hS
  exact sx_candidate hC.1 hft (sy_candidate hC hY hm hO (fun va' => ⟨rfl, sd_mk hS⟩))
theorem i_vc_healthy {k : Nat} {u : SX} {v : SY} (I : i_Rel k u v) (hk : k + 4 ≤ 2048) : wpX_healthy (fun r => wpY_healthy (fun r' v' => r' = r ∧ i_Rel (k + 4) u v') v) u := by
  obtain ⟨g, m, D, H, gk, ga, gb, fl, ol, ft, lv, oc, kd, fs, sc, pt, cy, an, va, rfl, rfl, hS⟩ := I
  obtain ⟨hC, hY, hF, hm, hO, hH, hft⟩ := id hS
  unfold wpX_healthy wpY_healthy
  dsimp only
  refine br_c (fun e => ?_) (fun e => ?_)
  · exact sy_explains hC hY sd_okm hm hO (fun t va' => absurd t (hH.1 e)) (fun t va' => br_t rfl ⟨rfl, sd_mk hS⟩)
  · exact sy_explains hC hY sd_okm hm hO (fun t va' => br_f (by decide) ⟨rfl, sd_mk hS⟩) (fun t va' => absurd (hH.2 t) e)
theorem i_vc_nextPattern {k : Nat} {u : SX} {v : SY} (I : i_Rel k u v) (hk : k + 4 ≤ 2048) : wpX_nextPattern (fun r u' => wpY_nextPattern (fun r' v' => r' = r ∧ i_Rel (k + 4) u' v') v) u := by
  obtain ⟨g, m, D, H, gk, ga, gb, fl, ol, ft, lv, oc, kd, fs, sc, pt, cy, an, va, rfl, rfl, hS⟩ := I
  obtain ⟨hC, hY, hF, hm, hO, hH, hft⟩ := id hS
  exact sx_nextPattern hC hft (fun lv' => sy_nextPattern hC hY hm hO (fun va' => ⟨rfl, sd_mk hS⟩))
theorem i_vc_detected {k : Nat} {u : SX} {v : SY} (I : i_Rel k u v) (hk : k + 4 ≤ 2048) (v1 : Int32) (v2 : Int32) : wpX_detected (fun r u' => wpY_detected (fun r' v' => r' = r ∧ i_Rel (k + 4) u' v') v v1 v2) u v1 v2 := by
  obtain ⟨g, m, D, H, gk, ga, gb, fl, ol, ft, lv, oc, kd, fs, sc, pt, cy, an, va, rfl, rfl, hS⟩ := I
  obtain ⟨hC, hY, hF, hm, hO, hH, hft⟩ := id hS
  rcases sd_di 128 v1 with hb | ⟨p, hp, rfl⟩
  · unfold wpX_detected wpY_detected
    dsimp only
    refine sx_pat_no hb ?_
    refine br_t rfl ?_
    refine sy_pat_no hb ?_
    exact br_f (by decide) ⟨rfl, sd_mk hS⟩
  rcases sd_dc v2 with hb | ⟨c, h1, h4, rfl⟩
  · unfold wpX_detected wpY_detected
    dsimp only
    refine sx_pat_ok hp ?_
    refine br_f (by decide) ?_
    refine sx_cyc_no hb ?_
    refine br_t rfl ?_
    refine sy_pat_ok hp ?_
    refine br_t rfl ?_
    refine sy_cyc_no hb ?_
    exact br_f (by decide) ⟨rfl, sd_mk hS⟩
  exact sx_detected hC hp h1 h4 (fun lv' => sy_detected hC hY hp h1 h4 (fun va' => ⟨rfl, sd_mk hS⟩))
theorem i_vc_hidden {k : Nat} {u : SX} {v : SY} (I : i_Rel k u v) (hk : k + 4 ≤ 2048) : wpX_hidden (fun r u' => wpY_hidden (fun r' v' => r' = r ∧ i_Rel (k + 4) u' v') v) u := by
  obtain ⟨g, m, D, H, gk, ga, gb, fl, ol, ft, lv, oc, kd, fs, sc, pt, cy, an, va, rfl, rfl, hS⟩ := I
  obtain ⟨hC, hY, hF, hm, hO, hH, hft⟩ := id hS
  exact sx_hidden hC (fun lv' => sy_hidden hC hY (fun va' => ⟨rfl, sd_mk hS⟩))
theorem i_vc_leader {k : Nat} {u : SX} {v : SY} (I : i_Rel k u v) (hk : k + 4 ≤ 2048) (v1 : Int32) : wpX_leader (fun r u' => wpY_leader (fun r' v' => r' = r ∧ i_Rel (k + 4) u' v') v v1) u v1 := by
  obtain ⟨g, m, D, H, gk, ga, gb, fl, ol, ft, lv, oc, kd, fs, sc, pt, cy, an, va, rfl, rfl, hS⟩ := I
  obtain ⟨hC, hY, hF, hm, hO, hH, hft⟩ := id hS
  unfold wpX_leader wpY_leader
  dsimp only
  rcases sd_di (2 * (7 + g)) v1 with hb | ⟨f, hf, rfl⟩
  · refine sx_fault_no hC.1 hb ?_
    refine br_t rfl ?_
    refine sy_fault_no hC.1 hb ?_
    exact br_f (by decide) ⟨rfl, sd_mk hS⟩
  refine sx_fault_ok hC.1 hf ?_
  refine br_f (by decide) ?_
  refine sx_fill hC (fun lv' oc' ho => ?_)
  dsimp only
  refine sx_least hC.1 ho hf ?_
  refine sy_fault_ok hC.1 hf ?_
  refine br_t rfl ?_
  exact sy_earliest hC hY hf (fun va' => ⟨rfl, sd_mk hS⟩)
theorem i_vc_groups {k : Nat} {u : SX} {v : SY} (I : i_Rel k u v) (hk : k + 4 ≤ 2048) : wpX_groups (fun r u' => wpY_groups (fun r' v' => r' = r ∧ i_Rel (k + 4) u' v') v) u := by
  obtain ⟨g, m, D, H, gk, ga, gb, fl, ol, ft, lv, oc, kd, fs, sc, pt, cy, an, va, rfl, rfl, hS⟩ := I
  obtain ⟨hC, hY, hF, hm, hO, hH, hft⟩ := id hS
  unfold wpX_groups
  dsimp only
  refine sx_fill hC (fun lv' oc' ho => ?_)
  exact sx_groupsLoop hC.1 ho (sy_groups hC hY (fun va' => ⟨rfl, sd_mk hS⟩))
theorem i_vc_candidateGroups {k : Nat} {u : SX} {v : SY} (I : i_Rel k u v) (hk : k + 4 ≤ 2048) : wpX_candidateGroups (fun r u' => wpY_candidateGroups (fun r' v' => r' = r ∧ i_Rel (k + 4) u' v') v) u := by
  obtain ⟨g, m, D, H, gk, ga, gb, fl, ol, ft, lv, oc, kd, fs, sc, pt, cy, an, va, rfl, rfl, hS⟩ := I
  obtain ⟨hC, hY, hF, hm, hO, hH, hft⟩ := id hS
  unfold wpX_candidateGroups
  dsimp only
  refine sx_fill hC (fun lv' oc' ho => ?_)
  exact sx_cgLoop hC.1 ho hft (sy_candidateGroups hC hY hm hO (fun va' => ⟨rfl, sd_mk hS⟩))
end
