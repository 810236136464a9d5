def gi_ (g : Bool) : Int32 := if g = true then 1 else 0
theorem ge_7 {i : Nat} (h : i < 4374) : ¬ (4374 : Int32) ≤ nI i := nI_ge (b := 4374) h (by decide)
theorem le_7 : (4374 : Int32) ≤ nI 4374 := nI_le (a := 4374) (b := 4374) (by omega) (by decide)
theorem in_7 {i : Nat} (h : i < 4374) : vp_in (nI i) 4374 := vp_in_nI h (by decide)
theorem mm_n : (-1 : Int32) < 0 := by decide
theorem pw_t : ∀ b, b < 6 → 3 ^ b = wk_t b := by decide +kernel
theorem wk_tb {b : Nat} (hb : b < 6) : 1 ≤ wk_t b ∧ wk_t b ≤ 243 := by
  rcases wk_6 hb with rfl | rfl | rfl | rfl | rfl | rfl <;> decide
section
variable {pr mo E ov wg be : Nat → Int32} {bd wt : Nat → Nat}
def yW_ (E ov mo wg : Nat → Int32) (bd wt : Nat → Nat) : Prop :=
  cl_G E ∧ (∀ u, u < 6 → ov u = dq_M E u) ∧ (∀ b, b < 6 → mo b = nI (bd b)) ∧ (∀ b, b < 6 → 1 ≤ bd b ∧ bd b ≤ 3) ∧ (∀ b, b < 6 → wg b = nI (wt b)) ∧ fl_B (wk_Y E bd) wt 0 4374
theorem yP_ {post : Int32 → Prop} {b : Nat} (hb : b < 6) (h : post (nI (wk_t b))) : wpY_power post (pr, mo, E, ov, wg, be) (nI b) := by
  refine loop_0 (fun n i s => wY_power_4 post (nI b) pr mo E ov wg be n s (nI i)) (fun i s => s = nI (3 ^ i)) b 1 rfl ?_ ?_
  · intro n s hs
    exact br_t (Int32.le_refl _) (by rw [hs, pw_t b hb]; exact h)
  · intro n i s hi hs k
    refine br_f (nI_ge hi (by omega)) fun y ey z ez => ?_
    subst ez; subst ey
    rw [nI_1]
    exact k _ (by rw [hs]; exact pk_mul _ 3)
theorem yG_4 {post : Int32 → Prop} {s b t : Nat} (hs : s < 4374) (hb : b < 6) (ht : t < 4) (hm : mo b = nI (bd b)) (hd : bd b ≤ 3)
    (h1 : t < bd b → post (nI (wk_g s b t))) (h0 : ¬ t < bd b → post (-1)) : wY_go_40 post (nI b) (nI (wk_t b)) (nI (s / 6)) (nI (wk_c s b)) (nI t) pr mo E ov wg be := by
  unfold wY_go_40
  rw [cl_n (by omega), hm]
  refine ⟨in_6 hb, pk_lt t (bd b) (fun c => ?_) (fun c => h0 (by omega))⟩
  have hle : wk_c s b * wk_t b ≤ s / 6 := by
    have a1 : wk_c s b ≤ s / 6 / wk_t b := Nat.mod_le _ _
    exact Nat.le_trans (Nat.mul_le_mul_right _ a1) (Nat.div_mul_le_self _ _)
  have e : (6 : Int32) * (nI (s / 6) - nI (wk_c s b) * nI (wk_t b) + nI t * nI (wk_t b)) + nI b = nI (wk_g s b t) := by
    rw [pk_mul, pk_mul, pk_sub hle, nI_add]
    show nI 6 * _ + _ = _
    rw [pk_mul, nI_add]
    rfl
  rw [e]
  exact h1 c
theorem yG_ {post : Int32 → Prop} (W : yW_ E ov mo wg bd wt) {s b : Nat} (hs : s < 4374) (hb : b < 6) (he : bt (E (s % 6)) b = true ∧ ¬ ov (s % 6) = 0)
    (h1 : wk_T E s b < bd b → post (nI (wk_g s b (wk_T E s b)))) (h0 : ¬ wk_T E s b < bd b → post (-1)) : wpY_go post (pr, mo, E, ov, wg, be) (nI s) (nI b) := by
  obtain ⟨hE, hO, hmo, hbd, hwg, hB⟩ := W
  have ha : s % 6 < 6 := by omega
  have hc := wk_c3 s b
  have ht := wk_tb hb
  have hd := (hbd b hb).2
  unfold wpY_go
  dsimp only
  refine yP_ hb ⟨no_6, fun x4 e4 => ⟨nI_ne0 (by omega) (by omega), by decide, fun x5 e5 => ⟨no_6, ?_⟩⟩⟩
  rw [dv_6 (by omega)] at e4
  subst e4
  have e6 : nI (s / 6) / nI (wk_t b) = nI (s / 6 / wk_t b) := pk_div (by omega) (by omega) (by omega)
  have e7 : nI (s / 6 / wk_t b) - nI (s / 6 / wk_t b) / 3 * 3 = nI (wk_c s b) :=
    pk_rem (d := 3) (Nat.lt_of_le_of_lt (Nat.div_le_self _ _) (by omega)) (by decide) (by decide)
  rw [e6, e7] at e5
  subst e5
  rw [rm_6 (by omega)]
  refine yk_ ha hb (fun c => br_f no_1 ?_) (fun c => br_t rfl ?_)
  · rw [nI_1]
    have e : wk_T E s b = wk_c s b + 1 := if_pos (by rw [← hO _ ha]; exact c.2)
    rw [e] at h1 h0
    exact yG_4 hs hb (by omega) (hmo b hb) hd h1 h0
  · have e : wk_T E s b = 0 := if_neg (fun z => c ⟨he, by rw [hO _ ha]; exact z⟩)
    rw [e] at h1 h0
    exact yG_4 (t := 0) hs hb (by omega) (hmo b hb) hd h1 h0
abbrev ys_S (E : Nat → Int32) (bd wt : Nat → Nat) (g : Bool) (s b : Nat) (B0 B : Nat → Int32) : Prop := sp_I (wk_Y E bd) wt 0 4374 g (fun x => x = s) s b B0 B
theorem ys_ {post : Int32 → SY → Prop} (W : yW_ E ov mo wg bd wt) {g : Bool} {s : Nat} (hs : s < 4374) (S : fl_S (wk_Y E bd) wt 0 4374 be) (hn : ¬ be s = -1)
    (h : ∀ (r : Int32) (be' : Nat → Int32), ys_S E bd wt g s 6 be be' → (r = 0 → be' = be) → (r = 0 ∨ r = 1) → post r (pr, mo, E, ov, wg, be')) : wpY_spread post (pr, mo, E, ov, wg, be) (nI s) (gi_ g) := by
  have W' := W
  obtain ⟨hE, hO, hmo, hbd, hwg, hB⟩ := W'
  obtain ⟨n1, m, hw, em, lm⟩ := fl_v hB S hs hn
  have ha : s % 6 < 6 := by omega
  refine loop_0 (fun n b (t : Int32 × (Nat → Int32)) => wY_spread_5 post (nI s) (gi_ g) n t.1 (nI b) pr mo E ov wg t.2) (fun b t => ys_S E bd wt g s b be t.2 ∧ (t.1 = 0 → t.2 = be) ∧ (t.1 = 0 ∨ t.1 = 1)) 6 (0, be) ⟨sp_0 S, fun _ => rfl, Or.inl rfl⟩ ?_ ?_
  · rintro n ⟨r, B⟩ ⟨I, I2, I3⟩
    refine br_t le_6 ⟨?_, h r B I I2 I3⟩
    have I3 : r = 0 ∨ r = 1 := I3
    rcases I3 with z | z
    · show narrow .boolean (.int r) = .int r
      rw [z]; rfl
    · show narrow .boolean (.int r) = .int r
      rw [z]; rfl
  · rintro n b ⟨r, B⟩ hb ⟨I, I2, I3⟩ k
    have I : ys_S E bd wt g s b be B := I
    have no : (∀ s', ¬ wk_Y E bd s b s') → wY_spread_36 post (wY_spread_5 post (nI s) (gi_ g) n) (nI s) (gi_ g) r (nI b) (-1) pr mo E ov wg B := by
      intro hno
      refine br_t mm_n fun z ez => ?_
      subst ez
      rw [nI_1]
      exact k (r, B) ⟨sp_n I hno, I2, I3⟩
    refine br_f (ge_6 hb) ⟨no_6, ?_⟩
    rw [rm_6 (by omega)]
    refine ye_ ha hb (fun c => br_f no_1 (yG_ W hs hb c (fun d => ?_) (fun d => no fun s' q => d q.2.2.2.1))) (fun c => br_t rfl (no fun s' q => c ⟨q.2.2.1, ?_⟩))
    · have hL : dq_L E (s % 6) := (dq_M0 hE ha).mp (by rw [← hO _ ha]; exact c.2)
      have hy : wk_Y E bd s b (wk_g s b (wk_T E s b)) := ⟨hb, hL, c.1, d, rfl⟩
      have hw' : gw_ (wk_Y E bd) wt 0 (n1 + 1) (wk_g s b (wk_T E s b)) (m + wt b) := ⟨s, m, b, hw, hy, rfl⟩
      have hl := (hB.1 _ _ _ hw')
      have hx : wk_g s b (wk_T E s b) ≠ s := by
        intro z
        have e1 : wk_g s b (wk_T E s b) % 6 = b := wk_gm hb
        rw [z] at e1
        exact (hE (s % 6) ha b c.1).2 e1.symm
      generalize wk_g s b (wk_T E s b) = x' at hy hw' hl hx
      have hx7 := hl.1
      have hm0 : m + wt b < 1073741824 := by omega
      have eB : B s = nI m := by rw [I.2.2.1 s rfl]; exact em
      have kp : (∃ m', m' < 1073741824 ∧ B x' = nI m' ∧ gd_ g (m + wt b) m') → wY_spread_5 post (nI s) (gi_ g) n r (nI b + 1) pr mo E ov wg B := by
        intro hk
        rw [nI_1]
        exact k (r, B) ⟨sp_k hB (fun _ _ _ _ => dy_d) I hy hw em hk, I2, I3⟩
      have stt : (B x' = -1 ∨ ∃ m', m' < 1073741824 ∧ B x' = nI m' ∧ gd_ g m' (m + wt b)) → wY_spread_100 post (wY_spread_5 post (nI s) (gi_ g) n) (nI s) (gi_ g) (nI b) (nI x') (nI (m + wt b)) pr mo E ov wg B := by
        intro hk
        refine ⟨in_7 hx7, fun y ey z ez => ?_⟩
        subst ez; subst ey
        rw [nI_1, cl_n (by omega)]
        exact k (1, _) ⟨sp_s hB (fun _ _ _ _ => dy_d) I hy hx hw em hk, fun z => absurd z no_1, Or.inr rfl⟩
      refine br_f (nI_pos (by omega)) ⟨in_7 hs, in_6 hb, ?_⟩
      rw [cl_n (by omega), cl_n (by omega), cl_n (by omega)]
      intro w ew
      have ew : w = B s + wg b := ew
      rw [eB, hwg b hb, nI_add] at ew
      subst ew
      refine ⟨in_7 hx7, ?_⟩
      rcases fl_Sv hB I.1 hx7 with e | ⟨m', hm', e⟩
      · refine br_t ?_ (stt (Or.inl e))
        show B x' < 0
        rw [e]; exact mm_n
      · refine br_f ?_ ?_
        · show ¬ B x' < 0
          rw [e]; exact nI_pos (by omega)
        cases g
        · refine br_t rfl ⟨in_7 hx7, br_c (fun f z ez => ?_) (fun f => ?_)⟩
          · subst ez
            have f : B x' ≤ nI (m + wt b) := f
            rw [e, le_b hm' hm0] at f
            exact kp ⟨m', hm', e, fun z => absurd z (by decide), fun _ => f⟩
          · have f : ¬ B x' ≤ nI (m + wt b) := f
            rw [e, le_b hm' hm0] at f
            exact stt (Or.inr ⟨m', hm', e, fun z => absurd z (by decide), fun _ => by omega⟩)
        · refine br_f no_1 ⟨in_7 hx7, br_c (fun f z ez => ?_) (fun f => ?_)⟩
          · subst ez
            have f : nI (m + wt b) ≤ B x' := f
            rw [e, le_b hm0 hm'] at f
            exact kp ⟨m', hm', e, fun _ => f, fun z => absurd z (by decide)⟩
          · have f : ¬ nI (m + wt b) ≤ B x' := f
            rw [e, le_b hm0 hm'] at f
            exact stt (Or.inr ⟨m', hm', e, fun _ => by omega, fun z => absurd z (by decide)⟩)
    · rw [hO _ ha]; exact (dq_M0 hE ha).mpr q.2.1
theorem yf_i {post : SY → Prop} (W : yW_ E ov mo wg bd wt) {g : Bool} {J : Int32 → Int32 → (Nat → Int32) → (Nat → Int32) → (Nat → Int32) → (Nat → Int32) → (Nat → Int32) → (Nat → Int32) → Prop} {k : Nat} (S : fl_S (wk_Y E bd) wt 0 4374 be)
    (h : ∀ (more : Int32) (be' : Nat → Int32), fl_P (wk_Y E bd) wt 0 4374 g be 4374 be' → (more = 0 → be' = be) → (more = 0 ∨ more = 1) → J more (nI (k + 1)) pr mo E ov wg be') : ∃ n, wY_follow_54 post J (gi_ g) (nI k) n 0 0 pr mo E ov wg be := by
  have hB := W.2.2.2.2.2
  refine loop_0 (fun n i (t : Int32 × (Nat → Int32)) => wY_follow_54 post J (gi_ g) (nI k) n t.1 (nI i) pr mo E ov wg t.2) (fun i t => fl_P (wk_Y E bd) wt 0 4374 g be i t.2 ∧ (t.1 = 0 → t.2 = be) ∧ (t.1 = 0 ∨ t.1 = 1)) 4374 (0, be) ⟨py_0 S, fun _ => rfl, Or.inl rfl⟩ ?_ ?_
  · rintro n ⟨r, B⟩ ⟨I, I2, I3⟩
    refine br_t le_7 fun z ez => ?_
    subst ez
    rw [nI_1]
    exact h r B I I2 I3
  · rintro n i ⟨r, B⟩ hi ⟨I, I2, I3⟩ kk
    have I : fl_P (wk_Y E bd) wt 0 4374 g be i B := I
    have I2 : r = 0 → B = be := I2
    refine br_f (ge_7 hi) ⟨in_7 hi, ?_⟩
    rw [cl_n (by omega)]
    rcases fl_Sv hB I.1 hi with e | ⟨m', hm', e⟩
    · refine br_t ?_ fun z ez => ?_
      · show B i < 0
        rw [e]; exact mm_n
      · subst ez
        rw [nI_1]
        exact kk (r, B) ⟨py_n I e, I2, I3⟩
    · refine br_f ?_ (ys_ W hi I.1 (by show ¬ B i = -1; rw [e]; exact nn_1 hm') fun q be' Q Q2 Q3 => ?_)
      · show ¬ B i < 0
        rw [e]; exact nI_pos (by omega)
      · refine br_c (fun c => br_c (fun d z ez => ?_) (fun d z ez => ?_)) (fun c z ez => ?_)
        · subst ez
          rw [nI_1]
          exact kk (0, be') ⟨py_s I Q, fun _ => (Q2 c).trans (I2 d), Or.inl rfl⟩
        · subst ez
          rw [nI_1]
          exact kk (1, be') ⟨py_s I Q, fun z => absurd z no_1, Or.inr rfl⟩
        · subst ez
          rw [nI_1]
          exact kk (1, be') ⟨py_s I Q, fun z => absurd z no_1, Or.inr rfl⟩
theorem yf_o {post : SY → Prop} (W : yW_ E ov mo wg bd wt) {g : Bool} (I0 : py_I (wk_Y E bd) wt 0 4374 g 0 1 be)
    (h : ∀ be' : Nat → Int32, fl_A (wk_Y E bd) wt 0 4374 g be' → post (pr, mo, E, ov, wg, be')) : ∃ n, wY_follow_38 post (gi_ g) n 1 0 pr mo E ov wg be := by
  have hB := W.2.2.2.2.2
  refine loop_0 (fun n i (t : Int32 × (Nat → Int32)) => wY_follow_38 post (gi_ g) n t.1 (nI i) pr mo E ov wg t.2) (fun i t => py_I (wk_Y E bd) wt 0 4374 g i t.1 t.2) 4374 (1, be) I0 ?_ ?_
  · rintro n ⟨r, B⟩ I
    exact br_t le_7 (h B ⟨I.1, I.2.1⟩)
  · rintro n i ⟨r, B⟩ hi I k
    refine br_f (ge_7 hi) (br_c (fun c => h B (I.2.2.1 c)) (fun c => ?_))
    exact yf_i W I.1 fun more be' P P2 P3 => k (more, be') (py_S hB I.1 I.2.1 P P2 P3)
theorem yf_ {post : SY → Prop} (W : yW_ E ov mo wg bd wt) {g : Bool}
    (h : ∀ be' : Nat → Int32, fl_A (wk_Y E bd) wt 0 4374 g be' → post (pr, mo, E, ov, wg, be')) : wpY_follow post (pr, mo, E, ov, wg, be) (gi_ g) := by
  have hB := W.2.2.2.2.2
  refine loop_0 (fun n i B => wY_follow_2 post (gi_ g) n (nI i) pr mo E ov wg B) (fun i B => ∀ x, x < i → B x = -1) 4374 be (fun x hx => absurd hx (by omega)) ?_ ?_
  · intro n B I
    refine br_t le_7 fun y ey => ?_
    have ey : y = upd B 0 (wg 0) := ey
    rw [W.2.2.2.2.1 0 (by omega)] at ey
    subst ey
    obtain ⟨S, C⟩ := fl_b0 (g := g) hB (B := upd B 0 (nI (wt 0))) pk_us (fun s hs hn => by rw [pk_un hn]; exact I s hs)
    exact yf_o W ⟨S, C, fun z => absurd z no_1, Or.inr rfl⟩ h
  · intro n i B hi I k
    refine br_f (ge_7 hi) ⟨in_7 hi, fun y ey z ez => ?_⟩
    subst ez; subst ey
    rw [nI_1, cl_n (by omega)]
    refine k _ (fun x hx => ?_)
    by_cases e : x = i
    · subst e; exact pk_us
    · rw [pk_un e]; exact I x (by omega)
theorem yv_ {post : Int32 → Prop} (hB : fl_B (wk_Y E bd) wt 0 4374) {g : Bool} (A : fl_A (wk_Y E bd) wt 0 4374 g be) {p : Int32} {Q : Nat → Prop} (hQ1 : p < 0 → ∀ s, Q s) (hQ2 : ¬ p < 0 → ∀ s, s < 4374 → (nI (s % 6) = p ↔ Q s))
    (h : ∀ v, an_s g (fun w => ∃ n s, wk_YW E bd wt n s w ∧ Q s) v → post v) : wpY_value post (pr, mo, E, ov, wg, be) p (gi_ g) := by
  refine loop_0 (fun n i v => wY_value_5 post p (gi_ g) pr mo E ov wg be n v (nI i)) (fun i v => fl_V g Q be i v) 4374 (-1) fl_V0 ?_ ?_
  · intro n v V
    exact br_t le_7 (h v (fl_an hB A V))
  · intro n i v hi V k
    refine br_f (ge_7 hi) ⟨in_7 hi, ?_⟩
    rw [cl_n (by omega)]
    rcases fl_Sv hB A.1 hi with e | ⟨m, hm, e⟩
    · refine br_t (by rw [e]; exact mm_n) fun z ez => ?_
      subst ez
      rw [nI_1]
      exact k _ (fl_Vn V (fun _ => e))
    · have take : Q i → (v = -1 ∨ ∃ m1, m1 < 1073741824 ∧ v = nI m1 ∧ gd_ g m1 m) → wY_value_69 post (wY_value_5 post p (gi_ g) pr mo E ov wg be n) p (gi_ g) (nI i) pr mo E ov wg be := by
        intro hq hd
        refine ⟨in_7 hi, fun y ey z ez => ?_⟩
        rw [cl_n (by omega)] at ey
        subst ez; subst ey
        rw [nI_1]
        refine k _ ?_
        rw [e]
        exact fl_Vs V hq hm e hd
      have goes : Q i → wY_value_36 post (wY_value_5 post p (gi_ g) pr mo E ov wg be n) p (gi_ g) v (nI i) pr mo E ov wg be := by
        intro hq
        unfold wY_value_36
        rw [cl_n (by omega), e]
        rcases fl_Vv V with e1 | ⟨m1, hm1, e1⟩
        · exact br_t (by rw [e1]; exact mm_n) (take hq (Or.inl e1))
        · refine br_f (by rw [e1]; exact nI_pos (by omega)) ?_
          have kp : gd_ g m m1 → wY_value_5 post p (gi_ g) pr mo E ov wg be n v (nI i + 1) := by
            intro hd
            rw [nI_1]
            exact k _ (fl_Vk V hm1 e1 hm e hd)
          cases g
          · refine br_t rfl ⟨in_7 hi, br_c (fun f z ez => ?_) (fun f => ?_)⟩
            · subst ez
              rw [e1, le_b hm1 hm] at f
              exact kp ⟨fun z => absurd z (by decide), fun _ => f⟩
            · rw [e1, le_b hm1 hm] at f
              exact take hq (Or.inr ⟨m1, hm1, e1, fun z => absurd z (by decide), fun _ => by omega⟩)
          · refine br_f no_1 ⟨in_7 hi, br_c (fun f z ez => ?_) (fun f => ?_)⟩
            · subst ez
              rw [e1, le_b hm hm1] at f
              exact kp ⟨fun _ => f, fun z => absurd z (by decide)⟩
            · rw [e1, le_b hm hm1] at f
              exact take hq (Or.inr ⟨m1, hm1, e1, fun _ => by omega, fun z => absurd z (by decide)⟩)
      refine br_f (by rw [e]; exact nI_pos (by omega)) (br_c (fun c => goes (hQ1 c i)) (fun c => ⟨no_6, ?_⟩))
      rw [rm_6 (by omega)]
      refine br_c (fun d => goes ((hQ2 c i hi).mp d)) (fun d z ez => ?_)
      subst ez
      rw [nI_1]
      exact k _ (fl_Vn V (fun q => absurd ((hQ2 c i hi).mpr q) d))
theorem yc_ {post : SY → Prop} (h : ∀ wg' : Nat → Int32, (∀ b, b < 6 → wg' b = pr b) → post (pr, mo, E, ov, wg', be)) : wpY_weigh post (pr, mo, E, ov, wg, be) := by
  refine loop_0 (fun n i s => wY_weigh_2 post n (nI i) pr mo E ov s be) (fun i s => ∀ b, b < i → s b = pr b) 6 wg (fun a ha => absurd ha (by omega)) ?_ ?_
  · intro n s hs
    exact br_t le_6 (h s hs)
  · intro n i s hi hs k
    refine br_f (ge_6 hi) ⟨in_6 hi, in_6 hi, fun y ey z ez => ?_⟩
    subst ez; subst ey
    rw [nI_1, cl_n (by omega)]
    refine k _ (fun a ha => ?_)
    by_cases e : a = i
    · subst e; exact pk_us
    · rw [pk_un e]; exact hs a (by omega)
/-- asked, in a program that is regular -/
theorem yA_f {post : Int32 → SY → Prop} (hE : cl_G E) (hR : rg_R E 6 = false) (hmo : ∀ b, b < 6 → mo b = nI (bd b)) (hbd : ∀ b, b < 6 → 1 ≤ bd b ∧ bd b ≤ 3) (hpr : ∀ b, b < 6 → pr b = nI (wt b)) (hB : fl_B (wk_Y E bd) wt 0 4374) {g : Bool}
    {p : Int32} {Q : Nat → Prop} (hQ1 : p < 0 → ∀ s, Q s) (hQ2 : ¬ p < 0 → ∀ s, s < 4374 → (nI (s % 6) = p ↔ Q s))
    (h : ∀ v (ov' wg' be' : Nat → Int32), an_s g (fun w => ∃ n s, wk_YW E bd wt n s w ∧ Q s) v → post v (pr, mo, E, ov', wg', be')) : wpY_asked post (pr, mo, E, ov, wg, be) p (gi_ g) := by
  unfold wpY_asked
  dsimp only
  refine yg_ hE (fun ov' hO _ => br_f no_1 (yc_ fun wg' hw => yf_ (wt := wt) (bd := bd) ⟨hE, hO, hmo, hbd, fun b hb => (hw b hb).trans (hpr b hb), hB⟩ fun be' A => yv_ hB A hQ1 hQ2 fun v hv => h v ov' wg' be' hv)) (fun ov' z => ?_)
  rw [hR] at z; exact absurd z (by decide)
theorem yA_t {post : Int32 → SY → Prop} (hE : cl_G E) (hR : rg_R E 6 = true) {p g : Int32} (h : ∀ ov' : Nat → Int32, post (-1) (pr, mo, E, ov', wg, be)) : wpY_asked post (pr, mo, E, ov, wg, be) p g := by
  unfold wpY_asked
  dsimp only
  refine yg_ hE (fun ov' hO z => ?_) (fun ov' _ => br_t rfl (h ov'))
  rw [hR] at z; exact absurd z (by decide)
end
