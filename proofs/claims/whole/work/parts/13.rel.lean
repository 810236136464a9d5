def rl_G (co bo E : Nat → Int32) : Prop := cl_G E ∧ (∀ b, b < 6 → ∃ n, 1 ≤ n ∧ n ≤ 3 ∧ bo b = nI n) ∧ (∀ b, b < 6 → ∃ n, n ≤ 50 ∧ co b = nI n)
/-- the same costs, bounds and edges on both sides; all else is worked out anew -/
def i_Rel (_ : Nat) (u : SX) (v : SY) : Prop :=
  ∃ co bo E ah bl pc we he li ov wg be : Nat → Int32, u = (co, bo, E, ah, bl, pc, we, he, li) ∧ v = (co, bo, E, ov, wg, be) ∧ rl_G co bo E
theorem i_up {k : Nat} {u : SX} {v : SY} (h : i_Rel k u v) : i_Rel (k + 3) u v := h
def rl_b (a : Nat → Int32) (b : Nat) : Nat := (a b).toNatClampNeg
theorem rl_bb {bo : Nat → Int32} (h : ∀ b, b < 6 → ∃ n, 1 ≤ n ∧ n ≤ 3 ∧ bo b = nI n) : (∀ b, b < 6 → bo b = nI (rl_b bo b)) ∧ (∀ b, b < 6 → 1 ≤ rl_b bo b ∧ rl_b bo b ≤ 3) := by
  constructor
  · intro b hb
    obtain ⟨n, h1, h2, e⟩ := h b hb
    unfold rl_b
    rw [e, nI_clamp (by omega)]
  · intro b hb
    obtain ⟨n, h1, h2, e⟩ := h b hb
    unfold rl_b
    rw [e, nI_clamp (by omega)]
    exact ⟨h1, h2⟩
theorem rl_bc {co : Nat → Int32} (h : ∀ b, b < 6 → ∃ n, n ≤ 50 ∧ co b = nI n) : (∀ b, b < 6 → co b = nI (rl_b co b)) ∧ (∀ b, b < 6 → rl_b co b ≤ 50) := by
  constructor
  · intro b hb
    obtain ⟨n, h2, e⟩ := h b hb
    unfold rl_b
    rw [e, nI_clamp (by omega)]
  · intro b hb
    obtain ⟨n, h2, e⟩ := h b hb
    unfold rl_b
    rw [e, nI_clamp (by omega)]
    exact h2
def rl_i : Nat → Nat → Int32
  | 0 => fun _ => 0
  | i + 1 => upd (rl_i i) i 1
theorem rl_i1 : ∀ n b, b < n → rl_i n b = 1 := by
  intro n
  induction n with
  | zero => intro b hb; omega
  | succ n ih =>
    intro b hb
    show upd (rl_i n) n 1 b = 1
    by_cases e : b = n
    · subst e; exact pk_us
    · rw [pk_un e]; exact ih b (by omega)
theorem rl_x0 {post : SX → Prop} (h : post (fun _ => 0, rl_i 6, fun _ => 0, fun _ => 0, fun _ => 0, fun _ => 0, fun _ => 0, fun _ => 0, fun _ => 0)) : wpX_init post := by
  refine loop_0 (fun n i s => wX_init_80 post n (nI i) (fun _ => 0) s (fun _ => 0) (fun _ => 0) (fun _ => 0) (fun _ => 0) (fun _ => 0) (fun _ => 0) (fun _ => 0)) (fun i s => s = rl_i i) 6 (fun _ => 0) rfl ?_ ?_
  · intro n s hs
    exact br_t le_6 (by rw [hs]; exact h)
  · intro n i s hi hs k
    refine br_f (ge_6 hi) ⟨in_6 hi, fun y ey z ez => ?_⟩
    subst ez; subst ey
    rw [nI_1, cl_n (by omega)]
    exact k _ (by rw [hs]; rfl)
theorem rl_y0 {post : SY → Prop} (h : post (fun _ => 0, rl_i 6, fun _ => 0, fun _ => 0, fun _ => 0, fun _ => 0)) : wpY_init post := by
  refine loop_0 (fun n i s => wY_init_55 post n (nI i) (fun _ => 0) s (fun _ => 0) (fun _ => 0) (fun _ => 0) (fun _ => 0)) (fun i s => s = rl_i i) 6 (fun _ => 0) rfl ?_ ?_
  · intro n s hs
    exact br_t le_6 (by rw [hs]; exact h)
  · intro n i s hi hs k
    refine br_f (ge_6 hi) ⟨in_6 hi, fun y ey z ez => ?_⟩
    subst ez; subst ey
    rw [nI_1, cl_n (by omega)]
    exact k _ (by rw [hs]; rfl)
theorem i_vc0 : wpX_init (fun u => wpY_init (fun v => i_Rel 0 u v)) := by
  refine rl_x0 (rl_y0 ⟨_, _, _, _, _, _, _, _, _, _, _, _, rfl, rfl, ?_, ?_, ?_⟩)
  · intro a ha i hi
    rw [b_0] at hi; exact absurd hi (by decide)
  · intro b hb
    exact ⟨1, by omega, by omega, rl_i1 6 b hb⟩
  · intro b hb
    exact ⟨0, by omega, rfl⟩
section
variable {co bo E ah bl pc we he li ov wg be : Nat → Int32}
theorem rl_ {k : Nat} (R : rl_G co bo E) : i_Rel k (co, bo, E, ah, bl, pc, we, he, li) (co, bo, E, ov, wg, be) := ⟨_, _, _, _, _, _, _, _, _, _, _, _, rfl, rfl, R⟩
theorem rl_co (R : rl_G co bo E) {j c : Nat} (hc : c ≤ 50) : rl_G (upd co j (nI c)) bo E := by
  refine ⟨R.1, R.2.1, fun b hb => ?_⟩
  by_cases e : b = j
  · subst e; exact ⟨c, hc, pk_us⟩
  · rw [pk_un e]; exact R.2.2 b hb
theorem rl_bo (R : rl_G co bo E) {j c : Nat} (h1 : 1 ≤ c) (hc : c ≤ 3) : rl_G co (upd bo j (nI c)) E := by
  refine ⟨R.1, fun b hb => ?_, R.2.2⟩
  by_cases e : b = j
  · subst e; exact ⟨c, h1, hc, pk_us⟩
  · rw [pk_un e]; exact R.2.1 b hb
theorem rl_jo (R : rl_G co bo E) {a j : Nat} (hj : j < 6) (hn : a ≠ j) : rl_G co bo (upd E a (E a ||| bq_i j)) := by
  refine ⟨fun b hb i hi => ?_, R.2⟩
  by_cases e : b = a
  · subst e
    rw [pk_us, b_or, Bool.or_eq_true] at hi
    rcases hi with hi | hi
    · exact R.1 b hb i hi
    · rw [bq_t (by omega), decide_eq_true_eq] at hi
      exact ⟨by omega, fun z => hn (by omega)⟩
  · rw [pk_un e] at hi; exact R.1 b hb i hi
theorem rl_cu (R : rl_G co bo E) {a j : Nat} : rl_G co bo (upd E a (E a &&& (bq_i j ^^^ (-1)))) := by
  refine ⟨fun b hb i hi => ?_, R.2⟩
  by_cases e : b = a
  · subst e
    rw [pk_us, bq_an, Bool.and_eq_true] at hi
    exact R.1 b hb i hi.1
  · rw [pk_un e] at hi; exact R.1 b hb i hi
end
theorem i_vc_cost {k : Nat} {u : SX} {v : SY} (I : i_Rel k u v) (hk : k + 3 ≤ 1536) (v1 : Int32) (v2 : Int32) : wpX_cost (fun r u' => wpY_cost (fun r' v' => r' = r ∧ i_Rel (k + 3) u' v') v v1 v2) u v1 v2 := by
  obtain ⟨co, bo, E, ah, bl, pc, we, he, li, ov, wg, be, rfl, rfl, R⟩ := I
  unfold wpX_cost
  dsimp only
  unfold wpY_cost
  dsimp only
  rcases ix_6 v1 with hb | ⟨j, hj, rfl⟩
  · exact xb_n hb (br_t rfl (yb_n hb (br_t rfl ⟨rfl, rl_ R⟩)))
  · refine xb_y hj (br_f no_1 (br_c (fun c => yb_y hj (br_f no_1 (br_t c ⟨rfl, rl_ R⟩))) (fun c => br_c (fun d => ⟨in_6 hj, fun y ey => ?_⟩) (fun d => yb_y hj (br_f no_1 (br_f c (br_f d ⟨rfl, rl_ R⟩)))))))
    obtain ⟨q, hq, rfl⟩ := nI_of2 (M := 50) (n := 50) (by decide) c d
    refine yb_y hj (br_f no_1 (br_f c (br_t d ⟨in_6 hj, fun y2 ey2 => ⟨rfl, ?_⟩⟩)))
    subst ey; subst ey2
    exact rl_ (rl_co R hq)
theorem i_vc_bound {k : Nat} {u : SX} {v : SY} (I : i_Rel k u v) (hk : k + 3 ≤ 1536) (v1 : Int32) (v2 : Int32) : wpX_bound (fun r u' => wpY_bound (fun r' v' => r' = r ∧ i_Rel (k + 3) u' v') v v1 v2) u v1 v2 := by
  obtain ⟨co, bo, E, ah, bl, pc, we, he, li, ov, wg, be, rfl, rfl, R⟩ := I
  unfold wpX_bound
  dsimp only
  unfold wpY_bound
  dsimp only
  rcases ix_6 v1 with hb | ⟨j, hj, rfl⟩
  · exact xb_n hb (br_t rfl (yb_n hb (br_t rfl ⟨rfl, rl_ R⟩)))
  · refine xb_y hj (br_f no_1 (br_c (fun c => yb_y hj (br_f no_1 (br_t c ⟨rfl, rl_ R⟩))) (fun c => br_c (fun d => ⟨in_6 hj, fun y ey => ?_⟩) (fun d => yb_y hj (br_f no_1 (br_f c (br_f d ⟨rfl, rl_ R⟩)))))))
    have c0 : ¬ v2 < 0 := by
      intro z
      apply c
      rw [Int32.lt_iff_toInt_lt] at z ⊢
      have h0 : (0 : Int32).toInt = 0 := by decide
      have h1 : (1 : Int32).toInt = 1 := by decide
      omega
    obtain ⟨q, hq, rfl⟩ := nI_of2 (M := 3) (n := 3) (by decide) c0 d
    have h1 : 1 ≤ q := by
      rcases Nat.eq_zero_or_pos q with z | z
      · subst z; exact absurd (by decide) c
      · exact z
    refine yb_y hj (br_f no_1 (br_f c (br_t d ⟨in_6 hj, fun y2 ey2 => ⟨rfl, ?_⟩⟩)))
    subst ey; subst ey2
    exact rl_ (rl_bo R h1 hq)
theorem i_vc_join {k : Nat} {u : SX} {v : SY} (I : i_Rel k u v) (hk : k + 3 ≤ 1536) (v1 : Int32) (v2 : Int32) : wpX_join (fun r u' => wpY_join (fun r' v' => r' = r ∧ i_Rel (k + 3) u' v') v v1 v2) u v1 v2 := by
  obtain ⟨co, bo, E, ah, bl, pc, we, he, li, ov, wg, be, rfl, rfl, R⟩ := I
  unfold wpX_join
  dsimp only
  unfold wpY_join
  dsimp only
  rcases ix_6 v1 with hb | ⟨j, hj, rfl⟩
  · exact xb_n hb (br_t rfl (yb_n hb (br_t rfl ⟨rfl, rl_ R⟩)))
  · rcases ix_6 v2 with hb | ⟨i, hi, rfl⟩
    · exact xb_y hj (br_f no_1 (xb_n hb (br_t rfl (yb_y hj (br_f no_1 (yb_n hb (br_t rfl ⟨rfl, rl_ R⟩)))))))
    · refine xb_y hj (br_f no_1 (xb_y hi (br_f no_1 (br_c (fun c => yb_y hj (br_f no_1 (yb_y hi (br_f no_1 (br_t c ⟨rfl, rl_ R⟩))))) (fun c => ⟨in_6 hj, in_6 hj, fun y ey => ?_⟩)))))
      refine yb_y hj (br_f no_1 (yb_y hi (br_f no_1 (br_f c ⟨in_6 hj, in_6 hj, fun y2 ey2 => ⟨rfl, ?_⟩⟩))))
      subst ey; subst ey2
      rw [cl_n (by omega)]
      exact rl_ (rl_jo R hi (fun z => c (by rw [z])))
theorem i_vc_cut {k : Nat} {u : SX} {v : SY} (I : i_Rel k u v) (hk : k + 3 ≤ 1536) (v1 : Int32) (v2 : Int32) : wpX_cut (fun r u' => wpY_cut (fun r' v' => r' = r ∧ i_Rel (k + 3) u' v') v v1 v2) u v1 v2 := by
  obtain ⟨co, bo, E, ah, bl, pc, we, he, li, ov, wg, be, rfl, rfl, R⟩ := I
  unfold wpX_cut
  dsimp only
  unfold wpY_cut
  dsimp only
  rcases ix_6 v1 with hb | ⟨j, hj, rfl⟩
  · exact xb_n hb (br_t rfl (yb_n hb (br_t rfl ⟨rfl, rl_ R⟩)))
  · rcases ix_6 v2 with hb | ⟨i, hi, rfl⟩
    · exact xb_y hj (br_f no_1 (xb_n hb (br_t rfl (yb_y hj (br_f no_1 (yb_n hb (br_t rfl ⟨rfl, rl_ R⟩)))))))
    · refine xb_y hj (br_f no_1 (xb_y hi (br_f no_1 ⟨in_6 hj, ?_⟩)))
      rw [cl_n (by omega)]
      refine xh_ _ hi (fun c => br_f no_1 ⟨in_6 hj, in_6 hj, fun y ey => ?_⟩) (fun c => br_t rfl ?_)
      · refine yb_y hj (br_f no_1 (yb_y hi (br_f no_1 ⟨in_6 hj, tz_ _ hi (fun d => ?_) (fun d => ⟨in_6 hj, in_6 hj, fun y2 ey2 => ⟨rfl, ?_⟩⟩)⟩)))
        · rw [c] at d; exact absurd d (by decide)
        · subst ey; subst ey2
          exact rl_ (rl_cu R)
      · refine yb_y hj (br_f no_1 (yb_y hi (br_f no_1 ⟨in_6 hj, tz_ _ hi (fun d => ⟨rfl, rl_ R⟩) (fun d => ?_)⟩)))
        rw [c] at d; exact absurd d (by decide)
theorem i_vc_live {k : Nat} {u : SX} {v : SY} (I : i_Rel k u v) (hk : k + 3 ≤ 1536) : wpX_live (fun r => wpY_live (fun r' => r' = r ∧ i_Rel (k + 3) u v) v) u := by
  obtain ⟨co, bo, E, ah, bl, pc, we, he, li, ov, wg, be, rfl, rfl, R⟩ := I
  exact xl_ (yl_ ⟨rfl, rl_ R⟩)
theorem i_vc_dominators {k : Nat} {u : SX} {v : SY} (I : i_Rel k u v) (hk : k + 3 ≤ 1536) (v1 : Int32) : wpX_dominators (fun r => wpY_dominators (fun r' => r' = r ∧ i_Rel (k + 3) u v) v v1) u v1 := by
  obtain ⟨co, bo, E, ah, bl, pc, we, he, li, ov, wg, be, rfl, rfl, R⟩ := I
  rcases ix_6 v1 with hb | ⟨j, hj, rfl⟩
  · exact xd_n hb (yd_n hb ⟨rfl, rl_ R⟩)
  · exact xd_ hj (yd_ R.1 hj ⟨rfl, rl_ R⟩)
theorem i_vc_loop {k : Nat} {u : SX} {v : SY} (I : i_Rel k u v) (hk : k + 3 ≤ 1536) (v1 : Int32) : wpX_loop (fun r => wpY_loop (fun r' v' => r' = r ∧ i_Rel (k + 3) u v') v v1) u v1 := by
  obtain ⟨co, bo, E, ah, bl, pc, we, he, li, ov, wg, be, rfl, rfl, R⟩ := I
  rcases ix_6 v1 with hb | ⟨j, hj, rfl⟩
  · exact xp_n hb (yp_n R.1 hb fun ov' => ⟨rfl, rl_ R⟩)
  · exact xp_ hj (yp_ R.1 hj fun ov' => ⟨rfl, rl_ R⟩)
theorem i_vc_regular {k : Nat} {u : SX} {v : SY} (I : i_Rel k u v) (hk : k + 3 ≤ 1536) : wpX_regular (fun r u' => wpY_regular (fun r' v' => r' = r ∧ i_Rel (k + 3) u' v') v) u := by
  obtain ⟨co, bo, E, ah, bl, pc, we, he, li, ov, wg, be, rfl, rfl, R⟩ := I
  unfold wpX_regular
  dsimp only
  refine xo_ R.1 (fun ah' bl' pc' O hR => ⟨rfl, yg_ R.1 (fun ov' hO _ => ⟨rfl, rl_ R⟩) (fun ov' z => ?_)⟩) (fun ah' bl' pc' hR => ⟨rfl, yg_ R.1 (fun ov' hO z => ?_) (fun ov' _ => ⟨rfl, rl_ R⟩)⟩)
  · rw [hR] at z; exact absurd z (by decide)
  · rw [hR] at z; exact absurd z (by decide)
