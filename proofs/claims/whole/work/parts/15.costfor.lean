def cf_w (wt : Nat → Nat) (j c b : Nat) : Nat := if b = j then c else wt b
noncomputable def cf_f (E : Nat → Int32) (bd wt : Nat → Nat) (j c : Nat) : Int32 := Classical.epsilon (fun v => an_s true (fun w => ∃ n s, wk_YW E bd (cf_w wt j c) n s w ∧ True) v)
noncomputable def cf_R (E : Nat → Int32) (bd wt : Nat → Nat) (j : Nat) (q : Int32) : Nat → Int32
  | 0 => -1
  | c + 1 => if q < cf_f E bd wt j c then cf_R E bd wt j q c else nI c
def cf_x : Nat → Int32
  | 0 => -1
  | c + 1 => nI c
theorem cf_x1 (c : Nat) : nI c + (-1) = cf_x c := by
  cases c with
  | zero => decide
  | succ c => exact pk_m1 c
theorem cf_u {E : Nat → Int32} {bd wt : Nat → Nat} {j c : Nat} {v : Int32} (h : an_s true (fun w => ∃ n s, wk_YW E bd (cf_w wt j c) n s w ∧ True) v) : v = cf_f E bd wt j c :=
  an_u (fun _ => Iff.rfl) h (Classical.epsilon_spec (p := fun v => an_s true (fun w => ∃ n s, wk_YW E bd (cf_w wt j c) n s w ∧ True) v) ⟨v, h⟩)
theorem cf_50 {wt : Nat → Nat} {j c : Nat} (hc : c ≤ 50) (h : ∀ b, b < 6 → wt b ≤ 50) : ∀ b, b < 6 → cf_w wt j c b ≤ 50 := by
  intro b hb
  unfold cf_w
  by_cases e : b = j
  · rw [if_pos e]; exact hc
  · rw [if_neg e]; exact h b hb
theorem cf_e {a : Nat → Int32} {wt : Nat → Nat} {j c : Nat} (h : ∀ b, b < 6 → b ≠ j → a b = nI (wt b)) : ∀ b, b < 6 → upd a j (nI c) b = nI (cf_w wt j c b) := by
  intro b hb
  unfold cf_w
  by_cases e : b = j
  · rw [if_pos e, e]; exact pk_us
  · rw [if_neg e, pk_un e]; exact h b hb e
theorem cf_uu (a : Nat → Int32) (j : Nat) (x y : Int32) : upd (upd a j x) j y = upd a j y := by
  funext b
  by_cases e : b = j
  · rw [e, pk_us, pk_us]
  · rw [pk_un e, pk_un e, pk_un e]
theorem cf_us (a : Nat → Int32) (j : Nat) : upd a j (a j) = a := by
  funext b
  by_cases e : b = j
  · rw [e, pk_us]
  · rw [pk_un e]
section
variable {co bo E ah bl pc : Nat → Int32} {wt : Nat → Nat}
theorem cx_ {post : Int32 → SX → Prop} (R : rl_G co bo E) (O : od_O E bl pc) {j : Nat} (hj : j < 6) {q : Int32} (hwt : ∀ b, b < 6 → wt b ≤ 50) :
    ∀ c, c ≤ 51 → ∀ we he li : Nat → Int32, (∀ b, b < 6 → b ≠ j → we b = nI (wt b)) → (∀ we' he' li' : Nat → Int32, post (cf_R E (rl_b bo) wt j q c) (co, bo, E, ah, bl, pc, we', he', li')) → wX_costFor_23 post (nI j) q (c + 1) (cf_x c) co bo E ah bl pc we he li := by
  intro c
  induction c with
  | zero => intro _ we he li _ h; exact br_t mm_n (h we he li)
  | succ c ih =>
    intro hc we he li hw h
    refine br_f (nI_pos (n := c) (by omega)) ⟨in_6 hj, fun y ey => ?_⟩
    rw [cl_n (by omega)] at ey
    subst ey
    have W : xW_ E bo bl pc (upd we j (nI c)) (rl_b bo) (cf_w wt j c) (ak_p pc) := ak_W R O (cf_e hw) (cf_50 (by omega) hwt)
    refine xw_ W fun he' li' Ah Al => xm_ W Ah fun v hv => ?_
    have ev : v = cf_f E (rl_b bo) wt j c := cf_u (an_c (ak_t R O) hv)
    subst ev
    refine br_c (fun d z ez => ?_) (fun d => ?_)
    · have ez : z = nI c + (-1) := ez
      rw [cf_x1] at ez
      subst ez
      have e : cf_R E (rl_b bo) wt j q (c + 1) = cf_R E (rl_b bo) wt j q c := if_pos d
      rw [e] at h
      exact ih (by omega) _ _ _ (fun b hb hn => by rw [pk_un hn]; exact hw b hb hn) h
    · have e : cf_R E (rl_b bo) wt j q (c + 1) = nI c := if_neg d
      rw [e] at h
      exact h _ _ _
theorem cy_ {post : Int32 → SY → Prop} (R : rl_G co bo E) (hR : rg_R E 6 = false) (O : od_O E bl pc) {j : Nat} (hj : j < 6) {q : Int32} :
    ∀ c, c ≤ 51 → ∀ pr ov wg be : Nat → Int32, upd pr j (co j) = co → (∀ ov' wg' be' : Nat → Int32, post (cf_R E (rl_b bo) (rl_b co) j q c) (co, bo, E, ov', wg', be')) → wY_costFor_31 post (nI j) q (co j) (c + 2) (-1) (cf_x c) pr bo E ov wg be := by
  have hb := rl_bb R.2.1
  have hc0 := rl_bc R.2.2
  intro c
  induction c with
  | zero =>
    intro _ pr ov wg be hp h
    refine br_t mm_n ⟨in_6 hj, fun y ey => ?_⟩
    rw [cl_n (by omega), hp] at ey
    subst ey
    exact h ov wg be
  | succ c ih =>
    intro hc pr ov wg be hp h
    refine br_f (nI_pos (n := c) (by omega)) (br_f (by decide) ⟨in_6 hj, fun y ey => ?_⟩)
    rw [cl_n (by omega)] at ey
    have ey : y = upd pr j (nI c) := ey
    subst ey
    have hp2 : ∀ b, b < 6 → b ≠ j → pr b = nI (rl_b co b) := by
      intro b hb hn
      have := congrFun hp b
      rw [pk_un hn] at this
      rw [this]; exact hc0.1 b hb
    unfold wpY_worstOfAll
    dsimp only
    refine yA_f (g := true) (Q := fun _ => True) (wt := cf_w (rl_b co) j c) R.1 hR hb.1 hb.2 (cf_e hp2) (ak_B R O (cf_50 (by omega) hc0.2)) (fun _ _ => trivial) (fun z => absurd mm_n z) fun v ov' wg' be' hv => ?_
    have ev : v = cf_f E (rl_b bo) (rl_b co) j c := cf_u hv
    subst ev
    refine br_c (fun d z ez => ?_) (fun d z ez => ?_)
    · have ez : z = nI c + (-1) := ez
      rw [cf_x1] at ez
      subst ez
      have e : cf_R E (rl_b bo) (rl_b co) j q (c + 1) = cf_R E (rl_b bo) (rl_b co) j q c := if_pos d
      rw [e] at h
      exact ih (by omega) _ _ _ _ (by rw [cf_uu]; exact hp) h
    · have ez : z = nI c + (-1) := ez
      rw [cf_x1] at ez
      subst ez
      have e : cf_R E (rl_b bo) (rl_b co) j q (c + 1) = nI c := if_neg d
      rw [e] at h
      have fin : vp_in (nI j) 6 ∧ ∀ y : Nat → Int32, y = upd (upd pr j (nI c)) (nI j).toNatClampNeg (co j) → post (nI c) (y, bo, E, ov', wg', be') := by
        refine ⟨in_6 hj, fun y ey => ?_⟩
        rw [cl_n (by omega), cf_uu, hp] at ey
        subst ey
        exact h ov' wg' be'
      exact br_c (fun _ => fin) (fun _ => br_t (nI_pos' (by omega)) fin)
end
theorem i_vc_costFor {k : Nat} {u : SX} {v : SY} (I : i_Rel k u v) (hk : k + 3 ≤ 1536) (v1 : Int32) (v2 : Int32) : wpX_costFor (fun r u' => wpY_costFor (fun r' v' => r' = r ∧ i_Rel (k + 3) u' v') v v1 v2) u v1 v2 := by
  obtain ⟨co, bo, E, ah, bl, pc, we, he, li, ov, wg, be, rfl, rfl, R⟩ := I
  have hc := rl_bc R.2.2
  unfold wpX_costFor
  dsimp only
  unfold wpY_costFor
  dsimp only
  rcases ix_6 v1 with hn | ⟨j, hj, rfl⟩
  · exact xb_n hn (br_t rfl (yb_n hn (br_t rfl ⟨rfl, rl_ R⟩)))
  · refine xb_y hj (br_f no_1 (xo_ R.1 (fun ah' bl' pc' O hR => br_f no_1 (xc_ fun we' hw => ⟨52, cx_ (wt := rl_b co) R O hj hc.2 51 (by omega) _ _ _ (fun b hb _ => (hw b hb).trans (hc.1 b hb)) fun we2 he2 li2 => ?_⟩)) (fun ah' bl' pc' hR => br_t rfl ?_)))
    · refine yb_y hj (br_f no_1 (yg_ R.1 (fun ov' hO _ => br_f no_1 ⟨in_6 hj, fun x ex => ?_⟩) (fun ov' z => ?_)))
      · rw [cl_n (by omega)] at ex
        subst ex
        exact ⟨53, cy_ R hR O hj 51 (by omega) _ _ _ _ (cf_us co j) fun ov2 wg2 be2 => ⟨rfl, rl_ R⟩⟩
      · rw [hR] at z; exact absurd z (by decide)
    · refine yb_y hj (br_f no_1 (yg_ R.1 (fun ov' hO z => ?_) (fun ov' _ => br_t rfl ⟨rfl, rl_ R⟩)))
      rw [hR] at z; exact absurd z (by decide)
