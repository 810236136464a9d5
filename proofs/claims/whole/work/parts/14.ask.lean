theorem an_c {g : Bool} {P Q : Nat → Prop} {r : Int32} (hPQ : ∀ w, P w ↔ Q w) (h : an_s g P r) : an_s g Q r := by
  rcases h with ⟨e, h⟩ | ⟨m, hm, e, hP, h⟩
  · exact Or.inl ⟨e, fun w q => h w ((hPQ w).mpr q)⟩
  · exact Or.inr ⟨m, hm, e, (hPQ m).mp hP, fun w q => h w ((hPQ w).mpr q)⟩
theorem an_0 {g : Bool} {P : Nat → Prop} {r : Int32} (hP : ∀ w, ¬ P w) (h : an_s g P r) : r = -1 := by
  rcases h with ⟨e, _⟩ | ⟨m, _, _, q, _⟩
  · exact e
  · exact absurd q (hP m)
section
variable {co bo E ah bl pc we he li ov wg be : Nat → Int32} {wt : Nat → Nat}
abbrev ak_p (pc : Nat → Int32) : Nat → Nat := fun b => (pc b).toNatClampNeg
theorem ak_W (R : rl_G co bo E) (O : od_O E bl pc) (hwe : ∀ b, b < 6 → we b = nI (wt b)) (hwt : ∀ b, b < 6 → wt b ≤ 50) : xW_ E bo bl pc we (rl_b bo) wt (ak_p pc) := by
  have h := wk_of R.1 O
  have hb := rl_bb R.2.1
  exact ⟨R.1, h.1, h.2, hb.1, hb.2, hwe, hwt⟩
theorem ak_B (R : rl_G co bo E) (O : od_O E bl pc) (hwt : ∀ b, b < 6 → wt b ≤ 50) : fl_B (wk_Y E (rl_b bo)) wt 0 4374 :=
  dy_B R.1 (wk_of R.1 O).1 (rl_bb R.2.1).2 hwt
/-- the walks of both sides that end at block j -/
theorem ak_e (R : rl_G co bo E) (O : od_O E bl pc) {j : Nat} (hj : j < 6) (w : Nat) :
    (∃ n s, wk_XW E (rl_b bo) wt bl (ak_p pc) n s w ∧ bl (wk_z s) = nI j) ↔ ∃ n s, wk_YW E (rl_b bo) wt n s w ∧ s % 6 = j := by
  have O' := (wk_of R.1 O).1
  refine xy_P R.1 O' (rl_bb R.2.1).2 (fun s x J => ?_) w
  rw [(wk_jk R.1 O' J).1, nI_eq (by omega) (by omega)]
theorem ak_t (R : rl_G co bo E) (O : od_O E bl pc) (w : Nat) :
    (∃ n s, wk_XW E (rl_b bo) wt bl (ak_p pc) n s w ∧ True) ↔ ∃ n s, wk_YW E (rl_b bo) wt n s w ∧ True :=
  xy_P (QX := fun _ => True) (QY := fun _ => True) R.1 (wk_of R.1 O).1 (rl_bb R.2.1).2 (fun s x J => Iff.rfl) w
theorem ak_n (R : rl_G co bo E) (O : od_O E bl pc) {p : Int32} (hp : p < 0 ∨ nI 6 ≤ p) (w : Nat) :
    ¬ ∃ n s, wk_XW E (rl_b bo) wt bl (ak_p pc) n s w ∧ bl (wk_z s) = p := by
  rintro ⟨n, x, h, e⟩
  have O' := (wk_of R.1 O).1
  obtain ⟨s, _, J⟩ := wk_XY R.1 O' (rl_bb R.2.1).2 n x w h
  rw [(wk_jk R.1 O' J).1] at e
  rw [← e] at hp
  rcases hp with z | z
  · exact nI_pos (by omega) z
  · exact nI_ge (a := s % 6) (b := 6) (by omega) (by decide) z
theorem ak_Q2 {j : Nat} (hj : j < 6) : ∀ s, s < 4374 → (nI (s % 6) = nI j ↔ s % 6 = j) := fun s _ => nI_eq (by omega) (by omega)
end
theorem i_vc_worst {k : Nat} {u : SX} {v : SY} (I : i_Rel k u v) (hk : k + 3 ≤ 1536) (v1 : Int32) : wpX_worst (fun r u' => wpY_worst (fun r' v' => r' = r ∧ i_Rel (k + 3) u' v') v v1) u v1 := by
  obtain ⟨co, bo, E, ah, bl, pc, we, he, li, ov, wg, be, rfl, rfl, R⟩ := I
  have hb := rl_bb R.2.1
  have hc := rl_bc R.2.2
  unfold wpX_worst
  dsimp only
  unfold wpY_worst
  dsimp only
  refine xo_ R.1 (fun ah' bl' pc' O hR => br_f no_1 (xc_ fun we' hw => ?_)) (fun ah' bl' pc' hR => br_t rfl ?_)
  · have W : xW_ E bo bl' pc' we' (rl_b bo) (rl_b co) (ak_p pc') := ak_W R O (fun b hb => (hw b hb).trans (hc.1 b hb)) hc.2
    refine xw_ W fun he' li' Ah Al => xe_ W Ah fun v hv => ?_
    rcases ix_6 v1 with hn | ⟨j, hj, rfl⟩
    · have e := an_0 (ak_n R O hn) hv
      subst e
      exact yb_n hn (br_t rfl ⟨rfl, rl_ R⟩)
    · exact yb_y hj (br_f no_1 (yA_f (g := true) (Q := fun s => s % 6 = j) R.1 hR hb.1 hb.2 hc.1 (ak_B R O hc.2) (fun z => absurd z (nI_pos (by omega))) (fun _ => ak_Q2 hj) fun v' ov' wg' be' hv' => ⟨(an_u (ak_e R O hj) hv hv').symm, rl_ R⟩))
  · rcases ix_6 v1 with hn | ⟨j, hj, rfl⟩
    · exact yb_n hn (br_t rfl ⟨rfl, rl_ R⟩)
    · exact yb_y hj (br_f no_1 (yA_t R.1 hR fun ov' => ⟨rfl, rl_ R⟩))
theorem i_vc_least {k : Nat} {u : SX} {v : SY} (I : i_Rel k u v) (hk : k + 3 ≤ 1536) (v1 : Int32) : wpX_least (fun r u' => wpY_least (fun r' v' => r' = r ∧ i_Rel (k + 3) u' v') v v1) u v1 := by
  obtain ⟨co, bo, E, ah, bl, pc, we, he, li, ov, wg, be, rfl, rfl, R⟩ := I
  have hb := rl_bb R.2.1
  have hc := rl_bc R.2.2
  unfold wpX_least
  dsimp only
  unfold wpY_least
  dsimp only
  refine xo_ R.1 (fun ah' bl' pc' O hR => br_f no_1 (xc_ fun we' hw => ?_)) (fun ah' bl' pc' hR => br_t rfl ?_)
  · have W : xW_ E bo bl' pc' we' (rl_b bo) (rl_b co) (ak_p pc') := ak_W R O (fun b hb => (hw b hb).trans (hc.1 b hb)) hc.2
    refine xw_ W fun he' li' Ah Al => xq_ W Al fun v hv => ?_
    rcases ix_6 v1 with hn | ⟨j, hj, rfl⟩
    · have e := an_0 (ak_n R O hn) hv
      subst e
      exact yb_n hn (br_t rfl ⟨rfl, rl_ R⟩)
    · exact yb_y hj (br_f no_1 (yA_f (g := false) (Q := fun s => s % 6 = j) R.1 hR hb.1 hb.2 hc.1 (ak_B R O hc.2) (fun z => absurd z (nI_pos (by omega))) (fun _ => ak_Q2 hj) fun v' ov' wg' be' hv' => ⟨(an_u (ak_e R O hj) hv hv').symm, rl_ R⟩))
  · rcases ix_6 v1 with hn | ⟨j, hj, rfl⟩
    · exact yb_n hn (br_t rfl ⟨rfl, rl_ R⟩)
    · exact yb_y hj (br_f no_1 (yA_t R.1 hR fun ov' => ⟨rfl, rl_ R⟩))
theorem i_vc_worstOfAll {k : Nat} {u : SX} {v : SY} (I : i_Rel k u v) (hk : k + 3 ≤ 1536) : wpX_worstOfAll (fun r u' => wpY_worstOfAll (fun r' v' => r' = r ∧ i_Rel (k + 3) u' v') v) u := by
  obtain ⟨co, bo, E, ah, bl, pc, we, he, li, ov, wg, be, rfl, rfl, R⟩ := I
  have hb := rl_bb R.2.1
  have hc := rl_bc R.2.2
  unfold wpX_worstOfAll
  dsimp only
  unfold wpY_worstOfAll
  dsimp only
  refine xo_ R.1 (fun ah' bl' pc' O hR => br_f no_1 (xc_ fun we' hw => ?_)) (fun ah' bl' pc' hR => br_t rfl (yA_t R.1 hR fun ov' => ⟨rfl, rl_ R⟩))
  have W : xW_ E bo bl' pc' we' (rl_b bo) (rl_b co) (ak_p pc') := ak_W R O (fun b hb => (hw b hb).trans (hc.1 b hb)) hc.2
  refine xw_ W fun he' li' Ah Al => xm_ W Ah fun v hv => ?_
  exact yA_f (g := true) (Q := fun _ => True) R.1 hR hb.1 hb.2 hc.1 (ak_B R O hc.2) (fun _ _ => trivial) (fun z => absurd mm_n z) fun v' ov' wg' be' hv' => ⟨(an_u (ak_t R O) hv hv').symm, rl_ R⟩
/-! visits -/
def vs_w (j b : Nat) : Nat := if b = j then 1 else 0
theorem vs_50 (j b : Nat) : vs_w j b ≤ 50 := by
  unfold vs_w
  by_cases e : b = j
  · rw [if_pos e]; omega
  · rw [if_neg e]; omega
theorem vs_e {j b : Nat} {x : Int32} (h : x = if b = j then 1 else 0) : x = nI (vs_w j b) := by
  unfold vs_w
  by_cases e : b = j
  · rw [if_pos e] at h ⊢; exact h
  · rw [if_neg e] at h ⊢; exact h
theorem vs_y {pr mo E ov wg be : Nat → Int32} {post : Int32 → SY → Prop} {j : Nat} (hj : j < 6) (h : ∀ wg' : Nat → Int32, (∀ b, b < 6 → wg' b = nI (vs_w j b)) → wpY_follow (fun u => match u with | (p1, p2, p3, p4, p5, p6) => wpY_value (fun r => post r (p1, p2, p3, p4, p5, p6)) (p1, p2, p3, p4, p5, p6) (-1) 1) (pr, mo, E, ov, wg', be) 1) : ∃ n, wY_visits_32 post (nI j) n 0 pr mo E ov wg be := by
  refine loop_0 (fun n i s => wY_visits_32 post (nI j) n (nI i) pr mo E ov s be) (fun i s => ∀ b, b < i → s b = nI (vs_w j b)) 6 wg (fun a ha => absurd ha (by omega)) ?_ ?_
  · intro n s hs
    exact br_t le_6 (h s hs)
  · intro n i s hi hs k
    refine br_f (ge_6 hi) (pk_eq i j (fun c => ⟨in_6 hi, fun y ey z ez => ?_⟩) (fun c => ⟨in_6 hi, fun y ey z ez => ?_⟩))
    · subst ez; subst ey
      rw [nI_1, cl_n (by omega)]
      refine k _ (fun a ha => ?_)
      by_cases e : a = i
      · subst e; exact vs_e (by rw [pk_us, if_pos c])
      · rw [pk_un e]; exact hs a (by omega)
    · subst ez; subst ey
      rw [nI_1, cl_n (by omega)]
      refine k _ (fun a ha => ?_)
      by_cases e : a = i
      · subst e; exact vs_e (by rw [pk_us, if_neg c])
      · rw [pk_un e]; exact hs a (by omega)
theorem i_vc_visits {k : Nat} {u : SX} {v : SY} (I : i_Rel k u v) (hk : k + 3 ≤ 1536) (v1 : Int32) : wpX_visits (fun r u' => wpY_visits (fun r' v' => r' = r ∧ i_Rel (k + 3) u' v') v v1) u v1 := by
  obtain ⟨co, bo, E, ah, bl, pc, we, he, li, ov, wg, be, rfl, rfl, R⟩ := I
  have hb := rl_bb R.2.1
  unfold wpX_visits
  dsimp only
  unfold wpY_visits
  dsimp only
  unfold wpX_isLive
  dsimp only
  rcases ix_6 v1 with hn | ⟨j, hj, rfl⟩
  · exact xb_n hn (br_t rfl (br_t rfl (yb_n hn (br_t rfl ⟨rfl, rl_ R⟩))))
  · refine xb_y hj (br_f no_1 (xl_ (xh_ _ hj (fun c => ⟨rfl, br_f no_1 ?_⟩) (fun c => ⟨rfl, br_t rfl (yb_y hj (br_f no_1 (yl_ (tz_ _ hj (fun d => ⟨rfl, rl_ R⟩) (fun d => ?_)))))⟩))))
    · refine xo_ R.1 (fun ah' bl' pc' O hR => br_f no_1 (xi_ hj fun we' hw => ?_)) (fun ah' bl' pc' hR => br_t rfl ?_)
      · have W : xW_ E bo bl' pc' we' (rl_b bo) (vs_w j) (ak_p pc') := ak_W R O (fun b hb => vs_e (hw b hb)) (fun b _ => vs_50 j b)
        refine xw_ W fun he' li' Ah Al => xm_ W Ah fun v hv => ?_
        refine yb_y hj (br_f no_1 (yl_ (tz_ _ hj (fun d => ?_) (fun d => yg_ R.1 (fun ov' hO _ => br_f no_1 (vs_y hj fun wg' hg => ?_)) (fun ov' z => ?_)))))
        · rw [c] at d; exact absurd d (by decide)
        · have hB := ak_B (wt := vs_w j) R O (fun b _ => vs_50 j b)
          exact yf_ (g := true) (bd := rl_b bo) (wt := vs_w j) ⟨R.1, hO, hb.1, hb.2, hg, hB⟩ fun be' A => yv_ (Q := fun _ => True) hB A (fun _ _ => trivial) (fun z => absurd mm_n z) fun v' hv' => ⟨(an_u (ak_t R O) hv hv').symm, rl_ R⟩
        · rw [hR] at z; exact absurd z (by decide)
      · refine yb_y hj (br_f no_1 (yl_ (tz_ _ hj (fun d => ?_) (fun d => yg_ R.1 (fun ov' hO z => ?_) (fun ov' z => br_t rfl ⟨rfl, rl_ R⟩)))))
        · rw [c] at d; exact absurd d (by decide)
        · rw [hR] at z; exact absurd z (by decide)
    · rw [c] at d; exact absurd d (by decide)
