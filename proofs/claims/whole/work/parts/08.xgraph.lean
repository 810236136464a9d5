theorem ge_6 {i : Nat} (h : i < 6) : ¬ (6 : Int32) ≤ nI i := nI_ge (b := 6) h (by decide)
theorem le_6 : (6 : Int32) ≤ nI 6 := nI_le (a := 6) (b := 6) (by omega) (by decide)
theorem in_6 {i : Nat} (h : i < 6) : vp_in (nI i) 6 := vp_in_nI h (by decide)
theorem cl_n {i : Nat} (h : i < 100000) : (nI i).toNatClampNeg = i := nI_clamp (by omega)
theorem no_1 : ¬ (1 : Int32) = 0 := by decide
theorem xh_ {post : Int32 → Prop} (x : Int32) {b : Nat} (hb : b < 6) (h1 : bt x b = true → post 1) (h0 : bt x b = false → post 0) : wpX_has post x (nI b) :=
  ⟨fun z => h0 ((bq_h0 x (by omega)).mp z), fun z => h1 (bq_nf fun y => z ((bq_h0 x (by omega)).mpr y))⟩
theorem xb_y {post : Int32 → Prop} {j : Nat} (hj : j < 6) (h : post 1) : wpX_isBlock post (nI j) :=
  br_f (nI_pos (by omega)) (br_f (ge_6 hj) h)
theorem xb_n {post : Int32 → Prop} {p : Int32} (hp : p < 0 ∨ nI 6 ≤ p) (h : post 0) : wpX_isBlock post p := by
  by_cases c : p < 0
  · exact br_t c h
  · exact br_f c (br_t (hp.elim (fun z => absurd z c) id) h)
theorem ix_6 (p : Int32) : (p < 0 ∨ nI 6 ≤ p) ∨ ∃ j : Nat, j < 6 ∧ p = nI j := by
  rcases pk_ix p (n := 6) (by decide) with h | h | h
  · exact Or.inl (Or.inl h)
  · exact Or.inl (Or.inr h)
  · exact Or.inr h
section
variable {co bo E ah bl pc we he li : Nat → Int32}
theorem xr_i {post : Int32 → Prop} {J : Int32 → Int32 → Prop} {m x3 r : Int32} (h : J (cl_i E m 6 r) (x3 + 1)) : ∃ n, wX_reachedWithout_17 post J m x3 co bo E ah bl pc we he li n r 0 :=
  loop_0 (fun n i s => wX_reachedWithout_17 post J m x3 co bo E ah bl pc we he li n s (nI i)) (fun i s => s = cl_i E m i r) 6 r rfl
    (fun n s hs => br_t le_6 (fun y ey => by rw [ey, hs]; exact h))
    (fun n i s hi hs k => by
      refine br_f (ge_6 hi) (xh_ s hi (fun hb => br_f no_1 ⟨in_6 hi, fun y ey z ez => ?_⟩) (fun hb => br_t rfl fun z ez => ?_))
      · subst ez; subst ey
        rw [nI_1, cl_n (by omega)]
        exact k _ (by rw [hs] at hb ⊢; exact (if_pos hb).symm)
      · subst ez
        rw [nI_1]
        exact k _ (by rw [hs] at hb ⊢; exact (if_neg (by rw [hb]; decide)).symm))
theorem xr_o {post : Int32 → Prop} {m r : Int32} (h : post (cl_o E m r 6)) : ∃ n, wX_reachedWithout_8 post m co bo E ah bl pc we he li n r 0 :=
  loop_0 (fun n i s => wX_reachedWithout_8 post m co bo E ah bl pc we he li n s (nI i)) (fun i s => s = cl_o E m r i) 6 r rfl
    (fun n s hs => br_t le_6 (by rw [hs]; exact h))
    (fun n i s hi hs k => br_f (ge_6 hi) (xr_i (by rw [nI_1]; exact k _ (by rw [hs]; rfl))))
theorem xr_ {post : Int32 → Prop} {m : Int32} (h : post (cl_r E m)) : wpX_reachedWithout post (co, bo, E, ah, bl, pc, we, he, li) m := by
  intro y ey
  rw [ey]
  exact xr_o h
theorem xl_ {post : Int32 → Prop} (h : post (cl_r E 0)) : wpX_live post (co, bo, E, ah, bl, pc, we, he, li) := by
  unfold wpX_live
  dsimp only
  exact xr_ h
theorem xd_l {post : Int32 → Prop} {j : Nat} (hj : j < 6) (h : post (dq_M E j)) : ∃ n, wX_dominators_20 post (nI j) (cl_r E 0) co bo E ah bl pc we he li n 0 0 :=
  loop_0 (fun n i s => wX_dominators_20 post (nI j) (cl_r E 0) co bo E ah bl pc we he li n s (nI i)) (fun i s => s = dq_f E j i) 6 0 rfl
    (fun n s hs => br_t le_6 (by rw [hs]; exact h))
    (fun n i s hi hs k => by
      refine br_f (ge_6 hi) (xr_ (m := bq_i i) fun y ey => ?_)
      subst ey
      refine xh_ _ hj (fun hb => br_f no_1 fun y ey z ez => ?_) (fun hb => br_t rfl fun z ez => ?_)
      · subst ez; subst ey
        rw [nI_1]
        exact k _ (by rw [hs]; exact (if_pos hb).symm)
      · subst ez
        rw [nI_1]
        exact k _ (by rw [hs]; exact (if_neg (by rw [hb]; decide)).symm))
theorem xd_ {post : Int32 → Prop} {j : Nat} (hj : j < 6) (h : post (dq_M E j)) : wpX_dominators post (co, bo, E, ah, bl, pc, we, he, li) (nI j) := by
  unfold wpX_dominators
  dsimp only
  exact xb_y hj (br_f no_1 (xr_ (xd_l hj h)))
theorem xd_n {post : Int32 → Prop} {p : Int32} (hp : p < 0 ∨ nI 6 ≤ p) (h : post 0) : wpX_dominators post (co, bo, E, ah, bl, pc, we, he, li) p := by
  unfold wpX_dominators
  dsimp only
  exact xb_n hp (br_t rfl h)
theorem xa_ {post : SX → Prop} (h : ∀ ah' : Nat → Int32, (∀ a, a < 6 → ah' a = od_A E a) → post (co, bo, E, ah', bl, pc, we, he, li)) : wpX_findEdgesAhead post (co, bo, E, ah, bl, pc, we, he, li) := by
  refine loop_0 (fun n i s => wX_findEdgesAhead_2 post n (nI i) co bo E s bl pc we he li) (fun i s => ∀ a, a < i → s a = od_A E a) 6 ah (fun a ha => absurd ha (by omega)) ?_ ?_
  · intro n s hs
    exact br_t le_6 (h s hs)
  · intro n i s hi hs k
    refine br_f (ge_6 hi) ⟨in_6 hi, xd_ hi ⟨in_6 hi, fun y ey z ez => ?_⟩⟩
    subst ez; subst ey
    rw [nI_1, cl_n (by omega)]
    refine k _ (fun a ha => ?_)
    by_cases e : a = i
    · subst e; exact pk_us
    · rw [pk_un e]; exact hs a (by omega)
theorem xf_2 {post : Int32 → Prop} {x : Int32} : ∀ d j, j + d = 6 → post (od_v (od_g x d j)) → wX_firstBlockOf_42 post x co bo E ah bl pc we he li (d + 1) (nI j) := by
  intro d
  induction d with
  | zero =>
    intro j hj h
    have e : j = 6 := by omega
    subst e
    exact br_t le_6 h
  | succ d ih =>
    intro j hj h
    refine br_f (ge_6 (by omega)) (xh_ x (by omega) (fun hb => br_f no_1 ?_) (fun hb => br_t rfl fun z ez => ?_))
    · have e : od_v (od_g x (d + 1) j) = nI j := by
        unfold od_g; rw [if_pos hb]; exact if_pos (by omega)
      rw [e] at h; exact h
    · subst ez
      rw [nI_1]
      refine ih (j + 1) (by omega) ?_
      have e : od_g x (d + 1) j = od_g x d (j + 1) := if_neg (by rw [hb]; decide)
      rw [e] at h; exact h
theorem xf_ {post : Int32 → Prop} {w v : Int32} (e : od_v (od_n (od_F ah w)) = v) (h : post v) : wpX_firstBlockOf post (co, bo, E, ah, bl, pc, we, he, li) w := by
  refine loop_0 (fun n i s => wX_firstBlockOf_4 post w co bo E ah bl pc we he li n s (nI i)) (fun i s => s = od_l ah w i) 6 0 rfl ?_ ?_
  · intro n s hs
    refine br_t le_6 fun y ey => ?_
    subst ey; subst hs
    exact ⟨7, xf_2 6 0 rfl (by rw [← e] at h; exact h)⟩
  · intro n i s hi hs k
    refine br_f (ge_6 hi) (xh_ w hi (fun hb => br_f no_1 ⟨in_6 hi, fun y ey z ez => ?_⟩) (fun hb => br_t rfl fun z ez => ?_))
    · subst ez; subst ey
      rw [nI_1, cl_n (by omega)]
      exact k _ (by rw [hs]; exact (if_pos hb).symm)
    · subst ez
      rw [nI_1]
      exact k _ (by rw [hs]; exact (if_neg (by rw [hb]; decide)).symm)
theorem xo_l {post : Int32 → SX → Prop} (hE : cl_G E) (hA : ∀ a, a < 6 → ah a = od_A E a)
    (h1 : ∀ bl' pc' : Nat → Int32, od_O E bl' pc' → rg_R E 6 = false → post 1 (co, bo, E, ah, bl', pc', we, he, li))
    (h0 : ∀ bl' pc' : Nat → Int32, rg_R E 6 = true → post 0 (co, bo, E, ah, bl', pc', we, he, li)) : ∃ n, wX_orderBlocks_11 post n (cl_r E 0) 0 co bo E ah bl pc we he li := by
  refine loop_0 (fun n i (s : Int32 × (Nat → Int32) × (Nat → Int32)) => wX_orderBlocks_11 post n s.1 (nI i) co bo E ah s.2.1 s.2.2 we he li) (fun i s => od_I (cl_r E 0) ah i s.1 s.2.1 s.2.2) 6 (cl_r E 0, bl, pc) od_I0 ?_ ?_
  · rintro n ⟨w, b', p'⟩ hs
    refine br_t le_6 (br_c (fun z => ?_) (fun z => ?_))
    · have O := od_yes hE hA hs z
      exact h1 b' p' O (od_nr hE O)
    · exact h0 b' p' (od_no hE hA hs z)
  · rintro n i ⟨w, b', p'⟩ hi hs k
    refine br_f (ge_6 hi) ?_
    by_cases c : od_n (od_F ah w) < 6
    · refine xf_ (if_pos c) (br_f (nn_1 (Nat.lt_trans c (by decide))) ⟨in_6 hi, fun y ey => ⟨in_6 c, fun y2 ey2 x ex z ez => ?_⟩⟩)
      subst ez; subst ex; subst ey2; subst ey
      rw [nI_1, cl_n (i := i) (by omega), cl_n (Nat.lt_trans c (by decide))]
      exact k (_, _, _) (od_IS hi hs c (cl_r_s hE) dq_L0 (od_A0 hE hA))
    · refine xf_ (if_neg c) (br_t rfl fun z ez => ?_)
      subst ez
      rw [nI_1]
      exact k (w, b', p') (od_I6 hs c dq_L0 (od_A0 hE hA))
theorem xo_ {post : Int32 → SX → Prop} (hE : cl_G E)
    (h1 : ∀ ah' bl' pc' : Nat → Int32, od_O E bl' pc' → rg_R E 6 = false → post 1 (co, bo, E, ah', bl', pc', we, he, li))
    (h0 : ∀ ah' bl' pc' : Nat → Int32, rg_R E 6 = true → post 0 (co, bo, E, ah', bl', pc', we, he, li)) : wpX_orderBlocks post (co, bo, E, ah, bl, pc, we, he, li) := by
  unfold wpX_orderBlocks
  dsimp only
  exact xa_ fun ah' hA => xl_ (xo_l hE hA (h1 ah') (h0 ah'))
/-! the loop of a block -/
theorem xg_ {post : Int32 → Prop} {j : Nat} (hj : j < 6) (h : post (lo_b E j 6)) : wpX_beginningsOfBackEdges post (co, bo, E, ah, bl, pc, we, he, li) (nI j) := by
  refine loop_0 (fun n i s => wX_beginningsOfBackEdges_4 post (nI j) co bo E ah bl pc we he li n s (nI i)) (fun i s => s = lo_b E j i) 6 0 rfl ?_ ?_
  · intro n s hs
    exact br_t le_6 (by rw [hs]; exact h)
  · intro n i s hi hs k
    refine br_f (ge_6 hi) ⟨in_6 hi, xd_ hi fun y ey => ?_⟩
    subst ey
    rw [cl_n (by omega)]
    refine xh_ _ hj (fun hb => br_f no_1 fun y ey z ez => ?_) (fun hb => br_t rfl fun z ez => ?_)
    · subst ez; subst ey
      rw [nI_1]
      exact k _ (by rw [hs]; exact (if_pos hb).symm)
    · subst ez
      rw [nI_1]
      exact k _ (by rw [hs]; exact (if_neg (by rw [hb]; decide)).symm)
theorem xp_i {post : Int32 → Prop} {J : Int32 → Int32 → Prop} {x1 o x4 r : Int32} (h : J (lo_i E o 6 r) (x4 + 1)) : ∃ n, wX_loop_45 post J x1 o x4 co bo E ah bl pc we he li n r 0 := by
  refine loop_0 (fun n i s => wX_loop_45 post J x1 o x4 co bo E ah bl pc we he li n s (nI i)) (fun i s => s = lo_i E o i r) 6 r rfl ?_ ?_
  · intro n s hs
    exact br_t le_6 (fun y ey => by rw [ey, hs]; exact h)
  · intro n i s hi hs k
    refine br_f (ge_6 hi) (xh_ o hi (fun hb => br_f no_1 ⟨in_6 hi, ?_⟩) (fun hb => br_t rfl fun z ez => ?_))
    · rw [cl_n (by omega)]
      refine br_c (fun c z ez => ?_) (fun c y ey z ez => ?_)
      · subst ez
        rw [nI_1]
        exact k _ (by rw [hs] at c ⊢; exact (if_neg (fun q => q.2 c)).symm)
      · subst ez; subst ey
        rw [nI_1]
        exact k _ (by rw [hs] at c ⊢; exact (if_pos ⟨hb, c⟩).symm)
    · subst ez
      rw [nI_1]
      exact k _ (by rw [hs]; exact (if_neg (fun q => by rw [hb] at q; exact absurd q.1 (by decide))).symm)
theorem xp_o {post : Int32 → Prop} {x1 o r : Int32} (h : post (lo_o E o r 6 ||| ((1 : Int32) <<< (x1 &&& 31)))) : ∃ n, wX_loop_35 post x1 o co bo E ah bl pc we he li n r 0 :=
  loop_0 (fun n i s => wX_loop_35 post x1 o co bo E ah bl pc we he li n s (nI i)) (fun i s => s = lo_o E o r i) 6 r rfl
    (fun n s hs => br_t le_6 (by rw [hs]; exact h))
    (fun n i s hi hs k => br_f (ge_6 hi) (xp_i (by rw [nI_1]; exact k _ (by rw [hs]; rfl))))
theorem xp_ {post : Int32 → Prop} {j : Nat} (hj : j < 6) (h : post (lo_v E j)) : wpX_loop post (co, bo, E, ah, bl, pc, we, he, li) (nI j) := by
  unfold wpX_loop
  dsimp only
  refine xb_y hj (br_f no_1 (xg_ hj (br_c (fun c => ?_) (fun c => xl_ fun y ey => ?_))))
  · have e : lo_v E j = 0 := if_pos c
    rw [e] at h; exact h
  · subst ey
    refine xp_o ?_
    have e : lo_v E j = lo_o E (cl_r E 0 &&& (bq_i j ^^^ (-1))) (lo_b E j 6) 6 ||| bq_i j := if_neg c
    rw [e] at h; exact h
theorem xp_n {post : Int32 → Prop} {p : Int32} (hp : p < 0 ∨ nI 6 ≤ p) (h : post 0) : wpX_loop post (co, bo, E, ah, bl, pc, we, he, li) p := by
  unfold wpX_loop
  dsimp only
  exact xb_n hp (br_t rfl h)
end
