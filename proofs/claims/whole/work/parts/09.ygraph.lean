theorem ty_ {A B : Prop} (x : Int32) {b : Nat} (hb : b < 6) (f : bt x b = true → A) (g : bt x b = false → B) : (((x >>> (nI b &&& 31)) &&& 1) = 1 → A) ∧ (¬ ((x >>> (nI b &&& 31)) &&& 1) = 1 → B) :=
  ⟨fun z => f ((bq_h1 x (by omega)).mp z), fun z => g (bq_nt fun y => z ((bq_h1 x (by omega)).mpr y))⟩
theorem tz_ {A B : Prop} (x : Int32) {b : Nat} (hb : b < 6) (f : bt x b = false → A) (g : bt x b = true → B) : (((x >>> (nI b &&& 31)) &&& 1) = 0 → A) ∧ (¬ ((x >>> (nI b &&& 31)) &&& 1) = 0 → B) :=
  ⟨fun z => f ((bq_h0 x (by omega)).mp z), fun z => g (bq_nf fun y => z ((bq_h0 x (by omega)).mpr y))⟩
theorem dv_6 {i : Nat} (h : i < 100000) : nI i / (6 : Int32) = nI (i / 6) := pk_div (d := 6) (by omega) (by decide) (by decide)
theorem rm_6 {i : Nat} (h : i < 100000) : nI i - nI i / (6 : Int32) * 6 = nI (i % 6) := pk_rem (d := 6) (by omega) (by decide) (by decide)
theorem no_6 : ¬ (6 : Int32) = 0 := by decide
theorem df_p {E : Nat → Int32} {i j : Nat} (h : dq_D E i j) : dq_f E j (i + 1) = dq_f E j i ||| bq_i i := if_pos (dq_c.mpr h)
theorem df_n {E : Nat → Int32} {i j : Nat} (h : ¬ dq_D E i j) : dq_f E j (i + 1) = dq_f E j i := if_neg (fun z => h (dq_c.mp z))
section
variable {pr mo E ov wg be : Nat → Int32}
theorem yb_y {post : Int32 → Prop} {j : Nat} (hj : j < 6) (h : post 1) : wpY_block post (pr, mo, E, ov, wg, be) (nI j) :=
  br_f (nI_pos (by omega)) (br_f (ge_6 hj) h)
theorem yb_n {post : Int32 → Prop} {p : Int32} (hp : p < 0 ∨ nI 6 ≤ p) (h : post 0) : wpY_block post (pr, mo, E, ov, wg, be) p := by
  by_cases c : p < 0
  · exact br_t c h
  · exact br_f c (br_t (hp.elim (fun z => absurd z c) id) h)
theorem yr_i {post : Int32 → Prop} {J : Int32 → Int32 → Prop} {m x4 r : Int32} (h : J (cl_i E m 6 r) (x4 + 1)) : ∃ n, wY_reached_19 post J m x4 pr mo E ov wg be n r 0 := by
  refine loop_0 (fun n i s => wY_reached_19 post J m x4 pr mo E ov wg be n s (nI i)) (fun i s => s = cl_i E m i r) 6 r rfl ?_ ?_
  · intro n s hs
    exact br_t le_6 (fun y ey => by rw [ey, hs]; exact h)
  · intro n i s hi hs k
    refine br_f (ge_6 hi) (ty_ s hi (fun hb => ⟨in_6 hi, fun y ey z ez => ?_⟩) (fun hb z ez => ?_))
    · subst ez; subst ey
      rw [nI_1, cl_n (by omega)]
      exact k _ (by rw [hs] at hb ⊢; exact (if_pos hb).symm)
    · subst ez
      rw [nI_1]
      exact k _ (by rw [hs] at hb ⊢; exact (if_neg (by rw [hb]; decide)).symm)
theorem yr_o {post : Int32 → Prop} {m r : Int32} (h : post (cl_o E m r 6)) : ∃ n, wY_reached_9 post m pr mo E ov wg be n r 0 :=
  loop_0 (fun n i s => wY_reached_9 post m pr mo E ov wg be n s (nI i)) (fun i s => s = cl_o E m r i) 6 r rfl
    (fun n s hs => br_t le_6 (by rw [hs]; exact h))
    (fun n i s hi hs k => br_f (ge_6 hi) (yr_i (by rw [nI_1]; exact k _ (by rw [hs]; rfl))))
theorem yr_ {post : Int32 → Prop} {m : Int32} (h : post (cl_r E m)) : wpY_reached post (pr, mo, E, ov, wg, be) 1 m := by
  intro y ey
  rw [ey]
  exact yr_o h
theorem yl_ {post : Int32 → Prop} (h : post (cl_r E 0)) : wpY_live post (pr, mo, E, ov, wg, be) := by
  unfold wpY_live
  dsimp only
  exact yr_ h
theorem yd_l {post : Int32 → Prop} (hE : cl_G E) {j : Nat} (hj : j < 6) (h : post (dq_M E j)) : ∃ n, wY_dominators_10 post (nI j) (cl_r E 0) pr mo E ov wg be n 0 0 := by
  refine loop_0 (fun n i s => wY_dominators_10 post (nI j) (cl_r E 0) pr mo E ov wg be n s (nI i)) (fun i s => s = dq_f E j i) 6 0 rfl ?_ ?_
  · intro n s hs
    exact br_t le_6 (by rw [hs]; exact h)
  · intro n i s hi hs k
    have no : ¬ dq_D E i j → wY_dominators_64 post (wY_dominators_10 post (nI j) (cl_r E 0) pr mo E ov wg be n) (nI j) (cl_r E 0) s (nI i) pr mo E ov wg be := by
      intro hn
      refine br_t rfl fun z ez => ?_
      subst ez
      rw [nI_1]
      exact k _ (by rw [hs, df_n hn])
    refine br_f (ge_6 hi) (yb_y hj (br_f no_1 (ty_ _ hj (fun c1 => ty_ _ hi (fun c2 => yr_ (m := bq_i i) (tz_ _ hj (fun c3 => ?_) (fun c3 => no ?_))) (fun c2 => no ?_)) (fun c1 => no ?_))))
    · refine br_f no_1 fun y ey z ez => ?_
      subst ez; subst ey
      rw [nI_1]
      exact k _ (by rw [hs, df_p ⟨c1, c3⟩]; rfl)
    · intro D; rw [D.2] at c3; exact absurd c3 (by decide)
    · intro D
      have := dq_DL hE hi D
      unfold dq_L at this
      rw [c2] at this; exact absurd this (by decide)
    · intro D; rw [D.1] at c1; exact absurd c1 (by decide)
theorem yd_ {post : Int32 → Prop} (hE : cl_G E) {j : Nat} (hj : j < 6) (h : post (dq_M E j)) : wpY_dominators post (pr, mo, E, ov, wg, be) (nI j) := by
  unfold wpY_dominators
  dsimp only
  exact yl_ (yd_l hE hj h)
theorem yd_n {post : Int32 → Prop} {p : Int32} (hp : p < 0 ∨ nI 6 ≤ p) (h : post 0) : wpY_dominators post (pr, mo, E, ov, wg, be) p := by
  unfold wpY_dominators
  dsimp only
  exact yl_ ⟨1, br_f (ge_6 (i := 0) (by omega)) (yb_n hp (br_t rfl h))⟩
theorem yo_ {post : SY → Prop} (hE : cl_G E) (h : ∀ ov' : Nat → Int32, (∀ u, u < 6 → ov' u = dq_M E u) → post (pr, mo, E, ov', wg, be)) : wpY_findOver post (pr, mo, E, ov, wg, be) := by
  refine loop_0 (fun n i s => wY_findOver_2 post n (nI i) pr mo E s wg be) (fun i s => ∀ u, u < i → s u = dq_M E u) 6 ov (fun a ha => absurd ha (by omega)) ?_ ?_
  · intro n s hs
    exact br_t le_6 (h s hs)
  · intro n i s hi hs k
    refine br_f (ge_6 hi) (yd_ hE hi ⟨in_6 hi, fun y ey z ez => ?_⟩)
    subst ez; subst ey
    rw [nI_1, cl_n (by omega)]
    refine k _ (fun a ha => ?_)
    by_cases e : a = i
    · subst e; exact pk_us
    · rw [pk_un e]; exact hs a (by omega)
theorem ye_ {post : Int32 → Prop} {a b : Nat} (ha : a < 6) (hb : b < 6) (h1 : (bt (E a) b = true ∧ ¬ ov a = 0) → post 1) (h0 : ¬ (bt (E a) b = true ∧ ¬ ov a = 0) → post 0) : wpY_edge post (pr, mo, E, ov, wg, be) (nI a) (nI b) := by
  unfold wpY_edge
  dsimp only
  rw [cl_n (by omega)]
  exact ⟨in_6 ha, ty_ _ hb (fun c => ⟨in_6 ha, br_c (fun z => h0 fun q => q.2 z) (fun z => h1 ⟨c, z⟩)⟩) (fun c => h0 fun q => by rw [q.1] at c; exact absurd c (by decide))⟩
theorem yk_ {post : Int32 → Prop} {a b : Nat} (ha : a < 6) (hb : b < 6) (h1 : ((bt (E a) b = true ∧ ¬ ov a = 0) ∧ bt (ov a) b = true) → post 1) (h0 : ¬ ((bt (E a) b = true ∧ ¬ ov a = 0) ∧ bt (ov a) b = true) → post 0) : wpY_backEdge post (pr, mo, E, ov, wg, be) (nI a) (nI b) := by
  unfold wpY_backEdge
  dsimp only
  rw [cl_n (by omega)]
  exact ye_ ha hb (fun c => br_f no_1 ⟨in_6 ha, ty_ _ hb (fun d => h1 ⟨c, d⟩) (fun d => h0 fun q => by rw [q.2] at d; exact absurd d (by decide))⟩) (fun c => br_t rfl (h0 fun q => c q.1))
theorem yw_ {post : Int32 → Prop} (hO : ∀ u, u < 6 → ov u = dq_M E u) {s : Int32} (h : post (rg_o E s 36)) : wpY_onward post (pr, mo, E, ov, wg, be) s := by
  refine loop_0 (fun n i t => wY_onward_4 post s pr mo E ov wg be n t (nI i)) (fun i t => t = rg_o E s i) 36 0 rfl ?_ ?_
  · intro n t ht
    exact br_t (nI_le (a := 36) (b := 36) (by omega) (by decide)) (by rw [ht]; exact h)
  · intro n i t hi ht k
    have no : ¬ rg_c E s i → wY_onward_56 post (wY_onward_4 post s pr mo E ov wg be n) s t (nI i) pr mo E ov wg be := by
      intro hn
      refine br_t rfl fun z ez => ?_
      subst ez
      rw [nI_1]
      exact k _ (by rw [ht]; exact (if_neg hn).symm)
    have h6 : i / 6 < 6 := by omega
    have h7 : i % 6 < 6 := by omega
    refine br_f (nI_ge (b := 36) hi (by decide)) ⟨no_6, ?_⟩
    rw [rm_6 (by omega), dv_6 (by omega)]
    refine ty_ _ h6 (fun c1 => ⟨no_6, no_6, ye_ h6 h7 (fun c2 => br_f no_1 ⟨no_6, no_6, yk_ h6 h7 (fun c3 => br_f no_1 (no ?_)) (fun c3 => br_t rfl ?_)⟩) (fun c2 => br_t rfl (no ?_))⟩) (fun c1 => no ?_)
    · intro q
      have c4 := c3.2
      rw [hO _ h6, q.2.2] at c4; exact absurd c4 (by decide)
    · refine br_f no_1 ⟨no_6, fun y ey z ez => ?_⟩
      subst ez; subst ey
      rw [nI_1, rm_6 (by omega)]
      refine k _ ?_
      have hc : rg_c E s i := ⟨c1, ⟨c2.1, by rw [← hO _ h6]; exact c2.2⟩, by rw [← hO _ h6]; exact bq_nt fun z => c3 ⟨c2, z⟩⟩
      rw [ht]; exact (if_pos hc).symm
    · intro q; exact c2 ⟨q.2.1.1, by rw [hO _ h6]; exact q.2.1.2⟩
    · intro q; rw [q.1] at c1; exact absurd c1 (by decide)
noncomputable def yg_b (E : Nat → Int32) (n : Nat) : Int32 := if rg_R E n = true then 1 else 0
theorem yg_i {post : Int32 → SY → Prop} {J : Int32 → Int32 → Prop} (hO : ∀ u, u < 6 → ov u = dq_M E u) {b : Nat} (hb : b < 6) (h : J (yg_b E (b + 1)) (nI b + 1)) : ∃ n, wY_regular_25 post J (yg_b E b) (nI b) pr mo E ov wg be n (rg_t E b 0) 0 := by
  refine loop_0 (fun n i t => wY_regular_25 post J (yg_b E b) (nI b) pr mo E ov wg be n t (nI i)) (fun i t => t = rg_t E b i) 6 (rg_t E b 0) rfl ?_ ?_
  · intro n t ht
    subst ht
    refine br_t le_6 ?_
    by_cases c : rg_R E b = true
    · have e1 : yg_b E b = 1 := if_pos c
      have e2 : yg_b E (b + 1) = 1 := if_pos (by show (rg_R E b || _) = true; rw [c]; rfl)
      rw [e1]
      rw [e2] at h
      exact br_f no_1 fun y ey => by rw [ey]; exact h
    · have e1 : yg_b E b = 0 := if_neg c
      rw [e1]
      refine br_t rfl (ty_ _ hb (fun d y ey => ?_) (fun d y ey => ?_))
      · have e2 : yg_b E (b + 1) = 1 := if_pos (by show (rg_R E b || bt (rg_t E b 6) b) = true; rw [d]; cases rg_R E b <;> rfl)
        rw [e2] at h; rw [ey]; exact h
      · have e2 : yg_b E (b + 1) = 0 := if_neg (by show ¬ (rg_R E b || bt (rg_t E b 6) b) = true; rw [d, bq_nt c]; decide)
        rw [e2] at h; rw [ey]; exact h
  · intro n i t hi ht k
    refine br_f (ge_6 hi) (yw_ hO fun y ey z ez => ?_)
    subst ez; subst ey
    rw [nI_1]
    exact k _ (by rw [ht]; rfl)
theorem yg_ {post : Int32 → SY → Prop} (hE : cl_G E) (h1 : ∀ ov' : Nat → Int32, (∀ u, u < 6 → ov' u = dq_M E u) → rg_R E 6 = false → post 1 (pr, mo, E, ov', wg, be)) (h0 : ∀ ov' : Nat → Int32, rg_R E 6 = true → post 0 (pr, mo, E, ov', wg, be)) : wpY_regular post (pr, mo, E, ov, wg, be) := by
  unfold wpY_regular
  dsimp only
  refine yo_ hE fun ov' hO => ?_
  refine loop_0 (fun n i s => wY_regular_8 post pr mo E ov' wg be n s (nI i)) (fun i s => s = yg_b E i) 6 0 rfl ?_ ?_
  · intro n s hs
    subst hs
    refine br_t le_6 ?_
    by_cases c : rg_R E 6 = true
    · exact br_f (by rw [show yg_b E 6 = 1 from if_pos c]; decide) (h0 ov' c)
    · exact br_t (if_neg c) (h1 ov' hO (bq_nt c))
  · intro n i s hi hs k
    subst hs
    exact br_f (ge_6 hi) (yw_ hO (yg_i hO hi (by rw [nI_1]; exact k _ rfl)))
/-! the loop of a block -/
theorem an_7 : ∀ j, j < 6 → nI j &&& 7 = nI j := by decide +kernel
theorem yp_i {post : Int32 → SY → Prop} {J : Int32 → Int32 → Prop} (hO : ∀ u, u < 6 → ov u = dq_M E u) {j : Nat} (hj : j < 6) {x3 r : Int32} (h : J (lr_i E j 6 r) (x3 + 1)) : ∃ n, wY_loop_62 post J (nI j) x3 pr mo E ov wg be n r 0 := by
  refine loop_0 (fun n i s => wY_loop_62 post J (nI j) x3 pr mo E ov wg be n s (nI i)) (fun i s => s = lr_i E j i r) 6 r rfl ?_ ?_
  · intro n s hs
    exact br_t le_6 (fun y ey => by rw [ey, hs]; exact h)
  · intro n i s hi hs k
    have no : ¬ (¬ dq_M E i = 0 ∧ i ≠ j ∧ ¬ ((E i &&& s) &&& (bq_i j ^^^ (-1))) = 0) → wY_loop_110 post J (wY_loop_62 post J (nI j) x3 pr mo E ov wg be n) (nI j) s x3 (nI i) pr mo E ov wg be := by
      intro hn
      refine br_t rfl fun z ez => ?_
      subst ez
      rw [nI_1]
      exact k _ (by rw [hs] at hn ⊢; exact (if_neg hn).symm)
    refine br_f (ge_6 hi) ⟨in_6 hi, ?_⟩
    rw [cl_n (by omega), an_7 j hj, hO i hi]
    refine br_c (fun c => no fun q => q.1 c) (fun c1 => br_c (fun c => no fun q => q.2.1 ?_) (fun c2 => ⟨in_6 hi, br_c (fun c => no fun q => q.2.2 c) (fun c3 => ?_)⟩))
    · exact (nI_eq (by omega) (by omega)).mp c
    · refine br_f no_1 fun y ey z ez => ?_
      subst ez; subst ey
      rw [nI_1]
      have hc : ¬ dq_M E i = 0 ∧ i ≠ j ∧ ¬ ((E i &&& s) &&& (bq_i j ^^^ (-1))) = 0 := ⟨c1, fun e => c2 (by rw [e]), c3⟩
      exact k _ (by rw [hs] at hc ⊢; exact (if_pos hc).symm)
theorem yp_o {post : Int32 → SY → Prop} (hO : ∀ u, u < 6 → ov u = dq_M E u) {j : Nat} (hj : j < 6) {r : Int32} (h : post (lr_o E j r 6) (pr, mo, E, ov, wg, be)) : ∃ n, wY_loop_53 post (nI j) pr mo E ov wg be n r 0 :=
  loop_0 (fun n i s => wY_loop_53 post (nI j) pr mo E ov wg be n s (nI i)) (fun i s => s = lr_o E j r i) 6 r rfl
    (fun n s hs => br_t le_6 (by rw [hs]; exact h))
    (fun n i s hi hs k => br_f (ge_6 hi) (yp_i hO hj (by rw [nI_1]; exact k _ (by rw [hs]; rfl))))
theorem yp_ {post : Int32 → SY → Prop} (hE : cl_G E) {j : Nat} (hj : j < 6) (h : ∀ ov', post (lo_v E j) (pr, mo, E, ov', wg, be)) : wpY_loop post (pr, mo, E, ov, wg, be) (nI j) := by
  unfold wpY_loop
  dsimp only
  refine yo_ hE fun ov' hO => ?_
  refine loop_0 (fun n i s => wY_loop_8 post (nI j) pr mo E ov' wg be n s (nI i)) (fun i s => s = lr_b E j i) 6 0 rfl ?_ ?_
  · intro n s hs
    exact br_t le_6 (yp_o hO hj (by rw [hs, lo_eq hE hj]; exact h ov'))
  · intro n i s hi hs k
    refine br_f (ge_6 hi) (yb_y hj (br_f no_1 (yk_ hi hj (fun c => br_f no_1 fun y ey z ez => ?_) (fun c => br_t rfl fun z ez => ?_))))
    · subst ez; subst ey
      rw [nI_1]
      rw [hO i hi] at c
      exact k _ (by rw [hs]; exact (if_pos c).symm)
    · subst ez
      rw [nI_1]
      rw [hO i hi] at c
      exact k _ (by rw [hs]; exact (if_neg c).symm)
theorem yq_z (x y : Int32) : (x &&& 0) &&& y = 0 := b_ext fun i _ => by rw [b_and, b_and, b_0]; cases bt x i <;> cases bt y i <;> rfl
theorem yq_i {post : Int32 → SY → Prop} {J : Int32 → Int32 → Prop} {p x3 : Int32} (h : J 0 (x3 + 1)) : ∃ n, wY_loop_62 post J p x3 pr mo E ov wg be n 0 0 := by
  refine loop_0 (fun n i s => wY_loop_62 post J p x3 pr mo E ov wg be n s (nI i)) (fun i s => s = 0) 6 0 rfl ?_ ?_
  · intro n s hs
    exact br_t le_6 (fun y ey => by rw [ey, hs]; exact h)
  · intro n i s hi hs k
    subst hs
    have no : wY_loop_110 post J (wY_loop_62 post J p x3 pr mo E ov wg be n) p 0 x3 (nI i) pr mo E ov wg be := by
      refine br_t rfl fun z ez => ?_
      subst ez
      rw [nI_1]
      exact k _ rfl
    exact br_f (ge_6 hi) ⟨in_6 hi, br_c (fun _ => no) (fun _ => br_c (fun _ => no) (fun _ => ⟨in_6 hi, br_t (yq_z _ _) no⟩))⟩
theorem yq_o {post : Int32 → SY → Prop} {p : Int32} (h : post 0 (pr, mo, E, ov, wg, be)) : ∃ n, wY_loop_53 post p pr mo E ov wg be n 0 0 :=
  loop_0 (fun n i s => wY_loop_53 post p pr mo E ov wg be n s (nI i)) (fun i s => s = 0) 6 0 rfl
    (fun n s hs => br_t le_6 (by rw [hs]; exact h))
    (fun n i s hi hs k => br_f (ge_6 hi) (by rw [hs]; exact yq_i (by rw [nI_1]; exact k _ rfl)))
theorem yp_n {post : Int32 → SY → Prop} (hE : cl_G E) {p : Int32} (hp : p < 0 ∨ nI 6 ≤ p) (h : ∀ ov', post 0 (pr, mo, E, ov', wg, be)) : wpY_loop post (pr, mo, E, ov, wg, be) p := by
  unfold wpY_loop
  dsimp only
  exact yo_ hE fun ov' hO => ⟨1, br_f (ge_6 (i := 0) (by omega)) (yb_n hp (br_t rfl (yq_o (h ov'))))⟩
end
