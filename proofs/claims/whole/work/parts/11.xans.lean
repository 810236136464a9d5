theorem ge_4 {i : Nat} (h : i < 4096) : ¬ (4096 : Int32) ≤ nI i := nI_ge (b := 4096) h (by decide)
theorem le_4 : (4096 : Int32) ≤ nI 4096 := nI_le (a := 4096) (b := 4096) (by omega) (by decide)
theorem in_4 {i : Nat} (h : i < 4096) : vp_in (nI i) 4096 := vp_in_nI h (by decide)
section
variable {co bo E ah bl pc we he li : Nat → Int32} {bd wt pl : Nat → Nat}
def xw_I (E : Nat → Int32) (bd : Nat → Nat) (bl : Nat → Int32) (pl wt : Nat → Nat) (i : Nat) (H G : Nat → Int32) : Prop :=
  px_I (wk_X E bd bl pl) wt 1024 4096 true i H ∧ px_I (wk_X E bd bl pl) wt 1024 4096 false i G ∧ ∀ x, x < 4096 → (H x = -1 ↔ G x = -1)
theorem xw_2 {post : SX → Prop} (W : xW_ E bo bl pc we bd wt pl) (I0 : xw_I E bd bl pl wt 1024 he li)
    (h : ∀ he' li' : Nat → Int32, fl_A (wk_X E bd bl pl) wt 1024 4096 true he' → fl_A (wk_X E bd bl pl) wt 1024 4096 false li' → post (co, bo, E, ah, bl, pc, we, he', li')) : ∃ n, wX_weighWalks_61 post n 1024 co bo E ah bl pc we he li := by
  have hB := xW_B W
  refine pk_loop (fun n i (t : (Nat → Int32) × (Nat → Int32)) => wX_weighWalks_61 post n (nI i) co bo E ah bl pc we t.1 t.2) (fun i t => xw_I E bd bl pl wt i t.1 t.2) 4096 1024 (he, li) (by omega) I0 ?_ ?_
  · rintro n ⟨H, G⟩ I
    exact br_t le_4 (h H G (px_A hB I.1) (px_A hB I.2.1))
  · rintro n i ⟨H, G⟩ hi I k
    refine br_f (ge_4 hi) ⟨in_4 hi, ?_⟩
    rw [cl_n (by omega)]
    refine br_c (fun c z ez => ?_) (fun c => xs_ W hi I.1.1 I.2.1.1 I.2.2 c fun he' li' J z ez => ?_)
    · subst ez
      rw [nI_1]
      exact k (H, G) ⟨px_n I.1 c, px_n I.2.1 ((I.2.2 i hi).mp c), I.2.2⟩
    · subst ez
      rw [nI_1]
      exact k (he', li') ⟨px_s I.1 J.1, px_s I.2.1 J.2.1, J.2.2⟩
theorem xw_1 (W : xW_ E bo bl pc we bd wt pl) {g : Bool} {B : Nat → Int32} (h : ∀ x, x < 4096 → B x = -1) : px_I (wk_X E bd bl pl) wt 1024 4096 g 1024 (upd B 1024 (nI (wt 0))) := by
  obtain ⟨S, C⟩ := fl_b0 (g := g) (xW_B W) (B := upd B 1024 (nI (wt 0))) pk_us (fun s hs hn => by rw [pk_un hn]; exact h s hs)
  refine ⟨S, C, fun s hs b hb s' m hy hm e => ?_⟩
  rw [pk_un (by omega), h s (by omega)] at e
  exact absurd e.symm (nn_1 hm)
theorem xw_ {post : SX → Prop} (W : xW_ E bo bl pc we bd wt pl)
    (h : ∀ he' li' : Nat → Int32, fl_A (wk_X E bd bl pl) wt 1024 4096 true he' → fl_A (wk_X E bd bl pl) wt 1024 4096 false li' → post (co, bo, E, ah, bl, pc, we, he', li')) : wpX_weighWalks post (co, bo, E, ah, bl, pc, we, he, li) := by
  refine loop_0 (fun n i (t : (Nat → Int32) × (Nat → Int32)) => wX_weighWalks_2 post n (nI i) co bo E ah bl pc we t.1 t.2) (fun i t => ∀ x, x < i → t.1 x = -1 ∧ t.2 x = -1) 4096 (he, li) (fun x hx => absurd hx (by omega)) ?_ ?_
  · rintro n ⟨H, G⟩ I
    have I : ∀ x, x < 4096 → H x = -1 ∧ G x = -1 := I
    refine br_t le_4 fun y ey z ez => ?_
    have e0 := W.2.2.2.2.2.1 0 (by omega)
    rw [e0] at ey ez
    subst ez; subst ey
    refine xw_2 W ⟨xw_1 W (fun x hx => (I x hx).1), xw_1 W (fun x hx => (I x hx).2), fun x hx => ?_⟩ h
    by_cases e : x = 1024
    · subst e; rw [pk_us, pk_us]
    · rw [pk_un e, pk_un e]; exact ⟨fun _ => (I x hx).2, fun _ => (I x hx).1⟩
  · rintro n i ⟨H, G⟩ hi I k
    have I : ∀ x, x < i → H x = -1 ∧ G x = -1 := I
    refine br_f (ge_4 hi) ⟨in_4 hi, fun y ey => ⟨in_4 hi, fun y2 ey2 z ez => ?_⟩⟩
    subst ez; subst ey2; subst ey
    rw [nI_1, cl_n (by omega)]
    refine k (_, _) (fun x hx => ?_)
    show upd H i (-1) x = -1 ∧ upd G i (-1) x = -1
    by_cases e : x = i
    · subst e; exact ⟨pk_us, pk_us⟩
    · rw [pk_un e, pk_un e]; exact I x (by omega)
/-! the values -/
theorem xm_0 (W : xW_ E bo bl pc we bd wt pl) {g : Bool} {Q : Nat → Prop} {B : Nat → Int32} (A : fl_A (wk_X E bd bl pl) wt 1024 4096 g B) : fl_V g Q B 1024 (-1) := by
  refine Or.inl ⟨rfl, fun s hs _ => ?_⟩
  rcases A.1 s (by omega) with e | ⟨n, w, hw, e⟩
  · exact e
  · have := (wk_Xb W.1 W.2.1 W.2.2.2.2.1 W.2.2.2.2.2.2 hw).1
    omega
theorem xm_k {Q : Nat → Prop} {B : Nat → Int32} {i : Nat} {v : Int32} (hv : B i = -1 ∨ ∃ m, m < 1073741824 ∧ B i = nI m) (V : fl_V true Q B i v) (c : B i ≤ v) : fl_V true Q B (i + 1) v := by
  rcases hv with e | ⟨m, hm, e⟩
  · exact fl_Vn V (fun _ => e)
  · rcases fl_Vv V with e1 | ⟨m1, hm1, e1⟩
    · rw [e, e1] at c; exact absurd c (mm_le hm)
    · refine fl_Vk V hm1 e1 hm e ⟨fun _ => ?_, fun z => absurd z (by decide)⟩
      rw [e, e1, le_b hm hm1] at c; exact c
theorem xm_s {Q : Nat → Prop} {B : Nat → Int32} {i : Nat} {v : Int32} (hv : B i = -1 ∨ ∃ m, m < 1073741824 ∧ B i = nI m) (V : fl_V true Q B i v) (c : ¬ B i ≤ v) (hq : Q i) : fl_V true Q B (i + 1) (B i) := by
  rcases hv with e | ⟨m, hm, e⟩
  · exfalso
    apply c
    rw [e]
    rcases fl_Vv V with e1 | ⟨m1, hm1, e1⟩
    · rw [e1]; exact Int32.le_refl _
    · rw [e1]; exact le_mm hm1
  · rw [e] at c ⊢
    refine fl_Vs V hq hm e ?_
    rcases fl_Vv V with e1 | ⟨m1, hm1, e1⟩
    · exact Or.inl e1
    · refine Or.inr ⟨m1, hm1, e1, fun _ => ?_, fun z => absurd z (by decide)⟩
      rw [e1, le_b hm hm1] at c; omega
theorem xm_ {post : Int32 → Prop} (W : xW_ E bo bl pc we bd wt pl) (A : fl_A (wk_X E bd bl pl) wt 1024 4096 true he)
    (h : ∀ v, an_s true (fun w => ∃ n s, wk_XW E bd wt bl pl n s w ∧ True) v → post v) : wpX_heaviestOfAll post (co, bo, E, ah, bl, pc, we, he, li) := by
  have hB := xW_B W
  refine pk_loop (fun n i v => wX_heaviestOfAll_6 post co bo E ah bl pc we he li n v (nI i)) (fun i v => fl_V true (fun _ => True) he i v) 4096 1024 (-1) (by omega) (xm_0 W A) ?_ ?_
  · intro n v V
    exact br_t le_4 (h v (fl_an hB A V))
  · intro n i v hi V k
    have hv := fl_Sv hB A.1 hi
    refine br_f (ge_4 hi) ⟨in_4 hi, ?_⟩
    rw [cl_n (by omega)]
    refine br_c (fun c z ez => ?_) (fun c => ⟨in_4 hi, fun y ey z ez => ?_⟩)
    · subst ez
      rw [nI_1]
      exact k _ (xm_k hv V c)
    · subst ez; subst ey
      rw [nI_1]
      exact k _ (xm_s hv V c trivial)
theorem xe_ {post : Int32 → Prop} (W : xW_ E bo bl pc we bd wt pl) (A : fl_A (wk_X E bd bl pl) wt 1024 4096 true he) {p : Int32}
    (h : ∀ v, an_s true (fun w => ∃ n s, wk_XW E bd wt bl pl n s w ∧ bl (wk_z s) = p) v → post v) : wpX_heaviestEndingAt post (co, bo, E, ah, bl, pc, we, he, li) p := by
  have hB := xW_B W
  refine pk_loop (fun n i v => wX_heaviestEndingAt_6 post p co bo E ah bl pc we he li n v (nI i)) (fun i v => fl_V true (fun s => bl (wk_z s) = p) he i v) 4096 1024 (-1) (by omega) (xm_0 W A) ?_ ?_
  · intro n v V
    exact br_t le_4 (h v (fl_an hB A V))
  · intro n i v hi V k
    have hv := fl_Sv hB A.1 hi
    refine br_f (ge_4 hi) ⟨in_4 hi, ?_⟩
    rw [cl_n (by omega)]
    refine br_c (fun c z ez => ?_) (fun c => xz_ hi (br_c (fun d => ⟨in_4 hi, fun y ey z ez => ?_⟩) (fun d z ez => ?_)))
    · subst ez
      rw [nI_1]
      exact k _ (xm_k hv V c)
    · subst ez; subst ey
      rw [nI_1]
      exact k _ (xm_s hv V c d)
    · subst ez
      rw [nI_1]
      exact k _ (fl_Vn V (fun q => absurd q d))
theorem xq_ {post : Int32 → Prop} (W : xW_ E bo bl pc we bd wt pl) (A : fl_A (wk_X E bd bl pl) wt 1024 4096 false li) {p : Int32}
    (h : ∀ v, an_s false (fun w => ∃ n s, wk_XW E bd wt bl pl n s w ∧ bl (wk_z s) = p) v → post v) : wpX_lightestEndingAt post (co, bo, E, ah, bl, pc, we, he, li) p := by
  have hB := xW_B W
  refine pk_loop (fun n i v => wX_lightestEndingAt_6 post p co bo E ah bl pc we he li n v (nI i)) (fun i v => fl_V false (fun s => bl (wk_z s) = p) li i v) 4096 1024 (-1) (by omega) (xm_0 W A) ?_ ?_
  · intro n v V
    exact br_t le_4 (h v (fl_an hB A V))
  · intro n i v hi V k
    have hv := fl_Sv hB A.1 hi
    refine br_f (ge_4 hi) ⟨in_4 hi, ?_⟩
    rw [cl_n (by omega)]
    refine br_c (fun c z ez => ?_) (fun c => xz_ hi (br_c (fun d => br_c (fun f => ⟨in_4 hi, fun y ey z ez => ?_⟩) (fun f => ⟨in_4 hi, br_c (fun f2 z ez => ?_) (fun f2 => ⟨in_4 hi, fun y ey z ez => ?_⟩)⟩)) (fun d z ez => ?_)))
    · subst ez
      rw [nI_1]
      exact k _ (fl_Vn V (fun _ => c))
    · subst ez; subst ey
      rw [nI_1]
      rcases hv with e | ⟨m, hm, e⟩
      · exact absurd e c
      · refine k _ ?_
        rw [e]
        exact fl_Vs V d hm e (Or.inl f)
    · subst ez
      rw [nI_1]
      rcases hv with e | ⟨m, hm, e⟩
      · exact absurd e c
      · rcases fl_Vv V with e1 | ⟨m1, hm1, e1⟩
        · exact absurd e1 f
        · refine k _ (fl_Vk V hm1 e1 hm e ⟨fun z => absurd z (by decide), fun _ => ?_⟩)
          rw [e, e1, le_b hm1 hm] at f2; exact f2
    · subst ez; subst ey
      rw [nI_1]
      rcases hv with e | ⟨m, hm, e⟩
      · exact absurd e c
      · rcases fl_Vv V with e1 | ⟨m1, hm1, e1⟩
        · exact absurd e1 f
        · refine k _ ?_
          rw [e] at f2 ⊢
          refine fl_Vs V d hm e (Or.inr ⟨m1, hm1, e1, fun z => absurd z (by decide), fun _ => ?_⟩)
          rw [e1, le_b hm1 hm] at f2; omega
    · subst ez
      rw [nI_1]
      exact k _ (fl_Vn V (fun q => absurd q d))
/-! the weights -/
theorem xc_ {post : SX → Prop} (h : ∀ we' : Nat → Int32, (∀ b, b < 6 → we' b = co b) → post (co, bo, E, ah, bl, pc, we', he, li)) : wpX_weighByCost post (co, bo, E, ah, bl, pc, we, he, li) := by
  refine loop_0 (fun n i s => wX_weighByCost_2 post n (nI i) co bo E ah bl pc s he li) (fun i s => ∀ b, b < i → s b = co b) 6 we (fun a ha => absurd ha (by omega)) ?_ ?_
  · intro n s hs
    exact br_t le_6 (h s hs)
  · intro n i s hi hs k
    refine br_f (ge_6 hi) ⟨in_6 hi, in_6 hi, fun y ey z ez => ?_⟩
    subst ez; subst ey
    rw [nI_1, cl_n (by omega)]
    refine k _ (fun a ha => ?_)
    by_cases e : a = i
    · subst e; exact pk_us
    · rw [pk_un e]; exact hs a (by omega)
theorem xi_ {post : SX → Prop} {j : Nat} (hj : j < 6) (h : ∀ we' : Nat → Int32, (∀ b, b < 6 → we' b = if b = j then 1 else 0) → post (co, bo, E, ah, bl, pc, we', he, li)) : wpX_weighByVisitsOf post (co, bo, E, ah, bl, pc, we, he, li) (nI j) := by
  refine loop_0 (fun n i s => wX_weighByVisitsOf_2 post (nI j) n (nI i) co bo E ah bl pc s he li) (fun i s => ∀ b, b < i → s b = if b = j then 1 else 0) 6 we (fun a ha => absurd ha (by omega)) ?_ ?_
  · intro n s hs
    exact br_t le_6 (h s hs)
  · intro n i s hi hs k
    refine br_f (ge_6 hi) (pk_eq i j (fun c => ⟨in_6 hi, fun y ey z ez => ?_⟩) (fun c => ⟨in_6 hi, fun y ey z ez => ?_⟩))
    · subst ez; subst ey
      rw [nI_1, cl_n (by omega)]
      refine k _ (fun a ha => ?_)
      by_cases e : a = i
      · subst e; rw [pk_us, if_pos c]
      · rw [pk_un e]; exact hs a (by omega)
    · subst ez; subst ey
      rw [nI_1, cl_n (by omega)]
      refine k _ (fun a ha => ?_)
      by_cases e : a = i
      · subst e; rw [pk_us, if_neg c]
      · rw [pk_un e]; exact hs a (by omega)
end
