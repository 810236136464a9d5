theorem sh_5 : ∀ p, p < 6 → (5 - nI p) * 2 = nI (2 * (5 - p)) := by decide +kernel
theorem sh_p : ∀ p, p < 6 → 2 ^ (2 * (5 - p)) = wk_p p := by decide +kernel
theorem sh_r {x p : Nat} (hx : x < 4096) (hp : p < 6) : nI x >>> (((5 - nI p) * 2) &&& 31) = nI (x / wk_p p) := by
  rw [sh_5 p hp, pk_shrN (by omega) _ (2 * (5 - p)) (s_l _ (by omega)), sh_p p hp]
theorem sh_3 {y : Nat} (hy : y < 4096) : nI y &&& 3 = nI (y % 4) := pk_andN (by omega) 2 (by decide)
theorem wk_pp {p : Nat} (hp : p < 6) : 1 ≤ wk_p p ∧ wk_p p ≤ 1024 := by
  rcases wk_6 hp with rfl | rfl | rfl | rfl | rfl | rfl <;> decide
theorem sh_d {x p : Nat} (hx : x < 4096) (hp : p < 6) : (nI x >>> (((5 - nI p) * 2) &&& 31)) &&& 3 = nI (wk_d x p) := by
  rw [sh_r hx hp, sh_3 (Nat.lt_of_le_of_lt (Nat.div_le_self _ _) hx)]; rfl
theorem sh_l {x p : Nat} (hx : x < 4096) (hp : p < 6) : (nI (x / wk_p p) + 1) <<< (((5 - nI p) * 2) &&& 31) = nI (wk_n x p) := by
  have h1 := wk_pp hp
  have h2 : (x / wk_p p + 1) * wk_p p ≤ 4096 + 1024 := by
    have := Nat.div_mul_le_self x (wk_p p)
    rw [Nat.add_mul]; omega
  rw [nI_1, sh_5 p hp, pk_shlN _ (2 * (5 - p)) (s_l _ (by omega)) (by rw [sh_p p hp]; omega), sh_p p hp]; rfl
def wk_y (x : Nat) : Nat → Nat
  | 0 => 0
  | p + 1 => if wk_d x (p + 1) ≠ 0 then p + 1 else wk_y x p
theorem wk_zy (x : Nat) : wk_y x 5 = wk_z x := rfl
theorem mm_le {m : Nat} (h : m < 1073741824) : ¬ nI m ≤ -1 := by
  intro z
  rw [Int32.le_iff_toInt_le, nI_toInt (by omega), show (-1 : Int32).toInt = -1 from by decide] at z
  omega
theorem le_mm {m : Nat} (h : m < 1073741824) : (-1 : Int32) ≤ nI m := by
  rw [Int32.le_iff_toInt_le, nI_toInt (by omega), show (-1 : Int32).toInt = -1 from by decide]
  omega
theorem le_b {a b : Nat} (ha : a < 1073741824) (hb : b < 1073741824) : nI a ≤ nI b ↔ a ≤ b := nI_leI (by omega) (by omega)
theorem fl_Vv {g : Bool} {Q : Nat → Prop} {B : Nat → Int32} {i : Nat} {v : Int32} (V : fl_V g Q B i v) : v = -1 ∨ ∃ m, m < 1073741824 ∧ v = nI m := by
  rcases V with ⟨e, _⟩ | ⟨s, m, h1, h2, h3, h4, h5, h6⟩
  · exact Or.inl e
  · exact Or.inr ⟨m, h3, h5⟩
theorem fl_Sv {St : Nat → Nat → Nat → Prop} {wt : Nat → Nat} {s0 N : Nat} (hB : fl_B St wt s0 N) {B : Nat → Int32} (S : fl_S St wt s0 N B) {s : Nat} (hs : s < N) : B s = -1 ∨ ∃ m, m < 1073741824 ∧ B s = nI m := by
  by_cases c : B s = -1
  · exact Or.inl c
  · obtain ⟨n, w, _, e, h⟩ := fl_v hB S hs c
    exact Or.inr ⟨w, by omega, e⟩
section
variable {co bo E ah bl pc we he li : Nat → Int32} {bd wt pl : Nat → Nat}
theorem xz_l {post : Int32 → Prop} {x : Nat} (hx : x < 4096) : ∀ p, p < 6 → post (bl (wk_y x p)) → wX_blockOf_2 post (nI x) co bo E ah bl pc we he li (p + 1) (nI p) := by
  intro p
  induction p with
  | zero => intro _ h; exact br_t (by decide) h
  | succ p ih =>
    intro hp h
    refine br_f (nI_nle (by omega) (by omega)) ?_
    unfold wpX_shiftOf
    dsimp only
    rw [sh_d hx hp, cl_n (by omega)]
    refine br_c (fun c z ez => ?_) (fun c => ⟨in_6 hp, ?_⟩)
    · subst ez
      rw [pk_m1]
      refine ih (by omega) ?_
      have h0 : wk_d x (p + 1) = 0 := by
        have : wk_d x (p + 1) < 4 := Nat.mod_lt _ (by decide)
        exact (nI_eq (b := 0) (by omega) (by omega)).mp c
      have e : wk_y x (p + 1) = wk_y x p := if_neg (fun z => z h0)
      rw [e] at h; exact h
    · have e : wk_y x (p + 1) = p + 1 := if_pos (fun z => c (by rw [z]; rfl))
      rw [e] at h; exact h
theorem xz_ {post : Int32 → Prop} {x : Nat} (hx : x < 4096) (h : post (bl (wk_z x))) : wpX_blockOf post (co, bo, E, ah, bl, pc, we, he, li) (nI x) := ⟨6, xz_l hx 5 (by omega) h⟩
theorem xv_ {post : Int32 → Prop} {x b p d : Nat} (hx : x < 4096) (hb : b < 6) (hp : p < 6) (hpc : pc b = nI p) (hd : d < 100) (hbo : bo b = nI d)
    (h1 : wk_d x p + 1 ≤ d → post (nI (wk_n x p))) (h0 : ¬ wk_d x p + 1 ≤ d → post (-1)) : wpX_stateAfterVisit post (co, bo, E, ah, bl, pc, we, he, li) (nI x) (nI b) := by
  unfold wpX_stateAfterVisit
  dsimp only
  rw [cl_n (by omega), hpc, hbo]
  refine ⟨in_6 hb, ?_⟩
  unfold wpX_shiftOf
  dsimp only
  intro y ey
  have h4 : wk_d x p < 4 := Nat.mod_lt _ (by decide)
  rw [sh_d hx hp, nI_1] at ey
  rw [sh_r hx hp, sh_l hx hp]
  subst ey
  exact ⟨in_6 hb, pk_le _ _ h1 (fun z => h0 (by omega))⟩
theorem xn_17 {post : SX → Prop} {x : Nat} (hx : x < 4096) {b : Int32}
    (h1 : (li x = -1 ∨ ¬ li x ≤ b) → post (co, bo, E, ah, bl, pc, we, he, upd li x b)) (h2 : ¬ li x = -1 → li x ≤ b → post (co, bo, E, ah, bl, pc, we, he, li)) : wX_noteWeights_17 post (nI x) b co bo E ah bl pc we he li := by
  unfold wX_noteWeights_17
  rw [cl_n (by omega)]
  have hv : vp_in (nI x) 4096 := vp_in_nI hx (by decide)
  exact ⟨hv, br_c (fun c => ⟨hv, fun y ey => by rw [ey]; exact h1 (Or.inl c)⟩) (fun c => ⟨hv, br_c (fun d => h2 c d) (fun d => ⟨hv, fun y ey => by rw [ey]; exact h1 (Or.inr d)⟩)⟩)⟩
theorem xn_ {post : SX → Prop} {x : Nat} (hx : x < 4096) {a b : Int32}
    (h : ∀ he' li' : Nat → Int32, ((¬ a ≤ he x ∧ he' = upd he x a) ∨ (a ≤ he x ∧ he' = he)) → (((li x = -1 ∨ ¬ li x ≤ b) ∧ li' = upd li x b) ∨ (¬ li x = -1 ∧ li x ≤ b ∧ li' = li)) → post (co, bo, E, ah, bl, pc, we, he', li')) : wpX_noteWeights post (co, bo, E, ah, bl, pc, we, he, li) (nI x) a b := by
  unfold wpX_noteWeights
  dsimp only
  rw [cl_n (by omega)]
  have hv : vp_in (nI x) 4096 := vp_in_nI hx (by decide)
  refine ⟨hv, br_c (fun c => ?_) (fun c => ⟨hv, fun y ey => ?_⟩)⟩
  · exact xn_17 hx (fun d => h he _ (Or.inr ⟨c, rfl⟩) (Or.inl ⟨d, rfl⟩)) (fun d e => h he li (Or.inr ⟨c, rfl⟩) (Or.inr ⟨d, e, rfl⟩))
  · subst ey
    exact xn_17 hx (fun d => h _ _ (Or.inl ⟨c, rfl⟩) (Or.inl ⟨d, rfl⟩)) (fun d e => h _ li (Or.inl ⟨c, rfl⟩) (Or.inr ⟨d, e, rfl⟩))
/-- what the walk's loops rest on -/
def xW_ (E bo bl pc we : Nat → Int32) (bd wt pl : Nat → Nat) : Prop :=
  cl_G E ∧ wk_O E bl pl ∧ (∀ b, dq_L E b → pc b = nI (pl b)) ∧ (∀ b, b < 6 → bo b = nI (bd b)) ∧ (∀ b, b < 6 → 1 ≤ bd b ∧ bd b ≤ 3) ∧ (∀ b, b < 6 → we b = nI (wt b)) ∧ (∀ b, b < 6 → wt b ≤ 50)
theorem xW_B (H : xW_ E bo bl pc we bd wt pl) : fl_B (wk_X E bd bl pl) wt 1024 4096 := dx_B H.1 H.2.1 H.2.2.2.2.1 H.2.2.2.2.2.2
abbrev xs_S (E : Nat → Int32) (bd : Nat → Nat) (bl : Nat → Int32) (pl wt : Nat → Nat) (g : Bool) (i b : Nat) (B0 B : Nat → Int32) : Prop := sp_I (wk_X E bd bl pl) wt 1024 4096 g (fun s => s ≤ i) i b B0 B
/-- both arrays, in a step from state i -/
def xs_I (E : Nat → Int32) (bd : Nat → Nat) (bl : Nat → Int32) (pl wt : Nat → Nat) (i b : Nat) (H0 G0 H G : Nat → Int32) : Prop :=
  xs_S E bd bl pl wt true i b H0 H ∧ xs_S E bd bl pl wt false i b G0 G ∧ ∀ x, x < 4096 → (H x = -1 ↔ G x = -1)
theorem xs_h (W : xW_ E bo bl pc we bd wt pl) {i b x' n m : Nat} {B0 B B' : Nat → Int32} (I : xs_S E bd bl pl wt true i b B0 B) (hy : wk_X E bd bl pl i b x') (hx : i < x') (hx4 : x' < 4096) (hw : gw_ (wk_X E bd bl pl) wt 1024 n i m) (hm : B0 i = nI m)
    (hc : (¬ nI (m + wt b) ≤ B x' ∧ B' = upd B x' (nI (m + wt b))) ∨ (nI (m + wt b) ≤ B x' ∧ B' = B)) : xs_S E bd bl pl wt true i (b + 1) B0 B' := by
  have hB := xW_B W
  have hm0 : m + wt b < 1073741824 := by
    have := (hB.1 _ _ _ hw).2.2
    have := hB.2.2 b hy.1
    omega
  rcases hc with ⟨c, rfl⟩ | ⟨c, rfl⟩
  · refine sp_s hB (fun _ _ _ _ => dx_d) I hy (by omega) hw hm ?_
    rcases fl_Sv hB I.1 hx4 with e | ⟨m', hm', e⟩
    · exact Or.inl e
    · refine Or.inr ⟨m', hm', e, fun _ => ?_, fun z => absurd z (by decide)⟩
      rw [e, le_b hm0 hm'] at c; omega
  · refine sp_k hB (fun _ _ _ _ => dx_d) I hy hw hm ?_
    rcases fl_Sv hB I.1 hx4 with e | ⟨m', hm', e⟩
    · rw [e] at c; exact absurd c (mm_le hm0)
    · refine ⟨m', hm', e, fun _ => ?_, fun z => absurd z (by decide)⟩
      rw [e, le_b hm0 hm'] at c; exact c
theorem xs_g (W : xW_ E bo bl pc we bd wt pl) {i b x' n m : Nat} {B0 B B' : Nat → Int32} (I : xs_S E bd bl pl wt false i b B0 B) (hy : wk_X E bd bl pl i b x') (hx : i < x') (hx4 : x' < 4096) (hw : gw_ (wk_X E bd bl pl) wt 1024 n i m) (hm : B0 i = nI m)
    (hc : ((B x' = -1 ∨ ¬ B x' ≤ nI (m + wt b)) ∧ B' = upd B x' (nI (m + wt b))) ∨ (¬ B x' = -1 ∧ B x' ≤ nI (m + wt b) ∧ B' = B)) : xs_S E bd bl pl wt false i (b + 1) B0 B' := by
  have hB := xW_B W
  have hm0 : m + wt b < 1073741824 := by
    have := (hB.1 _ _ _ hw).2.2
    have := hB.2.2 b hy.1
    omega
  rcases hc with ⟨c, rfl⟩ | ⟨c0, c, rfl⟩
  · refine sp_s hB (fun _ _ _ _ => dx_d) I hy (by omega) hw hm ?_
    rcases fl_Sv hB I.1 hx4 with e | ⟨m', hm', e⟩
    · exact Or.inl e
    · refine Or.inr ⟨m', hm', e, fun z => absurd z (by decide), fun _ => ?_⟩
      rcases c with c | c
      · exact absurd (e.symm.trans c) (nn_1 hm')
      · rw [e, le_b hm' hm0] at c; omega
  · refine sp_k hB (fun _ _ _ _ => dx_d) I hy hw hm ?_
    rcases fl_Sv hB I.1 hx4 with e | ⟨m', hm', e⟩
    · exact absurd e c0
    · refine ⟨m', hm', e, fun z => absurd z (by decide), fun _ => ?_⟩
      rw [e, le_b hm' hm0] at c; exact c
theorem xs_e {H G H' G' : Nat → Int32} {x' a b : Nat} (ha : a < 1073741824) (hb : b < 1073741824) (h : ∀ x, x < 4096 → (H x = -1 ↔ G x = -1)) (hx4 : x' < 4096)
    (hc : (¬ nI a ≤ H x' ∧ H' = upd H x' (nI a)) ∨ (nI a ≤ H x' ∧ H' = H))
    (hd : ((G x' = -1 ∨ ¬ G x' ≤ nI b) ∧ G' = upd G x' (nI b)) ∨ (¬ G x' = -1 ∧ G x' ≤ nI b ∧ G' = G)) : ∀ x, x < 4096 → (H' x = -1 ↔ G' x = -1) := by
  intro x hx
  by_cases e : x = x'
  · subst e
    have a1 : ¬ H' x = -1 := by
      rcases hc with ⟨_, rfl⟩ | ⟨c, rfl⟩
      · rw [pk_us]; exact nn_1 ha
      · intro z; rw [z] at c; exact mm_le ha c
    have a2 : ¬ G' x = -1 := by
      rcases hd with ⟨_, rfl⟩ | ⟨c, _, rfl⟩
      · rw [pk_us]; exact nn_1 hb
      · exact c
    exact ⟨fun z => absurd z a1, fun z => absurd z a2⟩
  · have e1 : H' x = H x := by
      rcases hc with ⟨_, rfl⟩ | ⟨_, rfl⟩
      · rw [pk_un e]
      · rfl
    have e2 : G' x = G x := by
      rcases hd with ⟨_, rfl⟩ | ⟨_, _, rfl⟩
      · rw [pk_un e]
      · rfl
    rw [e1, e2]; exact h x hx
theorem xs_ {post : SX → Prop} (W : xW_ E bo bl pc we bd wt pl) {i : Nat} (hi : i < 4096) (Sh : fl_S (wk_X E bd bl pl) wt 1024 4096 he) (Sl : fl_S (wk_X E bd bl pl) wt 1024 4096 li) (hs : ∀ x, x < 4096 → (he x = -1 ↔ li x = -1)) (hn : ¬ he i = -1)
    (h : ∀ he' li' : Nat → Int32, xs_I E bd bl pl wt i 6 he li he' li' → post (co, bo, E, ah, bl, pc, we, he', li')) : wpX_stepOnFrom post (co, bo, E, ah, bl, pc, we, he, li) (nI i) := by
  have hB := xW_B W
  obtain ⟨hE, O, hpc, hbo, hbd, hwe, hwt⟩ := W
  obtain ⟨n1, m, hw1, em, lm⟩ := fl_v hB Sh hi hn
  obtain ⟨n2, l, hw2, el, ll⟩ := fl_v hB Sl hi (fun z => hn ((hs i hi).mpr z))
  obtain ⟨s, hsY, J⟩ := wk_XY hE O hbd n1 i m hw1
  obtain ⟨eb, ek⟩ := wk_jk hE O J
  have ha : s % 6 < 6 := by omega
  have hL := J.2.2.2.1
  unfold wpX_stepOnFrom
  dsimp only
  refine xz_ hi ?_
  rw [eb]
  refine ⟨in_6 ha, fun y ey => ?_⟩
  rw [cl_n (by omega)] at ey
  subst ey
  refine loop_0 (fun n b (t : (Nat → Int32) × (Nat → Int32)) => wX_stepOnFrom_13 post (nI i) (E (s % 6)) n (nI b) co bo E ah bl pc we t.1 t.2) (fun b t => xs_I E bd bl pl wt i b he li t.1 t.2) 6 (he, li) ⟨sp_0 Sh, sp_0 Sl, hs⟩ ?_ ?_
  · rintro n ⟨H, G⟩ I
    exact br_t le_6 (h H G I)
  · rintro n b ⟨H, G⟩ hb I k
    have no : (∀ x', ¬ wk_X E bd bl pl i b x') → wX_stepOnFrom_37 post (wX_stepOnFrom_13 post (nI i) (E (s % 6)) n) (nI i) (E (s % 6)) (nI b) (-1) co bo E ah bl pc we H G := by
      intro hno
      refine br_t rfl fun z ez => ?_
      subst ez
      rw [nI_1]
      exact k (H, G) ⟨sp_n I.1 hno, sp_n I.2.1 hno, I.2.2⟩
    refine br_f (ge_6 hb) (xh_ _ hb (fun c => br_f no_1 ?_) (fun c => br_t rfl (no fun x' q => ?_)))
    · have hLb := dq_Lc hE hL c
      have hpl := (O.2.1 b hLb).1
      refine xv_ hi hb hpl (hpc b hLb) (by have := hbd b hb; omega) (hbo b hb) (fun d => ?_) (fun d => no fun x' q => d q.2.2.1)
      have hy : wk_X E bd bl pl i b (wk_n i (pl b)) := ⟨hb, by rw [ek]; exact c, d, rfl⟩
      have hw' : gw_ (wk_X E bd bl pl) wt 1024 (n1 + 1) (wk_n i (pl b)) (m + wt b) := ⟨i, m, b, hw1, hy, rfl⟩
      have hx4 := (hB.1 _ _ _ hw').1
      have hxi := wk_nx (x := i) hpl
      have hwb := hwt b hb
      have v1 : vp_in (nI i) 4096 := vp_in_nI hi (by decide)
      refine br_f (nn_1 (by omega)) ⟨v1, in_6 hb, v1, in_6 hb, ?_⟩
      rw [cl_n (by omega), cl_n (by omega), I.1.2.2.1 i (Nat.le_refl i), I.2.1.2.2.1 i (Nat.le_refl i), em, el, hwe b hb, nI_add, nI_add]
      refine xn_ hx4 fun he' li' hc hd z ez => ?_
      subst ez
      rw [nI_1]
      exact k (he', li') ⟨xs_h ⟨hE, O, hpc, hbo, hbd, hwe, hwt⟩ I.1 hy hxi hx4 hw1 em hc, xs_g ⟨hE, O, hpc, hbo, hbd, hwe, hwt⟩ I.2.1 hy hxi hx4 hw2 el hd, xs_e (by omega) (by omega) I.2.2 hx4 hc hd⟩
    · have q2 := q.2.1
      rw [ek, c] at q2; exact absurd q2 (by decide)
end
