/-- where a step from state i over the blocks stands behind b of them; K: the states that stay as they are -/
def sp_I (St : Nat → Nat → Nat → Prop) (wt : Nat → Nat) (s0 N : Nat) (g : Bool) (K : Nat → Prop) (i b : Nat) (B0 B : Nat → Int32) : Prop :=
  fl_S St wt s0 N B ∧ fl_M g B0 B ∧ (∀ s, K s → B s = B0 s) ∧ (∀ b', b' < b → fl_E St wt s0 N g B0 B i b')
section
variable {St : Nat → Nat → Nat → Prop} {wt : Nat → Nat} {s0 N : Nat} {g : Bool} {K : Nat → Prop} {i b : Nat} {B0 B : Nat → Int32}
theorem sp_0 (S : fl_S St wt s0 N B0) : sp_I St wt s0 N g K i 0 B0 B0 := ⟨S, fl_Mr, fun _ _ => rfl, fun b' h => absurd h (by omega)⟩
theorem sp_n (I : sp_I St wt s0 N g K i b B0 B) (h : ∀ s', ¬ St i b s') : sp_I St wt s0 N g K i (b + 1) B0 B := by
  refine ⟨I.1, I.2.1, I.2.2.1, fun b' hb' => ?_⟩
  by_cases e : b' = b
  · subst e; exact fun s' m hy => absurd hy (h s')
  · exact I.2.2.2 b' (by omega)
/-- the visit's value is stored -/
theorem sp_s (hB : fl_B St wt s0 N) (hdet : ∀ s b s1 s2, St s b s1 → St s b s2 → s1 = s2) (I : sp_I St wt s0 N g K i b B0 B) {x' n m : Nat} (hy : St i b x') (hK : ¬ K x') (hw : gw_ St wt s0 n i m) (hm : B0 i = nI m)
    (hb : B x' = -1 ∨ ∃ m', m' < 1073741824 ∧ B x' = nI m' ∧ gd_ g m' (m + wt b)) : sp_I St wt s0 N g K i (b + 1) B0 (upd B x' (nI (m + wt b))) := by
  obtain ⟨S', M', m', hm', e', d'⟩ := fl_st hB I.1 hw hy hb
  have hm0 : m < 1073741824 := by have := (hB.1 _ _ _ hw).2.2; omega
  refine ⟨S', fl_Mt I.2.1 M', fun s hs => ?_, fun b' hb' => ?_⟩
  · have hne : s ≠ x' := fun z => hK (by rw [← z]; exact hs)
    rw [pk_un hne]; exact I.2.2.1 s hs
  · by_cases e : b' = b
    · subst e
      intro s' m1 hy1 hm1 e1
      have h1 := hdet _ _ _ _ hy1 hy
      subst h1
      rw [nn_e hm1 hm0 (e1.symm.trans hm)]
      exact ⟨m', hm', e', d'⟩
    · exact fl_EM (I.2.2.2 b' (by omega)) M'
/-- the visit's value is no better than what stands there -/
theorem sp_k (hB : fl_B St wt s0 N) (hdet : ∀ s b s1 s2, St s b s1 → St s b s2 → s1 = s2) (I : sp_I St wt s0 N g K i b B0 B) {x' n m : Nat} (hy : St i b x') (hw : gw_ St wt s0 n i m) (hm : B0 i = nI m)
    (hb : ∃ m', m' < 1073741824 ∧ B x' = nI m' ∧ gd_ g (m + wt b) m') : sp_I St wt s0 N g K i (b + 1) B0 B := by
  have hm0 : m < 1073741824 := by have := (hB.1 _ _ _ hw).2.2; omega
  refine ⟨I.1, I.2.1, I.2.2.1, fun b' hb' => ?_⟩
  by_cases e : b' = b
  · subst e
    intro s' m1 hy1 hm1 e1
    have h1 := hdet _ _ _ _ hy1 hy
    subst h1
    rw [nn_e hm1 hm0 (e1.symm.trans hm)]
    exact hb
  · exact I.2.2.2 b' (by omega)
/-! Y: a pass over all states -/
theorem py_0 (S : fl_S St wt s0 N B0) : fl_P St wt s0 N g B0 0 B0 := ⟨S, fl_Mr, fun s hs => absurd hs (by omega)⟩
theorem py_n (P : fl_P St wt s0 N g B0 i B) (h : B i = -1) : fl_P St wt s0 N g B0 (i + 1) B := by
  refine ⟨P.1, P.2.1, fun s hs b hb => ?_⟩
  by_cases e : s = i
  · subst e
    intro s' m hy hm e1
    obtain ⟨m1, h1, e2, _⟩ := P.2.1 s m hm e1
    exact absurd (e2.symm.trans h) (nn_1 h1)
  · exact P.2.2 s (by omega) b hb
theorem py_s {B' : Nat → Int32} (P : fl_P St wt s0 N g B0 i B) (I : sp_I St wt s0 N g K i 6 B B') : fl_P St wt s0 N g B0 (i + 1) B' := by
  refine ⟨I.1, fl_Mt P.2.1 I.2.1, fun s hs b hb => ?_⟩
  by_cases e : s = i
  · subst e
    exact fl_ME P.2.1 (I.2.2.2 b hb)
  · exact fl_EM (P.2.2 s (by omega) b hb) I.2.1
/-! X: one pass upward -/
def px_I (St : Nat → Nat → Nat → Prop) (wt : Nat → Nat) (s0 N : Nat) (g : Bool) (i : Nat) (B : Nat → Int32) : Prop :=
  fl_S St wt s0 N B ∧ fl_C St wt s0 N g 0 B ∧ ∀ s, s < i → ∀ b, b < 6 → fl_E St wt s0 N g B B s b
theorem px_n (P : px_I St wt s0 N g i B) (h : B i = -1) : px_I St wt s0 N g (i + 1) B := by
  refine ⟨P.1, P.2.1, fun s hs b hb => ?_⟩
  by_cases e : s = i
  · subst e
    intro s' m hy hm e1
    exact absurd (e1.symm.trans h) (nn_1 hm)
  · exact P.2.2 s (by omega) b hb
theorem px_s {B' : Nat → Int32} (P : px_I St wt s0 N g i B) (I : sp_I St wt s0 N g (fun s => s ≤ i) i 6 B B') : px_I St wt s0 N g (i + 1) B' := by
  refine ⟨I.1, ?_, fun s hs b hb => ?_⟩
  · intro n s w hn hw
    obtain ⟨m, hm, e, d⟩ := P.2.1 n s w hn hw
    obtain ⟨m', hm', e', d'⟩ := I.2.1 s m hm e
    exact ⟨m', hm', e', gd_t d d'⟩
  · have key : fl_E St wt s0 N g B B' s b := by
      by_cases e : s = i
      · subst e; exact I.2.2.2 b hb
      · exact fl_EM (P.2.2 s (by omega) b hb) I.2.1
    intro s' m hy hm e1
    rw [I.2.2.1 s (by show s ≤ i; omega)] at e1
    exact key s' m hy hm e1
theorem px_A (hB : fl_B St wt s0 N) (P : px_I St wt s0 N g N B) : fl_A St wt s0 N g B := ⟨P.1, fl_C2 hB P.2.1 ⟨P.1, fl_Mr, P.2.2⟩ N⟩
/-! Y: the passes -/
def py_I (St : Nat → Nat → Nat → Prop) (wt : Nat → Nat) (s0 N : Nat) (g : Bool) (k : Nat) (more : Int32) (B : Nat → Int32) : Prop :=
  fl_S St wt s0 N B ∧ fl_C St wt s0 N g k B ∧ (more = 0 → fl_A St wt s0 N g B) ∧ (more = 0 ∨ more = 1)
theorem py_S {more : Int32} {k : Nat} (hB : fl_B St wt s0 N) (S : fl_S St wt s0 N B0) (C : fl_C St wt s0 N g k B0) (P : fl_P St wt s0 N g B0 N B) (h : more = 0 → B = B0) (hm : more = 0 ∨ more = 1) : py_I St wt s0 N g (k + 1) more B := by
  refine ⟨P.1, fl_C1 hB C P, fun z => ?_, hm⟩
  have e := h z
  subst e
  exact ⟨P.1, fl_C2 hB (fl_C3 C (by omega)) P N⟩
end
section
variable {E : Nat → Int32} {bd wt : Nat → Nat} {bA : Nat → Int32} {pl : Nat → Nat}
theorem dx_B (hE : cl_G E) (O : wk_O E bA pl) (hbd : ∀ b, b < 6 → 1 ≤ bd b ∧ bd b ≤ 3) (hwt : ∀ b, b < 6 → wt b ≤ 50) : fl_B (wk_X E bd bA pl) wt 1024 4096 := by
  refine ⟨fun n s w h => ?_, fun s b s' h => h.1, hwt⟩
  have h1 := wk_Xb hE O hbd hwt h
  have h2 := wk_Xn hE O hbd hwt n s w h
  omega
theorem dy_B (hE : cl_G E) (O : wk_O E bA pl) (hbd : ∀ b, b < 6 → 1 ≤ bd b ∧ bd b ≤ 3) (hwt : ∀ b, b < 6 → wt b ≤ 50) : fl_B (wk_Y E bd) wt 0 4374 :=
  ⟨fun n s w h => wk_Yb hE O hbd hwt h, fun s b s' h => h.1, hwt⟩
theorem dx_d {x b x1 x2 : Nat} (h1 : wk_X E bd bA pl x b x1) (h2 : wk_X E bd bA pl x b x2) : x1 = x2 := h1.2.2.2.trans h2.2.2.2.symm
theorem dy_d {x b x1 x2 : Nat} (h1 : wk_Y E bd x b x1) (h2 : wk_Y E bd x b x2) : x1 = x2 := h1.2.2.2.2.trans h2.2.2.2.2.symm
/-- the two ways of walking have the same weights -/
theorem xy_P (hE : cl_G E) (O : wk_O E bA pl) (hbd : ∀ b, b < 6 → 1 ≤ bd b ∧ bd b ≤ 3) {QX QY : Nat → Prop} (hQ : ∀ s x, wk_J E pl s x → (QX x ↔ QY s)) (w : Nat) :
    (∃ n x, wk_XW E bd wt bA pl n x w ∧ QX x) ↔ ∃ n s, wk_YW E bd wt n s w ∧ QY s := by
  constructor
  · rintro ⟨n, x, h, hq⟩
    obtain ⟨s, hs, J⟩ := wk_XY hE O hbd n x w h
    exact ⟨n, s, hs, (hQ s x J).mp hq⟩
  · rintro ⟨n, s, h, hq⟩
    obtain ⟨x, hx, J⟩ := wk_YX hE O hbd n s w h
    exact ⟨n, x, hx, (hQ s x J).mpr hq⟩
end
