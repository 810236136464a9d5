def gd_ (g : Bool) (w m : Nat) : Prop := (g = true → w ≤ m) ∧ (g = false → m ≤ w)
theorem gd_r (g : Bool) (w : Nat) : gd_ g w w := ⟨fun _ => Nat.le_refl _, fun _ => Nat.le_refl _⟩
theorem gd_t {g : Bool} {a b c : Nat} (h : gd_ g a b) (k : gd_ g b c) : gd_ g a c := ⟨fun z => Nat.le_trans (h.1 z) (k.1 z), fun z => Nat.le_trans (k.2 z) (h.2 z)⟩
theorem gd_p {g : Bool} {a b : Nat} (c : Nat) (h : gd_ g a b) : gd_ g (a + c) (b + c) := ⟨fun z => Nat.add_le_add_right (h.1 z) c, fun z => Nat.add_le_add_right (h.2 z) c⟩
theorem gd_a {g : Bool} {a b : Nat} (h : gd_ g a b) (k : gd_ g b a) : a = b := by
  cases g
  · exact Nat.le_antisymm (k.2 rfl) (h.2 rfl)
  · exact Nat.le_antisymm (h.1 rfl) (k.1 rfl)
theorem nn_1 {m : Nat} (h : m < 1073741824) : ¬ nI m = -1 := by
  intro e
  have h1 : (nI m).toInt = (m : Int) := nI_toInt (by omega)
  rw [e, show (-1 : Int32).toInt = -1 from by decide] at h1
  omega
theorem nn_e {a b : Nat} (ha : a < 1073741824) (hb : b < 1073741824) (h : nI a = nI b) : a = b := (nI_eq (by omega) (by omega)).mp h
/-- r is the best weight of those that P holds, -1 where there is none -/
def an_s (g : Bool) (P : Nat → Prop) (r : Int32) : Prop := (r = -1 ∧ ∀ w, ¬ P w) ∨ ∃ m, m < 1073741824 ∧ r = nI m ∧ P m ∧ ∀ w, P w → gd_ g w m
theorem an_u {g : Bool} {P Q : Nat → Prop} {r r' : Int32} (hPQ : ∀ w, P w ↔ Q w) (h : an_s g P r) (h' : an_s g Q r') : r = r' := by
  rcases h with ⟨e, h⟩ | ⟨m, hm, e, hP, h⟩
  · rcases h' with ⟨e', _⟩ | ⟨m', _, _, hP', _⟩
    · rw [e, e']
    · exact absurd ((hPQ m').mpr hP') (h m')
  · rcases h' with ⟨_, h'⟩ | ⟨m', hm', e', hP', h'⟩
    · exact absurd ((hPQ m).mp hP) (h' m)
    · rw [e, e', gd_a (h' m ((hPQ m).mp hP)) (h m' ((hPQ m').mpr hP'))]
section
variable {St : Nat → Nat → Nat → Prop} {wt : Nat → Nat} {s0 N : Nat}
def fl_S (St : Nat → Nat → Nat → Prop) (wt : Nat → Nat) (s0 N : Nat) (B : Nat → Int32) : Prop := ∀ s, s < N → B s = -1 ∨ ∃ n w, gw_ St wt s0 n s w ∧ B s = nI w
def fl_M (g : Bool) (B B' : Nat → Int32) : Prop := ∀ s m, m < 1073741824 → B s = nI m → ∃ m', m' < 1073741824 ∧ B' s = nI m' ∧ gd_ g m m'
def fl_E (St : Nat → Nat → Nat → Prop) (wt : Nat → Nat) (s0 N : Nat) (g : Bool) (B0 B : Nat → Int32) (s b : Nat) : Prop := ∀ s' m, St s b s' → m < 1073741824 → B0 s = nI m → ∃ m', m' < 1073741824 ∧ B s' = nI m' ∧ gd_ g (m + wt b) m'
def fl_B (St : Nat → Nat → Nat → Prop) (wt : Nat → Nat) (s0 N : Nat) : Prop := (∀ n s w, gw_ St wt s0 n s w → s < N ∧ n < N ∧ w ≤ 200000) ∧ (∀ s b s', St s b s' → b < 6) ∧ (∀ b, b < 6 → wt b ≤ 50)
theorem fl_Mr {g : Bool} {B : Nat → Int32} : fl_M g B B := fun s m hm e => ⟨m, hm, e, gd_r g m⟩
theorem fl_Mt {g : Bool} {B B' B'' : Nat → Int32} (h : fl_M g B B') (k : fl_M g B' B'') : fl_M g B B'' := by
  intro s m hm e
  obtain ⟨m1, h1, e1, d1⟩ := h s m hm e
  obtain ⟨m2, h2, e2, d2⟩ := k s m1 h1 e1
  exact ⟨m2, h2, e2, gd_t d1 d2⟩
theorem fl_EM {g : Bool} {B0 B B' : Nat → Int32} {s b : Nat} (h : fl_E St wt s0 N g B0 B s b) (k : fl_M g B B') : fl_E St wt s0 N g B0 B' s b := by
  intro s' m hy hm e
  obtain ⟨m1, h1, e1, d1⟩ := h s' m hy hm e
  obtain ⟨m2, h2, e2, d2⟩ := k s' m1 h1 e1
  exact ⟨m2, h2, e2, gd_t d1 d2⟩
theorem fl_ME {g : Bool} {B0 B B' : Nat → Int32} {s b : Nat} (k : fl_M g B0 B) (h : fl_E St wt s0 N g B B' s b) : fl_E St wt s0 N g B0 B' s b := by
  intro s' m hy hm e
  obtain ⟨m1, h1, e1, d1⟩ := k s m hm e
  obtain ⟨m2, h2, e2, d2⟩ := h s' m1 hy h1 e1
  exact ⟨m2, h2, e2, gd_t (gd_p _ d1) d2⟩
/-- a value at s, sound: its number and its walk -/
theorem fl_v (hB : fl_B St wt s0 N) {B : Nat → Int32} (S : fl_S St wt s0 N B) {s : Nat} (hs : s < N) (h : ¬ B s = -1) : ∃ n w, gw_ St wt s0 n s w ∧ B s = nI w ∧ w ≤ 200000 := by
  rcases S s hs with e | ⟨n, w, hw, e⟩
  · exact absurd e h
  · exact ⟨n, w, hw, e, (hB.1 n s w hw).2.2⟩
/-- a store of a better value -/
theorem fl_st (hB : fl_B St wt s0 N) {g : Bool} {B : Nat → Int32} (S : fl_S St wt s0 N B) {s b s' n m : Nat} (hw : gw_ St wt s0 n s m) (hy : St s b s')
    (hb : B s' = -1 ∨ ∃ m', m' < 1073741824 ∧ B s' = nI m' ∧ gd_ g m' (m + wt b)) :
    fl_S St wt s0 N (upd B s' (nI (m + wt b))) ∧ fl_M g B (upd B s' (nI (m + wt b))) ∧ ∃ m', m' < 1073741824 ∧ upd B s' (nI (m + wt b)) s' = nI m' ∧ gd_ g (m + wt b) m' := by
  have hw2 : gw_ St wt s0 (n + 1) s' (m + wt b) := ⟨s, m, b, hw, hy, rfl⟩
  have hl := (hB.1 _ _ _ hw2).2.2
  refine ⟨?_, ?_, m + wt b, by omega, pk_us, gd_r g _⟩
  · intro s1 hs1
    by_cases e : s1 = s'
    · subst e; exact Or.inr ⟨n + 1, m + wt b, hw2, pk_us⟩
    · rw [pk_un e]; exact S s1 hs1
  · intro s1 m1 hm1 e1
    by_cases e : s1 = s'
    · subst e
      refine ⟨m + wt b, by omega, pk_us, ?_⟩
      rcases hb with z | ⟨m', hm', z, d⟩
      · exact absurd (e1.symm.trans z) (nn_1 hm1)
      · rw [nn_e hm1 hm' (e1.symm.trans z)]; exact d
    · rw [pk_un e]; exact ⟨m1, hm1, e1, gd_r g m1⟩
/-- where a pass over the states stands behind i of them -/
def fl_P (St : Nat → Nat → Nat → Prop) (wt : Nat → Nat) (s0 N : Nat) (g : Bool) (B0 : Nat → Int32) (i : Nat) (B : Nat → Int32) : Prop :=
  fl_S St wt s0 N B ∧ fl_M g B0 B ∧ ∀ s, s < i → ∀ b, b < 6 → fl_E St wt s0 N g B0 B s b
def fl_C (St : Nat → Nat → Nat → Prop) (wt : Nat → Nat) (s0 N : Nat) (g : Bool) (k : Nat) (B : Nat → Int32) : Prop := ∀ n s w, n ≤ k → gw_ St wt s0 n s w → ∃ m, m < 1073741824 ∧ B s = nI m ∧ gd_ g w m
theorem fl_C1 (hB : fl_B St wt s0 N) {g : Bool} {k : Nat} {B0 B : Nat → Int32} (C : fl_C St wt s0 N g k B0) (P : fl_P St wt s0 N g B0 N B) : fl_C St wt s0 N g (k + 1) B := by
  intro n s' w' hn hw
  rcases Nat.lt_or_ge k n with h | h
  · have e : n = k + 1 := by omega
    subst e
    obtain ⟨s, w, b, hw1, hy, rfl⟩ := hw
    obtain ⟨m, hm, e, d⟩ := C k s w (by omega) hw1
    obtain ⟨m', hm', e', d'⟩ := P.2.2 s (hB.1 _ _ _ hw1).1 b (hB.2.1 _ _ _ hy) s' m hy hm e
    exact ⟨m', hm', e', gd_t (gd_p _ d) d'⟩
  · obtain ⟨m, hm, e, d⟩ := C n s' w' h hw
    obtain ⟨m', hm', e', d'⟩ := P.2.1 s' m hm e
    exact ⟨m', hm', e', gd_t d d'⟩
theorem fl_C2 (hB : fl_B St wt s0 N) {g : Bool} {B : Nat → Int32} (C : fl_C St wt s0 N g 0 B) (P : fl_P St wt s0 N g B N B) : ∀ k, fl_C St wt s0 N g k B := by
  intro k
  induction k with
  | zero => exact C
  | succ k ih => exact fl_C1 hB ih P
theorem fl_C3 {g : Bool} {k j : Nat} {B : Nat → Int32} (C : fl_C St wt s0 N g k B) (h : j ≤ k) : fl_C St wt s0 N g j B := fun n s w hn => C n s w (by omega)
/-- all is found -/
def fl_A (St : Nat → Nat → Nat → Prop) (wt : Nat → Nat) (s0 N : Nat) (g : Bool) (B : Nat → Int32) : Prop := fl_S St wt s0 N B ∧ fl_C St wt s0 N g N B
theorem fl_b0 (hB : fl_B St wt s0 N) {g : Bool} {B : Nat → Int32} (h0 : B s0 = nI (wt 0)) (h : ∀ s, s < N → s ≠ s0 → B s = -1) : fl_S St wt s0 N B ∧ fl_C St wt s0 N g 0 B := by
  constructor
  · intro s hs
    by_cases e : s = s0
    · subst e; exact Or.inr ⟨0, wt 0, ⟨rfl, rfl⟩, h0⟩
    · exact Or.inl (h s hs e)
  · intro n s w hn hw
    have e : n = 0 := by omega
    subst e
    obtain ⟨rfl, rfl⟩ := hw
    have := hB.2.2 0 (by omega)
    exact ⟨wt 0, by omega, h0, gd_r g _⟩
/-- where the search for the best value stands behind i states -/
def fl_V (g : Bool) (Q : Nat → Prop) (B : Nat → Int32) (i : Nat) (v : Int32) : Prop :=
  (v = -1 ∧ ∀ s, s < i → Q s → B s = -1) ∨ ∃ s m, s < i ∧ Q s ∧ m < 1073741824 ∧ B s = nI m ∧ v = nI m ∧ ∀ s' m', s' < i → Q s' → m' < 1073741824 → B s' = nI m' → gd_ g m' m
theorem fl_Vn {g : Bool} {Q : Nat → Prop} {B : Nat → Int32} {i : Nat} {v : Int32} (V : fl_V g Q B i v) (h : Q i → B i = -1) : fl_V g Q B (i + 1) v := by
  rcases V with ⟨e, V⟩ | ⟨s, m, h1, h2, h3, h4, h5, h6⟩
  · refine Or.inl ⟨e, fun s hs hq => ?_⟩
    by_cases z : s = i
    · subst z; exact h hq
    · exact V s (by omega) hq
  · refine Or.inr ⟨s, m, by omega, h2, h3, h4, h5, fun s' m' hs' hq hm' e' => ?_⟩
    by_cases z : s' = i
    · subst z; exact absurd (e'.symm.trans (h hq)) (nn_1 hm')
    · exact h6 s' m' (by omega) hq hm' e'
theorem fl_Vk {g : Bool} {Q : Nat → Prop} {B : Nat → Int32} {i m1 m : Nat} {v : Int32} (V : fl_V g Q B i v) (hm1 : m1 < 1073741824) (hv : v = nI m1) (hm : m < 1073741824) (e : B i = nI m) (hd : gd_ g m m1) : fl_V g Q B (i + 1) v := by
  rcases V with ⟨e1, _⟩ | ⟨s, m2, h1, h2, h3, h4, h5, h6⟩
  · exact absurd (hv.symm.trans e1) (nn_1 hm1)
  · have : m1 = m2 := nn_e hm1 h3 (hv.symm.trans h5)
    subst this
    refine Or.inr ⟨s, m1, by omega, h2, h3, h4, h5, fun s' m' hs' hq hm' e' => ?_⟩
    by_cases z : s' = i
    · subst z; rw [nn_e hm' hm (e'.symm.trans e)]; exact hd
    · exact h6 s' m' (by omega) hq hm' e'
theorem fl_Vs {g : Bool} {Q : Nat → Prop} {B : Nat → Int32} {i m : Nat} {v : Int32} (V : fl_V g Q B i v) (hq : Q i) (hm : m < 1073741824) (e : B i = nI m) (hd : v = -1 ∨ ∃ m1, m1 < 1073741824 ∧ v = nI m1 ∧ gd_ g m1 m) : fl_V g Q B (i + 1) (nI m) := by
  refine Or.inr ⟨i, m, by omega, hq, hm, e, rfl, fun s' m' hs' hq' hm' e' => ?_⟩
  by_cases z : s' = i
  · subst z; rw [nn_e hm' hm (e'.symm.trans e)]; exact gd_r g m
  · rcases V with ⟨e1, V⟩ | ⟨s, m2, h1, h2, h3, h4, h5, h6⟩
    · exact absurd (e'.symm.trans (V s' (by omega) hq')) (nn_1 hm')
    · rcases hd with z1 | ⟨m1, a1, a2, a3⟩
      · exact absurd (h5.symm.trans z1) (nn_1 h3)
      · have := nn_e h3 a1 (h5.symm.trans a2)
        subst this
        exact gd_t (h6 s' m' (by omega) hq' hm' e') a3
theorem fl_V0 {g : Bool} {Q : Nat → Prop} {B : Nat → Int32} : fl_V g Q B 0 (-1) := Or.inl ⟨rfl, fun s hs => absurd hs (by omega)⟩
theorem fl_an (hB : fl_B St wt s0 N) {g : Bool} {Q : Nat → Prop} {B : Nat → Int32} {v : Int32} (A : fl_A St wt s0 N g B) (V : fl_V g Q B N v) : an_s g (fun w => ∃ n s, gw_ St wt s0 n s w ∧ Q s) v := by
  rcases V with ⟨e, V⟩ | ⟨s, m, h1, h2, h3, h4, h5, h6⟩
  · refine Or.inl ⟨e, ?_⟩
    rintro w ⟨n, s, hw, hq⟩
    have hb := hB.1 _ _ _ hw
    obtain ⟨m, hm, e1, _⟩ := A.2 n s w (by omega) hw
    exact nn_1 hm (e1.symm.trans (V s hb.1 hq))
  · refine Or.inr ⟨m, h3, h5, ?_, ?_⟩
    · obtain ⟨n, w, hw, e, _⟩ := fl_v hB A.1 h1 (by rw [h4]; exact nn_1 h3)
      have hb := (hB.1 _ _ _ hw).2.2
      have : m = w := nn_e h3 (by omega) (h4.symm.trans e)
      subst this
      exact ⟨n, s, hw, h2⟩
    · rintro w ⟨n, s', hw, hq⟩
      have hb := hB.1 _ _ _ hw
      obtain ⟨m', hm', e1, d⟩ := A.2 n s' w (by omega) hw
      exact gd_t d (h6 s' m' hb.1 hq hm' e1)
end
