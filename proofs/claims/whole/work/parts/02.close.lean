def bq_i (h : Nat) : Int32 := (1 : Int32) <<< (nI h &&& 31)
theorem bq_t0 : ∀ h, h < 32 → ∀ i, i < 32 → bt (bq_i h) i = decide (i = h) := by decide +kernel
theorem bq_t {h : Nat} (hh : h < 32) (i : Nat) : bt (bq_i h) i = decide (i = h) := by
  rcases Nat.lt_or_ge i 32 with hi | hi
  · exact bq_t0 h hh i hi
  · rw [b_big hi, decide_eq_false (by omega)]
theorem bq_10 : ∀ i, i < 32 → bt 1 i = decide (i = 0) := by decide +kernel
theorem bq_1 (i : Nat) : bt 1 i = decide (i = 0) := by
  rcases Nat.lt_or_ge i 32 with hi | hi
  · exact bq_10 i hi
  · rw [b_big hi, decide_eq_false (by omega)]
theorem bq_an (x y : Int32) (i : Nat) : bt (x &&& (y ^^^ (-1))) i = (bt x i && !bt y i) := by
  rw [b_and]
  rcases Nat.lt_or_ge i 32 with hi | hi
  · rw [b_xor, b_m1 i hi]; cases bt y i <;> rfl
  · rw [b_big (x := x) hi]; rfl
theorem bq_h0 (x : Int32) {b : Nat} (hb : b < 32) : ((x >>> (nI b &&& 31)) &&& 1) = 0 ↔ bt x b = false := by
  constructor
  · intro h
    have e : bt ((x >>> (nI b &&& 31)) &&& 1) 0 = bt 0 0 := by rw [h]
    rw [b_and, b_sshr b hb x (by omega), if_pos (by omega), bq_1, b_0] at e
    simpa using e
  · intro h
    apply b_ext
    intro i hi
    rw [b_and, bq_1, b_0]
    rcases Nat.eq_zero_or_pos i with rfl | hp
    · rw [b_sshr b hb x (by omega), if_pos (by omega)]; simpa using h
    · rw [decide_eq_false (by omega)]; simp
theorem bq_h1 (x : Int32) {b : Nat} (hb : b < 32) : ((x >>> (nI b &&& 31)) &&& 1) = 1 ↔ bt x b = true := by
  constructor
  · intro h
    have e : bt ((x >>> (nI b &&& 31)) &&& 1) 0 = bt 1 0 := by rw [h]
    rw [b_and, b_sshr b hb x (by omega), if_pos (by omega), bq_1] at e
    simpa using e
  · intro h
    apply b_ext
    intro i hi
    rw [b_and, bq_1]
    rcases Nat.eq_zero_or_pos i with rfl | hp
    · rw [b_sshr b hb x (by omega), if_pos (by omega)]; simpa using h
    · rw [decide_eq_false (by omega)]; simp
def bq_s (x : Int32) : Prop := ∀ i, bt x i = true → i < 6
theorem bq_e6 {x y : Int32} (hx : bq_s x) (hy : bq_s y) (h : ∀ i, i < 6 → bt x i = bt y i) : x = y := by
  apply b_ext
  intro i _
  rcases Nat.lt_or_ge i 6 with hi | hi
  · exact h i hi
  · have a : bt x i = false := by
      cases e : bt x i
      · rfl
      · have := hx i e; omega
    have b : bt y i = false := by
      cases e : bt y i
      · rfl
      · have := hy i e; omega
    rw [a, b]
theorem bq_z {x : Int32} : x = 0 ↔ ∀ i, bt x i = false :=
  ⟨fun h i => by rw [h, b_0], fun h => b_ext fun i _ => by rw [h i, b_0]⟩
theorem bq_nz {x : Int32} (hx : bq_s x) (h : ¬ x = 0) : ∃ i, i < 6 ∧ bt x i = true := by
  apply Classical.byContradiction
  intro hn
  apply h
  rw [bq_z]
  intro i
  cases e : bt x i
  · rfl
  · exact absurd ⟨i, hx i e, e⟩ hn
theorem bq_nt {x : Bool} (h : ¬ x = true) : x = false := by cases x <;> first | rfl | exact absurd rfl h
theorem bq_nf {x : Bool} (h : ¬ x = false) : x = true := by cases x <;> first | rfl | exact absurd rfl h
/-! counting -/
def cn_t (x : Int32) : Nat := (bt x 0).toNat + (bt x 1).toNat + (bt x 2).toNat + (bt x 3).toNat + (bt x 4).toNat + (bt x 5).toNat
theorem cn_b1 (b : Bool) : b.toNat ≤ 1 := by cases b <;> decide
theorem cn_b2 {p q : Bool} (h : p = true → q = true) : p.toNat ≤ q.toNat := by
  cases p <;> cases q <;> first | decide | exact absurd (h rfl) (by decide)
theorem cn_6 (x : Int32) : cn_t x ≤ 6 := by
  have h0 := cn_b1 (bt x 0); have h1 := cn_b1 (bt x 1); have h2 := cn_b1 (bt x 2)
  have h3 := cn_b1 (bt x 3); have h4 := cn_b1 (bt x 4); have h5 := cn_b1 (bt x 5)
  unfold cn_t; omega
theorem cn_lt {x y : Int32} {j : Nat} (h : ∀ i, bt x i = true → bt y i = true) (hj : j < 6) (hy : bt y j = true) (hx : bt x j = false) : cn_t x < cn_t y := by
  have h0 := cn_b2 (h 0); have h1 := cn_b2 (h 1); have h2 := cn_b2 (h 2)
  have h3 := cn_b2 (h 3); have h4 := cn_b2 (h 4); have h5 := cn_b2 (h 5)
  have ex : (bt x j).toNat = 0 := by rw [hx]; rfl
  have ey : (bt y j).toNat = 1 := by rw [hy]; rfl
  unfold cn_t
  have : j = 0 ∨ j = 1 ∨ j = 2 ∨ j = 3 ∨ j = 4 ∨ j = 5 := by omega
  rcases this with rfl | rfl | rfl | rfl | rfl | rfl <;> omega
theorem fx_ne {f : Int32 → Int32} (hu : ∀ x i, bt x i = true → bt (f x) i = true) (hs : ∀ x, bq_s x → bq_s (f x)) {x : Int32} (hx : bq_s x) (h : ¬ f x = x) : cn_t x < cn_t (f x) := by
  have : ∃ j, j < 6 ∧ bt (f x) j = true ∧ bt x j = false := by
    apply Classical.byContradiction
    intro hn
    apply h
    apply bq_e6 (hs x hx) hx
    intro i hi
    cases e : bt x i
    · cases e2 : bt (f x) i
      · rfl
      · exact absurd ⟨i, hi, e2, e⟩ hn
    · exact hu x i e
  obtain ⟨j, hj, a, b⟩ := this
  exact cn_lt (hu x) hj a b
theorem fx_p (f : Int32 → Int32) (hu : ∀ x i, bt x i = true → bt (f x) i = true) (hs : ∀ x, bq_s x → bq_s (f x)) (it : Nat → Int32) (h0 : bq_s (it 0)) (hit : ∀ k, it (k + 1) = f (it k)) : f (it 6) = it 6 := by
  have hb : ∀ k, bq_s (it k) := by
    intro k
    induction k with
    | zero => exact h0
    | succ k ih => rw [hit]; exact hs _ ih
  have main : ∀ k, f (it k) = it k ∨ k + 1 ≤ cn_t (it (k + 1)) := by
    intro k
    induction k with
    | zero =>
      by_cases e : f (it 0) = it 0
      · exact Or.inl e
      · have := fx_ne hu hs (hb 0) e
        rw [← hit] at this
        exact Or.inr (by omega)
    | succ k ih =>
      by_cases e : f (it (k + 1)) = it (k + 1)
      · exact Or.inl e
      · have := fx_ne hu hs (hb (k + 1)) e
        rw [← hit (k + 1)] at this
        rcases ih with h | h
        · exact absurd (by rw [hit k, h, h]) e
        · exact Or.inr (by omega)
  rcases main 6 with h | h
  · exact h
  · have := cn_6 (it (6 + 1)); omega
/-! what is reached from block 0 without the blocks of m -/
def cl_s (E : Nat → Int32) (m : Int32) (a : Nat) (r : Int32) : Int32 := if bt r a = true then r ||| (E a &&& (m ^^^ (-1))) else r
def cl_i (E : Nat → Int32) (m : Int32) : Nat → Int32 → Int32
  | 0, r => r
  | a + 1, r => cl_s E m a (cl_i E m a r)
def cl_o (E : Nat → Int32) (m : Int32) (r : Int32) : Nat → Int32
  | 0 => r
  | k + 1 => cl_i E m 6 (cl_o E m r k)
def cl_r (E : Nat → Int32) (m : Int32) : Int32 := cl_o E m (1 &&& (m ^^^ (-1))) 6
def cl_G (E : Nat → Int32) : Prop := ∀ a, a < 6 → ∀ i, bt (E a) i = true → i < 6 ∧ i ≠ a
section
variable {E : Nat → Int32} {m : Int32}
theorem cl_s_up {a : Nat} {r : Int32} {i : Nat} (h : bt r i = true) : bt (cl_s E m a r) i = true := by
  unfold cl_s
  by_cases hb : bt r a = true
  · rw [if_pos hb, b_or, h]; rfl
  · rw [if_neg hb]; exact h
theorem cl_i_mo {r : Int32} {i a : Nat} : ∀ d, bt (cl_i E m a r) i = true → bt (cl_i E m (a + d) r) i = true := by
  intro d h
  induction d with
  | zero => exact h
  | succ d ih => exact cl_s_up ih
theorem cl_i_up {r : Int32} {i a : Nat} (h : bt r i = true) : bt (cl_i E m a r) i = true := by
  have := cl_i_mo (E := E) (m := m) (r := r) (i := i) (a := 0) a h
  rw [Nat.zero_add] at this
  exact this
theorem cl_o_up {r : Int32} {i k : Nat} (h : bt r i = true) : bt (cl_o E m r k) i = true := by
  induction k with
  | zero => exact h
  | succ k ih => exact cl_i_up ih
theorem cl_s_le {S : Nat → Prop} {a : Nat} {r : Int32} (hc : ∀ i, S a → bt (E a) i = true → bt m i = false → S i) (h : ∀ i, bt r i = true → S i) (i : Nat) (hi : bt (cl_s E m a r) i = true) : S i := by
  unfold cl_s at hi
  by_cases hb : bt r a = true
  · rw [if_pos hb, b_or, bq_an] at hi
    cases e : bt r i
    · rw [e] at hi
      cases e1 : bt (E a) i
      · rw [e1] at hi; exact absurd hi (by simp)
      · cases e2 : bt m i
        · exact hc i (h a hb) e1 e2
        · rw [e1, e2] at hi; exact absurd hi (by decide)
    · exact h i e
  · rw [if_neg hb] at hi; exact h i hi
theorem cl_i_le {S : Nat → Prop} {r : Int32} (hc : ∀ a, a < 6 → ∀ i, S a → bt (E a) i = true → bt m i = false → S i) (h : ∀ i, bt r i = true → S i) : ∀ a, a ≤ 6 → ∀ i, bt (cl_i E m a r) i = true → S i := by
  intro a
  induction a with
  | zero => intro _; exact h
  | succ a ih => intro ha; exact cl_s_le (hc a (by omega)) (ih (by omega))
theorem cl_o_le {S : Nat → Prop} {r : Int32} (hc : ∀ a, a < 6 → ∀ i, S a → bt (E a) i = true → bt m i = false → S i) (h : ∀ i, bt r i = true → S i) : ∀ k i, bt (cl_o E m r k) i = true → S i := by
  intro k
  induction k with
  | zero => exact h
  | succ k ih => exact cl_i_le hc ih 6 (by omega)
theorem cl_st {i : Nat} (h : bt (1 &&& (m ^^^ (-1))) i = true) : i = 0 ∧ bt m 0 = false := by
  rw [bq_an, bq_1] at h
  by_cases e : i = 0
  · subst e
    refine ⟨rfl, ?_⟩
    cases e2 : bt m 0
    · rfl
    · rw [e2] at h; exact absurd h (by decide)
  · rw [decide_eq_false e] at h; exact absurd h (by simp)
theorem cl_r_le {S : Nat → Prop} (h0 : bt m 0 = false → S 0) (hc : ∀ a, a < 6 → ∀ i, S a → bt (E a) i = true → bt m i = false → S i) : ∀ i, bt (cl_r E m) i = true → S i := by
  apply cl_o_le hc
  intro i hi
  obtain ⟨rfl, h⟩ := cl_st hi
  exact h0 h
theorem cl_r_s (hE : cl_G E) : bq_s (cl_r E m) := cl_r_le (S := fun i => i < 6) (fun _ => by omega) (fun a ha i _ h _ => (hE a ha i h).1)
theorem cl_r_0 (h : bt m 0 = false) : bt (cl_r E m) 0 = true := by
  apply cl_o_up
  rw [bq_an, bq_1, h]; rfl
theorem cl_r_m {i : Nat} (h : bt m i = true) : bt (cl_r E m) i = false := by
  cases e : bt (cl_r E m) i
  · rfl
  · have := cl_r_le (E := E) (m := m) (S := fun i => bt m i = false) id (fun _ _ _ _ _ h => h) i e
    rw [h] at this; exact absurd this (by decide)
theorem cl_i_s (hE : cl_G E) {r : Int32} (hr : bq_s r) : bq_s (cl_i E m 6 r) :=
  cl_i_le (S := fun i => i < 6) (fun a ha i _ h _ => (hE a ha i h).1) hr 6 (by omega)
theorem cl_r_fx (hE : cl_G E) : cl_i E m 6 (cl_r E m) = cl_r E m := by
  apply fx_p (cl_i E m 6) (fun x i h => cl_i_up h) (fun x hx => cl_i_s hE hx) (cl_o E m (1 &&& (m ^^^ (-1))))
  · intro i hi; have := (cl_st (m := m) hi).1; omega
  · intro k; rfl
theorem cl_r_c (hE : cl_G E) {a i : Nat} (ha : a < 6) (h : bt (cl_r E m) a = true) (he : bt (E a) i = true) (hm : bt m i = false) : bt (cl_r E m) i = true := by
  have h1 : bt (cl_i E m a (cl_r E m)) a = true := cl_i_up h
  have h2 : bt (cl_i E m (a + 1) (cl_r E m)) i = true := by
    show bt (cl_s E m a (cl_i E m a (cl_r E m))) i = true
    unfold cl_s
    rw [if_pos h1, b_or, bq_an, he, hm]
    cases bt (cl_i E m a (cl_r E m)) i <;> rfl
  have h3 := cl_i_mo (5 - a) h2
  rw [show a + 1 + (5 - a) = 6 from by omega, cl_r_fx hE] at h3
  exact h3
end
/-! dominators -/
def dq_L (E : Nat → Int32) (a : Nat) : Prop := bt (cl_r E 0) a = true
def dq_D (E : Nat → Int32) (d a : Nat) : Prop := bt (cl_r E 0) a = true ∧ bt (cl_r E (bq_i d)) a = false
section
variable {E : Nat → Int32}
theorem dq_L6 (hE : cl_G E) {a : Nat} (h : dq_L E a) : a < 6 := cl_r_s hE a h
theorem dq_L0 : dq_L E 0 := cl_r_0 (b_0 0)
theorem dq_Lc (hE : cl_G E) {a b : Nat} (h : dq_L E a) (he : bt (E a) b = true) : dq_L E b := cl_r_c hE (dq_L6 hE h) h he (b_0 b)
theorem dq_bi {d i : Nat} (hd : d < 6) (h : i ≠ d) : bt (bq_i d) i = false := by rw [bq_t (by omega), decide_eq_false h]
theorem dq_bs {d : Nat} (hd : d < 6) : bt (bq_i d) d = true := by rw [bq_t (by omega), decide_eq_true rfl]
theorem dq_sub (hE : cl_G E) {m : Int32} {a : Nat} (h : bt (cl_r E m) a = true) : dq_L E a :=
  cl_r_le (S := dq_L E) (fun _ => dq_L0) (fun a _ i hS he _ => dq_Lc hE hS he) a h
theorem dq_rf (hE : cl_G E) {a : Nat} (h : dq_L E a) : dq_D E a a := ⟨h, cl_r_m (dq_bs (dq_L6 hE h))⟩
theorem dq_0 {a : Nat} (h : dq_L E a) : dq_D E 0 a := by
  refine ⟨h, bq_nt fun e => ?_⟩
  exact cl_r_le (E := E) (m := bq_i 0) (S := fun _ => False) (fun z => absurd (dq_bs (d := 0) (by omega)) (by rw [z]; decide)) (fun _ _ _ z _ _ => z) a e
theorem dq_d0 {d : Nat} (hd : d < 6) (h : dq_D E d 0) : d = 0 := by
  apply Classical.byContradiction
  intro e
  have := cl_r_0 (E := E) (m := bq_i d) (dq_bi hd (fun z => e z.symm))
  rw [h.2] at this; exact absurd this (by decide)
theorem dq_st (hE : cl_G E) {a b d : Nat} (ha : dq_L E a) (he : bt (E a) b = true) (hd : d < 6) (h : dq_D E d b) (hn : d ≠ b) : dq_D E d a := by
  refine ⟨ha, bq_nt fun e => ?_⟩
  have := cl_r_c hE (dq_L6 hE ha) e he (dq_bi hd (fun z => hn z.symm))
  rw [h.2] at this; exact absurd this (by decide)
theorem dq_tr (hE : cl_G E) {a d e : Nat} (he : e < 6) (hd : d < 6) (h1 : dq_D E d a) (h2 : dq_D E e d) : dq_D E e a := by
  refine ⟨h1.1, bq_nt fun z => ?_⟩
  have key : ∀ i, bt (cl_r E (bq_i e)) i = true → (bt (cl_r E (bq_i d)) i = true ∧ bt (cl_r E (bq_i e)) i = true) := by
    apply cl_r_le (S := fun i => bt (cl_r E (bq_i d)) i = true ∧ bt (cl_r E (bq_i e)) i = true)
    · intro h0
      refine ⟨cl_r_0 ?_, cl_r_0 h0⟩
      apply dq_bi hd
      intro z
      rw [← z] at h2
      have := cl_r_0 (E := E) h0
      rw [h2.2] at this; exact absurd this (by decide)
    · intro x hx i hS hxe hm
      have hi := cl_r_c hE hx hS.2 hxe hm
      refine ⟨cl_r_c hE hx hS.1 hxe (dq_bi hd ?_), hi⟩
      intro z
      rw [z, h2.2] at hi; exact absurd hi (by decide)
  have := (key a z).1
  rw [h1.2] at this; exact absurd this (by decide)
theorem dq_DL (hE : cl_G E) {a d : Nat} (hd : d < 6) (h : dq_D E d a) : dq_L E d := by
  apply Classical.byContradiction
  intro hn
  have key : ∀ i, bt (cl_r E 0) i = true → (dq_L E i ∧ bt (cl_r E (bq_i d)) i = true) := by
    apply cl_r_le (S := fun i => dq_L E i ∧ bt (cl_r E (bq_i d)) i = true)
    · intro _
      exact ⟨dq_L0, cl_r_0 (dq_bi hd (fun z => hn (z ▸ dq_L0)))⟩
    · intro x hx i hS hxe _
      have hi := dq_Lc hE hS.1 hxe
      exact ⟨hi, cl_r_c hE hx hS.2 hxe (dq_bi hd (fun z => hn (z ▸ hi)))⟩
  have := (key a h.1).2
  rw [h.2] at this; exact absurd this (by decide)
theorem dq_pr (hE : cl_G E) {a : Nat} (h : dq_L E a) (h0 : a ≠ 0) : ∃ u, dq_L E u ∧ bt (E u) a = true ∧ ¬ dq_D E a u := by
  apply Classical.byContradiction
  intro hn
  have ha := dq_L6 hE h
  have key : ∀ i, bt (cl_r E 0) i = true → bt (cl_r E (bq_i a)) i = true := by
    apply cl_r_le (S := fun i => bt (cl_r E (bq_i a)) i = true)
    · intro _
      exact cl_r_0 (dq_bi ha (fun z => h0 z.symm))
    · intro x hx i hS hxe _
      by_cases e : i = a
      · subst e
        exact absurd ⟨x, dq_sub hE hS, hxe, fun z => by rw [z.2] at hS; exact absurd hS (by decide)⟩ hn
      · exact cl_r_c hE hx hS hxe (dq_bi ha e)
  have := key a h
  rw [cl_r_m (dq_bs ha)] at this; exact absurd this (by decide)
end
def dq_f (E : Nat → Int32) (b : Nat) : Nat → Int32
  | 0 => 0
  | h + 1 => if bt (cl_r E 0 &&& (cl_r E (bq_i h) ^^^ (-1))) b = true then dq_f E b h ||| bq_i h else dq_f E b h
def dq_M (E : Nat → Int32) (b : Nat) : Int32 := dq_f E b 6
theorem dq_c {E : Nat → Int32} {b h : Nat} : bt (cl_r E 0 &&& (cl_r E (bq_i h) ^^^ (-1))) b = true ↔ dq_D E h b := by
  unfold dq_D
  rw [bq_an, Bool.and_eq_true, Bool.not_eq_true']
theorem dq_ft {E : Nat → Int32} {b i : Nat} : ∀ n, n ≤ 6 → (bt (dq_f E b n) i = true ↔ i < n ∧ dq_D E i b) := by
  intro n
  induction n with
  | zero => intro _; show bt 0 i = true ↔ _; rw [b_0]; exact ⟨fun z => absurd z (by decide), fun z => absurd z.1 (by omega)⟩
  | succ n ih =>
    intro hn
    have ih := ih (by omega)
    unfold dq_f
    by_cases h : bt (cl_r E 0 &&& (cl_r E (bq_i n) ^^^ (-1))) b = true
    · rw [if_pos h, b_or, Bool.or_eq_true, ih, bq_t (by omega), decide_eq_true_eq]
      constructor
      · rintro (⟨a, c⟩ | rfl)
        · exact ⟨by omega, c⟩
        · exact ⟨by omega, dq_c.mp h⟩
      · rintro ⟨a, c⟩
        by_cases e : i = n
        · exact Or.inr e
        · exact Or.inl ⟨by omega, c⟩
    · rw [if_neg h, ih]
      constructor
      · rintro ⟨a, c⟩; exact ⟨by omega, c⟩
      · rintro ⟨a, c⟩
        refine ⟨?_, c⟩
        by_cases e : i = n
        · subst e; exact absurd (dq_c.mpr c) h
        · omega
theorem dq_Mt {E : Nat → Int32} {b i : Nat} : bt (dq_M E b) i = true ↔ i < 6 ∧ dq_D E i b := dq_ft 6 (by omega)
theorem dq_Ms {E : Nat → Int32} {b : Nat} : bq_s (dq_M E b) := fun i h => (dq_Mt.mp h).1
theorem dq_M0 {E : Nat → Int32} (hE : cl_G E) {b : Nat} (hb : b < 6) : ¬ dq_M E b = 0 ↔ dq_L E b := by
  constructor
  · intro h
    obtain ⟨i, hi, h⟩ := bq_nz dq_Ms h
    exact (dq_Mt.mp h).2.1
  · intro h z
    have := dq_Mt.mpr ⟨hb, dq_rf hE h⟩
    rw [z, b_0] at this; exact absurd this (by decide)
