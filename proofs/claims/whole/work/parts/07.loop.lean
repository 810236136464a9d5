def lo_b (E : Nat → Int32) (h : Nat) : Nat → Int32
  | 0 => 0
  | u + 1 => if bt (E u &&& dq_M E u) h = true then lo_b E h u ||| bq_i u else lo_b E h u
def lo_s (E : Nat → Int32) (oth : Int32) (b : Nat) (body : Int32) : Int32 := if bt oth b = true ∧ ¬ (E b &&& body) = 0 then body ||| bq_i b else body
def lo_i (E : Nat → Int32) (oth : Int32) : Nat → Int32 → Int32
  | 0, r => r
  | b + 1, r => lo_s E oth b (lo_i E oth b r)
def lo_o (E : Nat → Int32) (oth : Int32) (r : Int32) : Nat → Int32
  | 0 => r
  | k + 1 => lo_i E oth 6 (lo_o E oth r k)
/-- the loop of block h, as X reckons it -/
def lo_v (E : Nat → Int32) (h : Nat) : Int32 :=
  if lo_b E h 6 = 0 then 0 else lo_o E (cl_r E 0 &&& (bq_i h ^^^ (-1))) (lo_b E h 6) 6 ||| bq_i h
def lr_b (E : Nat → Int32) (h : Nat) : Nat → Int32
  | 0 => 0
  | u + 1 => if (bt (E u) h = true ∧ ¬ dq_M E u = 0) ∧ bt (dq_M E u) h = true then (lr_b E h u ||| bq_i u) ||| bq_i h else lr_b E h u
def lr_s (E : Nat → Int32) (h a : Nat) (set : Int32) : Int32 := if ¬ dq_M E a = 0 ∧ a ≠ h ∧ ¬ ((E a &&& set) &&& (bq_i h ^^^ (-1))) = 0 then set ||| bq_i a else set
def lr_i (E : Nat → Int32) (h : Nat) : Nat → Int32 → Int32
  | 0, r => r
  | a + 1, r => lr_s E h a (lr_i E h a r)
def lr_o (E : Nat → Int32) (h : Nat) (r : Int32) : Nat → Int32
  | 0 => r
  | k + 1 => lr_i E h 6 (lr_o E h r k)
def lr_R (h : Nat) (body set : Int32) : Prop := (body = 0 ∧ set = 0) ∨ (¬ body = 0 ∧ bt body h = false ∧ set = body ||| bq_i h)
theorem lo_nz {x : Int32} {i : Nat} (h : bt x i = true) : ¬ x = 0 := fun z => by rw [z, b_0] at h; exact absurd h (by decide)
theorem lo_or {x : Int32} {u : Nat} (hu : u < 6) : ¬ (x ||| bq_i u) = 0 := lo_nz (i := u) (by rw [b_or, dq_bs hu]; cases bt x u <;> rfl)
section
variable {E : Nat → Int32} {h : Nat}
theorem lo_R0 (hE : cl_G E) (hh : h < 6) : ∀ n, n ≤ 6 → lr_R h (lo_b E h n) (lr_b E h n) := by
  intro n
  induction n with
  | zero => intro _; exact Or.inl ⟨rfl, rfl⟩
  | succ u ih =>
    intro hu
    have ih := ih (by omega)
    unfold lo_b lr_b
    by_cases c : bt (E u &&& dq_M E u) h = true
    · have c2 := c
      rw [b_and, Bool.and_eq_true] at c2
      have c3 : (bt (E u) h = true ∧ ¬ dq_M E u = 0) ∧ bt (dq_M E u) h = true := ⟨⟨c2.1, lo_nz c2.2⟩, c2.2⟩
      rw [if_pos c, if_pos c3]
      have hne : h ≠ u := (hE u (by omega) h c2.1).2
      right
      refine ⟨lo_or (by omega), ?_, ?_⟩
      · rw [b_or, dq_bi (by omega) hne]
        rcases ih with ⟨e, _⟩ | ⟨_, e, _⟩
        · rw [e, b_0]; rfl
        · rw [e]; rfl
      · rcases ih with ⟨e, e2⟩ | ⟨_, _, e⟩
        · rw [e, e2]
        · rw [e]
          apply b_ext
          intro i _
          simp only [b_or]
          cases bt (lo_b E h u) i <;> cases bt (bq_i h) i <;> cases bt (bq_i u) i <;> rfl
    · rw [if_neg c, if_neg (fun z => c (by rw [b_and, z.1.1, z.2]; rfl))]
      exact ih
theorem lo_Rs (hE : cl_G E) (hh : h < 6) {b : Nat} (hb : b < 6) {body set : Int32} (R : lr_R h body set) : lr_R h (lo_s E (cl_r E 0 &&& (bq_i h ^^^ (-1))) b body) (lr_s E h b set) := by
  unfold lo_s lr_s
  rcases R with ⟨rfl, rfl⟩ | ⟨h1, h2, rfl⟩
  · have z1 : E b &&& 0 = 0 := b_ext fun i _ => by rw [b_and, b_0]; cases bt (E b) i <;> rfl
    have z2 : (0 : Int32) &&& (bq_i h ^^^ (-1)) = 0 := b_ext fun i _ => by rw [b_and, b_0]; rfl
    rw [if_neg (fun z => z.2 z1), if_neg (fun z => z.2.2 (by rw [z1, z2]))]
    exact Or.inl ⟨rfl, rfl⟩
  · have e : (E b &&& (body ||| bq_i h)) &&& (bq_i h ^^^ (-1)) = E b &&& body := by
      apply b_ext
      intro i _
      rw [bq_an, b_and, b_or, b_and]
      by_cases z : i = h
      · subst z; rw [h2]; cases bt (E b) i <;> cases bt (bq_i i) i <;> rfl
      · rw [dq_bi hh z]; cases bt (E b) i <;> cases bt body i <;> rfl
    have e2 : bt (cl_r E 0 &&& (bq_i h ^^^ (-1))) b = true ↔ (¬ dq_M E b = 0 ∧ b ≠ h) := by
      rw [bq_an, Bool.and_eq_true, Bool.not_eq_true', bq_t (by omega), decide_eq_false_iff_not, dq_M0 hE hb]
      exact Iff.rfl
    by_cases c : bt (cl_r E 0 &&& (bq_i h ^^^ (-1))) b = true ∧ ¬ (E b &&& body) = 0
    · have c2 : ¬ dq_M E b = 0 ∧ b ≠ h ∧ ¬ ((E b &&& (body ||| bq_i h)) &&& (bq_i h ^^^ (-1))) = 0 := ⟨(e2.mp c.1).1, (e2.mp c.1).2, by rw [e]; exact c.2⟩
      rw [if_pos c, if_pos c2]
      right
      refine ⟨lo_or hb, ?_, ?_⟩
      · rw [b_or, h2, dq_bi hb (fun z => c2.2.1 z.symm)]; rfl
      · apply b_ext
        intro i _
        simp only [b_or]
        cases bt body i <;> cases bt (bq_i h) i <;> cases bt (bq_i b) i <;> rfl
    · rw [if_neg c, if_neg (fun z => c ⟨e2.mpr ⟨z.1, z.2.1⟩, by rw [← e]; exact z.2.2⟩)]
      exact Or.inr ⟨h1, h2, rfl⟩
theorem lo_Ri (hE : cl_G E) (hh : h < 6) {body set : Int32} (R : lr_R h body set) : ∀ n, n ≤ 6 → lr_R h (lo_i E (cl_r E 0 &&& (bq_i h ^^^ (-1))) n body) (lr_i E h n set) := by
  intro n
  induction n with
  | zero => intro _; exact R
  | succ n ih => intro hn; exact lo_Rs hE hh (by omega) (ih (by omega))
theorem lo_Ro (hE : cl_G E) (hh : h < 6) {body set : Int32} (R : lr_R h body set) : ∀ k, lr_R h (lo_o E (cl_r E 0 &&& (bq_i h ^^^ (-1))) body k) (lr_o E h set k) := by
  intro k
  induction k with
  | zero => exact R
  | succ k ih => exact lo_Ri hE hh ih 6 (by omega)
theorem lr_0i (hE : cl_G E) (hh : h < 6) : ∀ n, n ≤ 6 → lr_i E h n 0 = 0 := by
  intro n
  induction n with
  | zero => intro _; rfl
  | succ n ih =>
    intro hn
    show lr_s E h n (lr_i E h n 0) = 0
    rw [ih (by omega)]
    unfold lr_s
    have z1 : E n &&& 0 = 0 := b_ext fun i _ => by rw [b_and, b_0]; cases bt (E n) i <;> rfl
    have z2 : (0 : Int32) &&& (bq_i h ^^^ (-1)) = 0 := b_ext fun i _ => by rw [b_and, b_0]; rfl
    exact if_neg (fun z => z.2.2 (by rw [z1, z2]))
theorem lr_0o (hE : cl_G E) (hh : h < 6) : ∀ k, lr_o E h 0 k = 0 := by
  intro k
  induction k with
  | zero => rfl
  | succ k ih => show lr_i E h 6 (lr_o E h 0 k) = 0; rw [ih]; exact lr_0i hE hh 6 (by omega)
/-- the loop, as Y reckons it -/
theorem lo_eq (hE : cl_G E) (hh : h < 6) : lr_o E h (lr_b E h 6) 6 = lo_v E h := by
  have R0 := lo_R0 hE hh 6 (by omega)
  unfold lo_v
  by_cases c : lo_b E h 6 = 0
  · rw [if_pos c]
    rcases R0 with ⟨_, e⟩ | ⟨e, _⟩
    · rw [e]; exact lr_0o hE hh 6
    · exact absurd c e
  · rw [if_neg c]
    have up : ∀ k, ¬ lo_o E (cl_r E 0 &&& (bq_i h ^^^ (-1))) (lo_b E h 6) k = 0 := by
      obtain ⟨i, hi⟩ : ∃ i, bt (lo_b E h 6) i = true := by
        apply Classical.byContradiction
        intro hn
        exact c (bq_z.mpr fun i => bq_nt fun z => hn ⟨i, z⟩)
      have us : ∀ o b r, bt r i = true → bt (lo_s E o b r) i = true := by
        intro o b r hr
        unfold lo_s
        by_cases z : bt o b = true ∧ ¬ (E b &&& r) = 0
        · rw [if_pos z, b_or, hr]; rfl
        · rw [if_neg z]; exact hr
      have ui : ∀ o n r, bt r i = true → bt (lo_i E o n r) i = true := by
        intro o n r hr
        induction n with
        | zero => exact hr
        | succ n ih => exact us o n _ ih
      intro k
      apply lo_nz (i := i)
      induction k with
      | zero => exact hi
      | succ k ih => exact ui _ 6 _ ih
    rcases lo_Ro hE hh R0 6 with ⟨e, _⟩ | ⟨_, _, e⟩
    · exact absurd e (up 6)
    · exact e
end
