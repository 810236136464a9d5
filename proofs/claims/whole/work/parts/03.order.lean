def od_A (E : Nat → Int32) (a : Nat) : Int32 := E a &&& (dq_M E a ^^^ (-1))
def od_l (A : Nat → Int32) (w : Int32) : Nat → Int32
  | 0 => 0
  | a + 1 => if bt w a = true then od_l A w a ||| A a else od_l A w a
def od_F (A : Nat → Int32) (w : Int32) : Int32 := w &&& (od_l A w 6 ^^^ (-1))
def od_g (x : Int32) : Nat → Nat → Nat
  | 0, j => j
  | d + 1, j => if bt x j = true then j else od_g x d (j + 1)
def od_n (x : Int32) : Nat := od_g x 6 0
def od_v (n : Nat) : Int32 := if n < 6 then nI n else -1
def od_u (A : Nat → Int32) (w : Int32) : Int32 := if od_n (od_F A w) < 6 then w &&& (bq_i (od_n (od_F A w)) ^^^ (-1)) else w
def od_w (A : Nat → Int32) (L : Int32) : Nat → Int32
  | 0 => L
  | k + 1 => od_u A (od_w A L k)
theorem od_lt {A : Nat → Int32} {w : Int32} {i : Nat} : ∀ n, bt (od_l A w n) i = true ↔ ∃ a, a < n ∧ bt w a = true ∧ bt (A a) i = true := by
  intro n
  induction n with
  | zero => show bt 0 i = true ↔ _; rw [b_0]; exact ⟨fun z => absurd z (by decide), fun ⟨a, z, _⟩ => absurd z (by omega)⟩
  | succ n ih =>
    unfold od_l
    by_cases h : bt w n = true
    · rw [if_pos h, b_or, Bool.or_eq_true, ih]
      constructor
      · rintro (⟨a, h1, h2, h3⟩ | h3)
        · exact ⟨a, by omega, h2, h3⟩
        · exact ⟨n, by omega, h, h3⟩
      · rintro ⟨a, h1, h2, h3⟩
        by_cases e : a = n
        · subst e; exact Or.inr h3
        · exact Or.inl ⟨a, by omega, h2, h3⟩
    · rw [if_neg h, ih]
      constructor
      · rintro ⟨a, h1, h2, h3⟩; exact ⟨a, by omega, h2, h3⟩
      · rintro ⟨a, h1, h2, h3⟩
        by_cases e : a = n
        · subst e; exact absurd h2 h
        · exact ⟨a, by omega, h2, h3⟩
theorem od_gs {x : Int32} : ∀ d j, j + d = 6 → j ≤ od_g x d j ∧ od_g x d j ≤ 6 ∧ (od_g x d j < 6 → bt x (od_g x d j) = true) ∧ (∀ i, j ≤ i → i < od_g x d j → bt x i = false) := by
  intro d
  induction d with
  | zero => intro j hj; unfold od_g; exact ⟨by omega, by omega, fun _ => by omega, fun i _ _ => by omega⟩
  | succ d ih =>
    intro j hj
    unfold od_g
    by_cases h : bt x j = true
    · rw [if_pos h]
      exact ⟨by omega, by omega, fun _ => h, fun i _ _ => by omega⟩
    · rw [if_neg h]
      obtain ⟨a, b, c, e⟩ := ih (j + 1) (by omega)
      refine ⟨by omega, b, c, fun i h1 h2 => ?_⟩
      by_cases z : i = j
      · subst z; exact bq_nt h
      · exact e i (by omega) h2
theorem od_n6 (x : Int32) : od_n x ≤ 6 := (od_gs 6 0 rfl).2.1
theorem od_nt {x : Int32} (h : od_n x < 6) : bt x (od_n x) = true := (od_gs 6 0 rfl).2.2.1 h
theorem od_nf {x : Int32} {i : Nat} (h : i < od_n x) : bt x i = false := (od_gs 6 0 rfl).2.2.2 i (by omega) h
theorem od_Fb {A : Nat → Int32} {w : Int32} {b : Nat} (h : bt (od_F A w) b = true) : bt w b = true ∧ ∀ a, a < 6 → bt w a = true → bt (A a) b = false := by
  unfold od_F at h
  rw [bq_an, Bool.and_eq_true, Bool.not_eq_true'] at h
  refine ⟨h.1, fun a ha hw => bq_nt fun e => ?_⟩
  have := (od_lt (A := A) (w := w) (i := b) 6).mpr ⟨a, ha, hw, e⟩
  rw [h.2] at this; exact absurd this (by decide)
theorem od_Fm {A : Nat → Int32} {w : Int32} {b : Nat} (h : bt w b = true) (h2 : ∀ a, a < 6 → bt w a = true → bt (A a) b = false) : bt (od_F A w) b = true := by
  unfold od_F
  rw [bq_an, Bool.and_eq_true, Bool.not_eq_true']
  refine ⟨h, bq_nt fun e => ?_⟩
  obtain ⟨a, ha, hw, z⟩ := (od_lt (A := A) (w := w) (i := b) 6).mp e
  rw [h2 a ha hw] at z; exact absurd z (by decide)
/-- where orderBlocks stands behind k places -/
def od_I (L : Int32) (A : Nat → Int32) (k : Nat) (w : Int32) (bA pO : Nat → Int32) : Prop :=
  w = od_w A L k ∧ (∀ i, bt w i = true → bt L i = true) ∧ (od_n (od_F A w) = 6 ∨ cn_t w + k ≤ 6) ∧
  (∀ b, bt L b = true → bt w b = false → ∃ p, p < k ∧ pO b = nI p ∧ bA p = nI b ∧ ∀ a, bt L a = true → bt (A a) b = true → (bt w a = false ∧ ∃ q, q < p ∧ pO a = nI q)) ∧
  (1 ≤ k → bt w 0 = false ∧ pO 0 = nI 0)
section
variable {L : Int32} {A : Nat → Int32} (hL : bq_s L) (h0 : bt L 0 = true) (hA0 : ∀ a, bt L a = true → bt (A a) 0 = false)
theorem od_I0 {bA pO : Nat → Int32} : od_I L A 0 L bA pO :=
  ⟨rfl, fun _ h => h, Or.inr (by have := cn_6 L; omega), fun b h1 h2 => absurd h1 (by rw [h2]; decide), fun h => absurd h (by omega)⟩
theorem od_I6 {k : Nat} {w : Int32} {bA pO : Nat → Int32} (I : od_I L A k w bA pO) (h : ¬ od_n (od_F A w) < 6) (h0 : bt L 0 = true) (hA0 : ∀ a, bt L a = true → bt (A a) 0 = false) : od_I L A (k + 1) w bA pO := by
  obtain ⟨e, h1, h2, h3, h4⟩ := I
  refine ⟨?_, h1, Or.inl (by have := od_n6 (od_F A w); omega), ?_, ?_⟩
  · show w = od_u A (od_w A L k)
    rw [← e]; unfold od_u; rw [if_neg h]
  · intro b hb hw
    obtain ⟨p, a1, a2⟩ := h3 b hb hw
    exact ⟨p, by omega, a2⟩
  · intro _
    rcases Nat.eq_zero_or_pos k with rfl | hk
    · exfalso
      apply h
      have ew : w = L := e
      subst ew
      have : bt (od_F A w) 0 = true := od_Fm h0 (fun a _ ha => hA0 a ha)
      rcases Nat.eq_zero_or_pos (od_n (od_F A w)) with z | z
      · omega
      · rw [od_nf z] at this; exact absurd this (by decide)
    · exact h4 hk
theorem od_IS {k : Nat} (hk : k < 6) {w : Int32} {bA pO : Nat → Int32} (I : od_I L A k w bA pO) (h : od_n (od_F A w) < 6) (hL : bq_s L) (h0 : bt L 0 = true) (hA0 : ∀ a, bt L a = true → bt (A a) 0 = false) :
    od_I L A (k + 1) (w &&& (bq_i (od_n (od_F A w)) ^^^ (-1))) (upd bA k (nI (od_n (od_F A w)))) (upd pO (od_n (od_F A w)) (nI k)) := by
  obtain ⟨e, h1, h2, h3, h4⟩ := I
  obtain ⟨f1, f2⟩ := od_Fb (od_nt h)
  have hz : k = 0 → od_n (od_F A w) = 0 := by
    rintro rfl
    have ew : w = L := e
    subst ew
    have : bt (od_F A w) 0 = true := od_Fm h0 (fun a _ ha => hA0 a ha)
    rcases Nat.eq_zero_or_pos (od_n (od_F A w)) with z | z
    · exact z
    · rw [od_nf z] at this; exact absurd this (by decide)
  have eu : w &&& (bq_i (od_n (od_F A w)) ^^^ (-1)) = od_u A w := by unfold od_u; rw [if_pos h]
  generalize od_n (od_F A w) = n at h f1 f2 hz eu h2
  have wb : ∀ i, bt (w &&& (bq_i n ^^^ (-1))) i = (bt w i && !decide (i = n)) := by intro i; rw [bq_an, bq_t (by omega)]
  have wn : bt (w &&& (bq_i n ^^^ (-1))) n = false := by rw [wb, decide_eq_true rfl]; cases bt w n <;> rfl
  have wi : ∀ i, i ≠ n → bt (w &&& (bq_i n ^^^ (-1))) i = bt w i := by intro i hi; rw [wb, decide_eq_false hi]; cases bt w i <;> rfl
  have wf : ∀ i, bt w i = false → bt (w &&& (bq_i n ^^^ (-1))) i = false := by intro i hi; rw [wb, hi]; rfl
  have wt : ∀ i, bt (w &&& (bq_i n ^^^ (-1))) i = true → bt w i = true := by
    intro i hi
    cases z : bt w i
    · rw [wf i z] at hi; exact absurd hi (by decide)
    · rfl
  refine ⟨?_, fun i hi => h1 i (wt i hi), Or.inr ?_, ?_, ?_⟩
  · show _ = od_u A (od_w A L k)
    rw [← e]; exact eu
  · have := cn_lt wt h f1 wn
    rcases h2 with z | z <;> omega
  · intro b hb hw
    by_cases ebn : b = n
    · subst ebn
      refine ⟨k, by omega, pk_us, pk_us, fun a ha hab => ?_⟩
      have haw : bt w a = false := bq_nt fun z => by
        have := f2 a (hL a ha) z
        rw [hab] at this; exact absurd this (by decide)
      refine ⟨wf a haw, ?_⟩
      obtain ⟨p, p1, p2, _⟩ := h3 a ha haw
      refine ⟨p, p1, ?_⟩
      rw [pk_un (fun z => by rw [z, f1] at haw; exact absurd haw (by decide))]
      exact p2
    · rw [wi b ebn] at hw
      obtain ⟨p, p1, p2, p3, p4⟩ := h3 b hb hw
      refine ⟨p, by omega, by rw [pk_un ebn]; exact p2, by rw [pk_un (by omega)]; exact p3, fun a ha hab => ?_⟩
      obtain ⟨q1, q, q2, q3⟩ := p4 a ha hab
      refine ⟨wf a q1, q, q2, ?_⟩
      rw [pk_un (fun z => by rw [z, f1] at q1; exact absurd q1 (by decide))]
      exact q3
  · intro _
    rcases Nat.eq_zero_or_pos k with rfl | hk0
    · have := hz rfl
      subst this
      exact ⟨wn, pk_us⟩
    · obtain ⟨a, b⟩ := h4 hk0
      refine ⟨wf 0 a, ?_⟩
      rw [pk_un (fun z => by rw [z, f1] at a; exact absurd a (by decide))]
      exact b
end
/-! rings -/
def rg_S (E : Nat → Int32) (i j : Nat) : Prop := dq_L E i ∧ bt (E i) j = true ∧ ¬ dq_D E j i
def rg_c (E : Nat → Int32) (s : Int32) (c : Nat) : Prop := bt s (c / 6) = true ∧ (bt (E (c / 6)) (c % 6) = true ∧ ¬ dq_M E (c / 6) = 0) ∧ bt (dq_M E (c / 6)) (c % 6) = false
noncomputable def rg_o (E : Nat → Int32) (s : Int32) : Nat → Int32
  | 0 => 0
  | c + 1 => @ite _ (rg_c E s c) (Classical.propDecidable _) (rg_o E s c ||| bq_i (c % 6)) (rg_o E s c)
noncomputable def rg_f (E : Nat → Int32) (s : Int32) : Int32 := s ||| rg_o E s 36
noncomputable def rg_t (E : Nat → Int32) (b : Nat) : Nat → Int32
  | 0 => rg_o E (bq_i b) 36
  | k + 1 => rg_f E (rg_t E b k)
noncomputable def rg_R (E : Nat → Int32) : Nat → Bool
  | 0 => false
  | b + 1 => rg_R E b || bt (rg_t E b 6) b
theorem rg_ot {E : Nat → Int32} {s : Int32} {j : Nat} : ∀ n, bt (rg_o E s n) j = true ↔ ∃ c, c < n ∧ c % 6 = j ∧ rg_c E s c := by
  intro n
  induction n with
  | zero => show bt 0 j = true ↔ _; rw [b_0]; exact ⟨fun z => absurd z (by decide), fun ⟨a, z, _⟩ => absurd z (by omega)⟩
  | succ n ih =>
    unfold rg_o
    by_cases h : rg_c E s n
    · rw [if_pos h, b_or, Bool.or_eq_true, ih, bq_t (by omega), decide_eq_true_eq]
      constructor
      · rintro (⟨a, h1, h2, h3⟩ | h3)
        · exact ⟨a, by omega, h2, h3⟩
        · exact ⟨n, by omega, h3.symm, h⟩
      · rintro ⟨a, h1, h2, h3⟩
        by_cases e : a = n
        · subst e; exact Or.inr h2.symm
        · exact Or.inl ⟨a, by omega, h2, h3⟩
    · rw [if_neg h, ih]
      constructor
      · rintro ⟨a, h1, h2, h3⟩; exact ⟨a, by omega, h2, h3⟩
      · rintro ⟨a, h1, h2, h3⟩
        by_cases e : a = n
        · subst e; exact absurd h3 h
        · exact ⟨a, by omega, h2, h3⟩
theorem rg_nD {E : Nat → Int32} {i j : Nat} (hj : j < 6) : bt (dq_M E i) j = false ↔ ¬ dq_D E j i := by
  constructor
  · intro h z
    have := dq_Mt.mpr ⟨hj, z⟩
    rw [h] at this; exact absurd this (by decide)
  · intro h
    exact bq_nt fun z => h (dq_Mt.mp z).2
section
variable {E : Nat → Int32} (hE : cl_G E)
theorem rg_o36 {s : Int32} {j : Nat} (hE : cl_G E) : bt (rg_o E s 36) j = true ↔ ∃ i, i < 6 ∧ bt s i = true ∧ rg_S E i j := by
  rw [rg_ot]
  constructor
  · rintro ⟨c, hc, rfl, h1, ⟨h2, h3⟩, h4⟩
    have hi : c / 6 < 6 := by omega
    exact ⟨c / 6, hi, h1, (dq_M0 hE hi).mp h3, h2, (rg_nD (by omega)).mp h4⟩
  · rintro ⟨i, hi, h1, h2, h3, h4⟩
    have hj := (hE i hi j h3).1
    have e1 : (6 * i + j) / 6 = i := by omega
    have e2 : (6 * i + j) % 6 = j := by omega
    refine ⟨6 * i + j, by omega, e2, ?_⟩
    unfold rg_c
    rw [e1, e2]
    exact ⟨h1, ⟨h3, (dq_M0 hE hi).mpr h2⟩, (rg_nD hj).mpr h4⟩
theorem rg_os (hE : cl_G E) {s : Int32} : bq_s (rg_o E s 36) := by
  intro j h
  obtain ⟨i, hi, _, _, h3, _⟩ := (rg_o36 hE).mp h
  exact (hE i hi j h3).1
theorem rg_fs (hE : cl_G E) {s : Int32} (h : bq_s s) : bq_s (rg_f E s) := by
  intro j hj
  unfold rg_f at hj
  rw [b_or, Bool.or_eq_true] at hj
  exact hj.elim (h j) (rg_os hE j)
theorem rg_tc (hE : cl_G E) {b i j : Nat} (h : bt (rg_t E b 6) i = true) (hi : i < 6) (hS : rg_S E i j) : bt (rg_t E b 6) j = true := by
  have fx : rg_f E (rg_t E b 6) = rg_t E b 6 :=
    fx_p (rg_f E) (fun x i h => by unfold rg_f; rw [b_or, h]; rfl) (fun x hx => rg_fs hE hx) (rg_t E b) (rg_os hE) (fun k => rfl)
  rw [← fx]
  unfold rg_f
  rw [b_or, (rg_o36 hE).mpr ⟨i, hi, h, hS⟩]
  cases bt (rg_t E b 6) j <;> rfl
theorem rg_t1 (hE : cl_G E) {b j : Nat} (hb : b < 6) (hS : rg_S E b j) : ∀ k, bt (rg_t E b k) j = true := by
  intro k
  induction k with
  | zero => exact (rg_o36 hE).mpr ⟨b, hb, dq_bs hb, hS⟩
  | succ k ih => show bt (rg_f E _) j = true; unfold rg_f; rw [b_or, ih]; rfl
theorem rg_tl (hE : cl_G E) {b : Nat} (hb : b < 6) {S : Nat → Prop} (h1 : ∀ j, rg_S E b j → S j) (h2 : ∀ i j, S i → rg_S E i j → S j) : ∀ k j, bt (rg_t E b k) j = true → S j := by
  intro k
  induction k with
  | zero =>
    intro j h
    obtain ⟨i, hi, hs, h3⟩ := (rg_o36 hE).mp h
    rw [bq_t (by omega), decide_eq_true_eq] at hs
    subst hs
    exact h1 j h3
  | succ k ih =>
    intro j h
    have h : bt (rg_f E (rg_t E b k)) j = true := h
    unfold rg_f at h
    rw [b_or, Bool.or_eq_true] at h
    rcases h with h | h
    · exact ih j h
    · obtain ⟨i, hi, hs, h3⟩ := (rg_o36 hE).mp h
      exact h2 i j (ih i hs) h3
theorem rg_ts (hE : cl_G E) {b : Nat} (hb : b < 6) : bq_s (rg_t E b 6) :=
  rg_tl hE hb (S := fun j => j < 6) (fun j h => (hE b hb j h.2.1).1) (fun i j hi h => (hE i hi j h.2.1).1) 6
/-- a set of blocks each of which has a step into it from the set holds a ring -/
theorem rg_up (hE : cl_G E) {w : Int32} (hw : bq_s w) (h : ∀ b, bt w b = true → ∃ a, bt w a = true ∧ rg_S E a b) (hn : ∀ b, b < 6 → bt (rg_t E b 6) b = false) {b0 : Nat} (hb0 : bt w b0 = true) : ∀ n, ∃ b, bt w b = true ∧ n ≤ cn_t (rg_t E b 6) := by
  intro n
  induction n with
  | zero => exact ⟨b0, hb0, by omega⟩
  | succ n ih =>
    obtain ⟨b, hb, hc⟩ := ih
    obtain ⟨a, ha, hS⟩ := h b hb
    refine ⟨a, ha, ?_⟩
    have hba : bt (rg_t E a 6) b = true := rg_t1 hE (hw a ha) hS 6
    have hsub : ∀ j, bt (rg_t E b 6) j = true → bt (rg_t E a 6) j = true :=
      rg_tl hE (hw b hb) (S := fun j => bt (rg_t E a 6) j = true) (fun j hj => rg_tc hE hba (hw b hb) hj) (fun i j hi hj => rg_tc hE hi (rg_ts hE (hw a ha) i hi) hj) 6
    have := cn_lt hsub (hw b hb) hba (hn b (hw b hb))
    omega
end
theorem rg_Rf {E : Nat → Int32} : ∀ n, rg_R E n = false ↔ ∀ b, b < n → bt (rg_t E b 6) b = false := by
  intro n
  induction n with
  | zero => exact ⟨fun _ b hb => absurd hb (by omega), fun _ => rfl⟩
  | succ n ih =>
    unfold rg_R
    rw [Bool.or_eq_false_iff, ih]
    constructor
    · rintro ⟨h1, h2⟩ b hb
      by_cases e : b = n
      · subst e; exact h2
      · exact h1 b (by omega)
    · intro h
      exact ⟨fun b hb => h b (by omega), h n (by omega)⟩
theorem od_At {E : Nat → Int32} (hE : cl_G E) {a b : Nat} (ha : dq_L E a) : bt (od_A E a) b = true ↔ rg_S E a b := by
  unfold od_A
  rw [bq_an, Bool.and_eq_true, Bool.not_eq_true']
  constructor
  · rintro ⟨h1, h2⟩
    exact ⟨ha, h1, (rg_nD (hE a (dq_L6 hE ha) b h1).1).mp h2⟩
  · rintro ⟨_, h1, h2⟩
    exact ⟨h1, (rg_nD (hE a (dq_L6 hE ha) b h1).1).mpr h2⟩
/-- what a regular program's order is -/
def od_O (E : Nat → Int32) (bA pO : Nat → Int32) : Prop :=
  pO 0 = nI 0 ∧ ∀ b, dq_L E b → ∃ p, p < 6 ∧ pO b = nI p ∧ bA p = nI b ∧ ∀ a, rg_S E a b → ∃ q, q < p ∧ pO a = nI q
section
variable {E A : Nat → Int32} (hE : cl_G E) (hA : ∀ a, a < 6 → A a = od_A E a)
theorem od_A0 (hE : cl_G E) (hA : ∀ a, a < 6 → A a = od_A E a) : ∀ a, bt (cl_r E 0) a = true → bt (A a) 0 = false := by
  intro a ha
  rw [hA a (dq_L6 hE ha)]
  exact bq_nt fun z => ((od_At hE ha).mp z).2.2 (dq_0 ha)
theorem od_yes (hE : cl_G E) (hA : ∀ a, a < 6 → A a = od_A E a) {w : Int32} {bA pO : Nat → Int32} (I : od_I (cl_r E 0) A 6 w bA pO) (h : w = 0) : od_O E bA pO := by
  obtain ⟨_, _, _, h3, h4⟩ := I
  refine ⟨(h4 (by omega)).2, fun b hb => ?_⟩
  obtain ⟨p, p1, p2, p3, p4⟩ := h3 b hb (by rw [h, b_0])
  refine ⟨p, p1, p2, p3, fun a hS => ?_⟩
  exact (p4 a hS.1 (by rw [hA a (dq_L6 hE hS.1)]; exact (od_At hE hS.1).mpr hS)).2
theorem od_nr (hE : cl_G E) {bA pO : Nat → Int32} (O : od_O E bA pO) : rg_R E 6 = false := by
  rw [rg_Rf]
  intro b hb
  apply bq_nt
  intro h
  have key := rg_tl hE hb (S := fun j => dq_L E b ∧ dq_L E j ∧ ∃ p q, p < q ∧ q < 6 ∧ pO b = nI p ∧ pO j = nI q) ?_ ?_ 6 b h
  · obtain ⟨_, _, p, q, h1, h2, h3, h4⟩ := key
    have := (nI_eq (a := p) (b := q) (by omega) (by omega)).mp (h3.symm.trans h4)
    omega
  · intro j hS
    have hj := dq_Lc hE hS.1 hS.2.1
    obtain ⟨q, q1, q2, _, q4⟩ := O.2 j hj
    obtain ⟨p, p1, p2⟩ := q4 b hS
    exact ⟨hS.1, hj, p, q, p1, q1, p2, q2⟩
  · rintro i j ⟨hLb, hLi, p, q, h1, h2, h3, h4⟩ hS
    have hj := dq_Lc hE hS.1 hS.2.1
    obtain ⟨q', q1, q2, _, q4⟩ := O.2 j hj
    obtain ⟨p', p1, p2⟩ := q4 i hS
    have := (nI_eq (a := q) (b := p') (by omega) (by omega)).mp (h4.symm.trans p2)
    exact ⟨hLb, hj, p, q', by omega, q1, h3, q2⟩
theorem od_no (hE : cl_G E) (hA : ∀ a, a < 6 → A a = od_A E a) {w : Int32} {bA pO : Nat → Int32} (I : od_I (cl_r E 0) A 6 w bA pO) (h : ¬ w = 0) : rg_R E 6 = true := by
  obtain ⟨_, h1, h2, _, _⟩ := I
  have hw : bq_s w := fun i hi => cl_r_s hE i (h1 i hi)
  obtain ⟨b0, hb0, hb1⟩ := bq_nz hw h
  have hst : od_n (od_F A w) = 6 := by
    rcases h2 with z | z
    · exact z
    · have := cn_lt (x := 0) (y := w) (j := b0) (fun i hi => absurd hi (by rw [b_0]; decide)) hb0 hb1 (b_0 _)
      omega
  have hpre : ∀ b, bt w b = true → ∃ a, bt w a = true ∧ rg_S E a b := by
    intro b hb
    apply Classical.byContradiction
    intro hn
    have : bt (od_F A w) b = true := by
      apply od_Fm hb
      intro a ha haw
      apply bq_nt
      intro z
      rw [hA a ha] at z
      exact hn ⟨a, haw, (od_At hE (h1 a haw)).mp z⟩
    have z := hw b hb
    rw [od_nf (by omega)] at this; exact absurd this (by decide)
  apply bq_nf
  intro hR
  obtain ⟨b, _, hc⟩ := rg_up hE hw hpre ((rg_Rf 6).mp hR) hb1 7
  have := cn_6 (rg_t E b 6)
  omega
end
