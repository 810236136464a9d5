def wk_p : Nat → Nat
  | 0 => 1024
  | 1 => 256
  | 2 => 64
  | 3 => 16
  | 4 => 4
  | _ => 1
def wk_d (x p : Nat) : Nat := x / wk_p p % 4
def wk_n (x p : Nat) : Nat := (x / wk_p p + 1) * wk_p p
def wk_t : Nat → Nat
  | 0 => 1
  | 1 => 3
  | 2 => 9
  | 3 => 27
  | 4 => 81
  | _ => 243
def wk_c (s b : Nat) : Nat := s / 6 / wk_t b % 3
def wk_g (s b t : Nat) : Nat := 6 * (s / 6 - wk_c s b * wk_t b + t * wk_t b) + b
theorem wk_6 {p : Nat} (h : p < 6) : p = 0 ∨ p = 1 ∨ p = 2 ∨ p = 3 ∨ p = 4 ∨ p = 5 := by omega
theorem wk_nd {x p : Nat} (hp : p < 6) (hx : x < 4096) (hd : wk_d x p < 3) : wk_d (wk_n x p) p = wk_d x p + 1 := by
  revert hd
  unfold wk_d wk_n
  rcases wk_6 hp with rfl | rfl | rfl | rfl | rfl | rfl <;> simp only [wk_p] <;> omega
theorem wk_nl {x p q : Nat} (hp : p < 6) (hx : x < 4096) (hd : wk_d x p < 3) (hq : q < p) : wk_d (wk_n x p) q = wk_d x q := by
  revert hd
  unfold wk_d wk_n
  have hq6 : q < 6 := by omega
  rcases wk_6 hp with rfl | rfl | rfl | rfl | rfl | rfl <;> rcases wk_6 hq6 with rfl | rfl | rfl | rfl | rfl | rfl <;> simp only [wk_p] <;> omega
theorem wk_nh {x p q : Nat} (hq : q < 6) (hpq : p < q) : wk_d (wk_n x p) q = 0 := by
  unfold wk_d wk_n
  have hp : p < 6 := by omega
  rcases wk_6 hp with rfl | rfl | rfl | rfl | rfl | rfl <;> rcases wk_6 hq with rfl | rfl | rfl | rfl | rfl | rfl <;> simp only [wk_p] <;> omega
theorem wk_nx {x p : Nat} (hp : p < 6) : x < wk_n x p := by
  unfold wk_n
  rcases wk_6 hp with rfl | rfl | rfl | rfl | rfl | rfl <;> simp only [wk_p] <;> omega
theorem wk_n4 {x p : Nat} (hp : p < 6) (hx : x < 4096) (hd : wk_d x p < 3) : wk_n x p < 4096 := by
  revert hd
  unfold wk_n wk_d
  rcases wk_6 hp with rfl | rfl | rfl | rfl | rfl | rfl <;> simp only [wk_p] <;> omega
theorem wk_gm {s b t : Nat} (hb : b < 6) : wk_g s b t % 6 = b := by unfold wk_g; omega
theorem wk_gd {s b t : Nat} (hb : b < 6) : wk_g s b t / 6 = s / 6 - wk_c s b * wk_t b + t * wk_t b := by unfold wk_g; omega
theorem wk_cs {c b t : Nat} (hb : b < 6) (ht : t < 3) : (c - c / wk_t b % 3 * wk_t b + t * wk_t b) / wk_t b % 3 = t := by
  rcases wk_6 hb with rfl | rfl | rfl | rfl | rfl | rfl <;> simp only [wk_t] <;> omega
theorem wk_cn {c b d t : Nat} (hb : b < 6) (hd : d < 6) (hn : d ≠ b) (ht : t < 3) : (c - c / wk_t b % 3 * wk_t b + t * wk_t b) / wk_t d % 3 = c / wk_t d % 3 := by
  rcases wk_6 hb with rfl | rfl | rfl | rfl | rfl | rfl <;> rcases wk_6 hd with rfl | rfl | rfl | rfl | rfl | rfl <;> simp only [wk_t] <;> omega
theorem wk_cb {c b t : Nat} (hb : b < 6) (ht : t < 3) (hc : c < 729) : c - c / wk_t b % 3 * wk_t b + t * wk_t b < 729 := by
  rcases wk_6 hb with rfl | rfl | rfl | rfl | rfl | rfl <;> simp only [wk_t] <;> omega
theorem wk_gb {s b t : Nat} (hb : b < 6) (ht : t < 3) : wk_c (wk_g s b t) b = t := by
  show wk_g s b t / 6 / wk_t b % 3 = t
  rw [wk_gd hb]; exact wk_cs hb ht
theorem wk_go {s b d t : Nat} (hb : b < 6) (hd : d < 6) (hn : d ≠ b) (ht : t < 3) : wk_c (wk_g s b t) d = wk_c s d := by
  show wk_g s b t / 6 / wk_t d % 3 = _
  rw [wk_gd hb]; exact wk_cn hb hd hn ht
theorem wk_gl {s b t : Nat} (hb : b < 6) (ht : t < 3) (hs : s < 4374) : wk_g s b t < 4374 := by
  have := wk_cb (c := s / 6) hb ht (by omega)
  unfold wk_g wk_c
  omega
theorem wk_c3 (s b : Nat) : wk_c s b < 3 := Nat.mod_lt _ (by decide)
def wk_z (x : Nat) : Nat := if wk_d x 5 ≠ 0 then 5 else if wk_d x 4 ≠ 0 then 4 else if wk_d x 3 ≠ 0 then 3 else if wk_d x 2 ≠ 0 then 2 else if wk_d x 1 ≠ 0 then 1 else 0
theorem wk_ze {x p : Nat} (hp : p < 6) (h : wk_d x p ≠ 0) (hz : ∀ q, p < q → q < 6 → wk_d x q = 0) : wk_z x = p := by
  unfold wk_z
  by_cases h5 : p = 5
  · subst h5; rw [if_pos h]
  rw [if_neg (by rw [hz 5 (by omega) (by omega)]; decide)]
  by_cases h4 : p = 4
  · subst h4; rw [if_pos h]
  rw [if_neg (by rw [hz 4 (by omega) (by omega)]; decide)]
  by_cases h3 : p = 3
  · subst h3; rw [if_pos h]
  rw [if_neg (by rw [hz 3 (by omega) (by omega)]; decide)]
  by_cases h2 : p = 2
  · subst h2; rw [if_pos h]
  rw [if_neg (by rw [hz 2 (by omega) (by omega)]; decide)]
  by_cases h1 : p = 1
  · subst h1; rw [if_pos h]
  rw [if_neg (by rw [hz 1 (by omega) (by omega)]; decide)]
  omega
def wk_k (bA : Nat → Int32) (x : Nat) : Nat := (bA (wk_z x)).toNatClampNeg
def wk_T (E : Nat → Int32) (s b : Nat) : Nat := if bt (dq_M E (s % 6)) b = true then wk_c s b + 1 else 0
def wk_Y (E : Nat → Int32) (bd : Nat → Nat) (s b s' : Nat) : Prop := b < 6 ∧ dq_L E (s % 6) ∧ bt (E (s % 6)) b = true ∧ wk_T E s b < bd b ∧ s' = wk_g s b (wk_T E s b)
def wk_X (E : Nat → Int32) (bd : Nat → Nat) (bA : Nat → Int32) (pl : Nat → Nat) (x b x' : Nat) : Prop := b < 6 ∧ bt (E (wk_k bA x)) b = true ∧ wk_d x (pl b) + 1 ≤ bd b ∧ x' = wk_n x (pl b)
def gw_ (St : Nat → Nat → Nat → Prop) (wt : Nat → Nat) (s0 : Nat) : Nat → Nat → Nat → Prop
  | 0, s, w => s = s0 ∧ w = wt 0
  | n + 1, s', w' => ∃ s w b, gw_ St wt s0 n s w ∧ St s b s' ∧ w' = w + wt b
abbrev wk_YW (E : Nat → Int32) (bd wt : Nat → Nat) : Nat → Nat → Nat → Prop := gw_ (wk_Y E bd) wt 0
abbrev wk_XW (E : Nat → Int32) (bd wt : Nat → Nat) (bA : Nat → Int32) (pl : Nat → Nat) : Nat → Nat → Nat → Prop := gw_ (wk_X E bd bA pl) wt 1024
def wk_O (E : Nat → Int32) (bA : Nat → Int32) (pl : Nat → Nat) : Prop :=
  pl 0 = 0 ∧ (∀ b, dq_L E b → pl b < 6 ∧ bA (pl b) = nI b) ∧ (∀ a b, rg_S E a b → pl a < pl b)
def wk_J (E : Nat → Int32) (pl : Nat → Nat) (s x : Nat) : Prop :=
  s < 4374 ∧ 1024 ≤ x ∧ x < 4096 ∧ dq_L E (s % 6) ∧ (∀ d, d < 6 → dq_D E d (s % 6) → wk_d x (pl d) = wk_c s d + 1) ∧ (∀ q, pl (s % 6) < q → q < 6 → wk_d x q = 0)
section
variable {E : Nat → Int32} {bd wt : Nat → Nat} {bA : Nat → Int32} {pl : Nat → Nat}
theorem wk_inj (hE : cl_G E) (O : wk_O E bA pl) {a b : Nat} (ha : dq_L E a) (hb : dq_L E b) (h : pl a = pl b) : a = b := by
  have e := (O.2.1 a ha).2
  rw [h, (O.2.1 b hb).2] at e
  have h1 := dq_L6 hE ha
  have h2 := dq_L6 hE hb
  exact ((nI_eq (by omega) (by omega)).mp e).symm
theorem wk_le (hE : cl_G E) (O : wk_O E bA pl) : ∀ n a d, pl a = n → d < 6 → dq_D E d a → pl d ≤ pl a := by
  intro n
  induction n using Nat.strongRecOn with
  | ind n ih =>
    intro a d hn hd h
    by_cases e : a = 0
    · subst e; rw [dq_d0 hd h]; omega
    · by_cases e2 : d = a
      · subst e2; omega
      · obtain ⟨u, u1, u2, u3⟩ := dq_pr hE h.1 e
        have hlt := O.2.2 u a ⟨u1, u2, u3⟩
        have := ih (pl u) (by omega) u d rfl hd (dq_st hE u1 u2 hd h e2)
        omega
theorem wk_s1 (hE : cl_G E) (O : wk_O E bA pl) {s x b : Nat} (J : wk_J E pl s x) (he : bt (E (s % 6)) b = true) : wk_d x (pl b) = wk_T E s b := by
  obtain ⟨_, _, _, hL, h1, h2⟩ := J
  have hb := (hE (s % 6) (by omega) b he).1
  unfold wk_T
  by_cases h : bt (dq_M E (s % 6)) b = true
  · rw [if_pos h]; exact h1 b hb (dq_Mt.mp h).2
  · rw [if_neg h]
    have hS : rg_S E (s % 6) b := ⟨hL, he, (rg_nD hb).mp (bq_nt h)⟩
    exact h2 (pl b) (O.2.2 _ _ hS) (O.2.1 b (dq_Lc hE hL he)).1
theorem wk_s2 (hE : cl_G E) (O : wk_O E bA pl) (hbd : ∀ b, b < 6 → 1 ≤ bd b ∧ bd b ≤ 3) {s x b : Nat} (J : wk_J E pl s x) (he : bt (E (s % 6)) b = true) (ht : wk_T E s b < bd b) : wk_J E pl (wk_g s b (wk_T E s b)) (wk_n x (pl b)) := by
  have hc := wk_s1 hE O J he
  obtain ⟨j1, j2, j3, hL, h1, h2⟩ := J
  have hb := (hE (s % 6) (by omega) b he).1
  have hLb := dq_Lc hE hL he
  have hp := (O.2.1 b hLb).1
  have ht3 : wk_T E s b < 3 := by have := (hbd b hb).2; omega
  generalize wk_T E s b = t at hc ht ht3
  have hd3 : wk_d x (pl b) < 3 := by omega
  have hx := wk_nx (x := x) hp
  refine ⟨wk_gl hb ht3 j1, by omega, wk_n4 hp j3 hd3, ?_, ?_, ?_⟩
  · rw [wk_gm hb]; exact hLb
  · rw [wk_gm hb]
    intro d hd hD
    by_cases e : d = b
    · subst e
      rw [wk_nd hp j3 hd3, wk_gb hb ht3, hc]
    · have hDa := dq_st hE hL he hd hD e
      have hle := wk_le hE O (pl b) b d rfl hd hD
      have hne : pl d ≠ pl b := fun z => e (wk_inj hE O (dq_DL hE hd hD) hLb z)
      rw [wk_nl hp j3 hd3 (by omega), wk_go hb hd e ht3]
      exact h1 d hd hDa
  · rw [wk_gm hb]
    intro q hq hq6
    exact wk_nh hq6 hq
theorem wk_j0 (hE : cl_G E) (O : wk_O E bA pl) : wk_J E pl 0 1024 := by
  refine ⟨by omega, by omega, by omega, dq_L0, ?_, ?_⟩
  · intro d hd h
    have := dq_d0 hd h
    subst this
    rw [O.1]; decide
  · intro q hq hq6
    have : q ≠ 0 := by omega
    rcases wk_6 hq6 with rfl | rfl | rfl | rfl | rfl | rfl <;> first | exact absurd rfl this | decide
theorem wk_jk (hE : cl_G E) (O : wk_O E bA pl) {s x : Nat} (J : wk_J E pl s x) : bA (wk_z x) = nI (s % 6) ∧ wk_k bA x = s % 6 := by
  obtain ⟨j1, j2, j3, hL, h1, h2⟩ := J
  have hz : wk_z x = pl (s % 6) := wk_ze (O.2.1 _ hL).1 (by rw [h1 (s % 6) (by omega) (dq_rf hE hL)]; omega) h2
  have e : bA (wk_z x) = nI (s % 6) := by rw [hz]; exact (O.2.1 _ hL).2
  refine ⟨e, ?_⟩
  unfold wk_k
  rw [e, nI_clamp (by omega)]
theorem wk_YX (hE : cl_G E) (O : wk_O E bA pl) (hbd : ∀ b, b < 6 → 1 ≤ bd b ∧ bd b ≤ 3) : ∀ n s w, wk_YW E bd wt n s w → ∃ x, wk_XW E bd wt bA pl n x w ∧ wk_J E pl s x := by
  intro n
  induction n with
  | zero => rintro s w ⟨rfl, rfl⟩; exact ⟨1024, ⟨rfl, rfl⟩, wk_j0 hE O⟩
  | succ n ih =>
    rintro s' w' ⟨s, w, b, hw, ⟨y1, y2, y3, y4, rfl⟩, rfl⟩
    obtain ⟨x, hx, J⟩ := ih s w hw
    have hc := wk_s1 hE O J y3
    exact ⟨wk_n x (pl b), ⟨x, w, b, hx, ⟨y1, by rw [(wk_jk hE O J).2]; exact y3, by omega, rfl⟩, rfl⟩, wk_s2 hE O hbd J y3 y4⟩
theorem wk_XY (hE : cl_G E) (O : wk_O E bA pl) (hbd : ∀ b, b < 6 → 1 ≤ bd b ∧ bd b ≤ 3) : ∀ n x w, wk_XW E bd wt bA pl n x w → ∃ s, wk_YW E bd wt n s w ∧ wk_J E pl s x := by
  intro n
  induction n with
  | zero => rintro s w ⟨rfl, rfl⟩; exact ⟨0, ⟨rfl, rfl⟩, wk_j0 hE O⟩
  | succ n ih =>
    rintro x' w' ⟨x, w, b, hw, ⟨y1, y2, y3, rfl⟩, rfl⟩
    obtain ⟨s, hs, J⟩ := ih x w hw
    rw [(wk_jk hE O J).2] at y2
    have hc := wk_s1 hE O J y2
    have ht : wk_T E s b < bd b := by omega
    exact ⟨_, ⟨s, w, b, hs, ⟨y1, J.2.2.2.1, y2, ht, rfl⟩, rfl⟩, wk_s2 hE O hbd J y2 ht⟩
theorem wk_Xn (hE : cl_G E) (O : wk_O E bA pl) (hbd : ∀ b, b < 6 → 1 ≤ bd b ∧ bd b ≤ 3) (hwt : ∀ b, b < 6 → wt b ≤ 50) : ∀ n x w, wk_XW E bd wt bA pl n x w → 1024 + n ≤ x ∧ w ≤ 50 * (n + 1) := by
  intro n
  induction n with
  | zero => rintro s w ⟨rfl, rfl⟩; have := hwt 0 (by omega); omega
  | succ n ih =>
    rintro x' w' ⟨x, w, b, hw, ⟨y1, y2, y3, rfl⟩, rfl⟩
    have h := ih x w hw
    obtain ⟨s, hs, J⟩ := wk_XY hE O hbd n x w hw
    rw [(wk_jk hE O J).2] at y2
    have hL := dq_Lc hE J.2.2.2.1 y2
    have := wk_nx (x := x) (O.2.1 b hL).1
    have := hwt b y1
    omega
theorem wk_Xb (hE : cl_G E) (O : wk_O E bA pl) (hbd : ∀ b, b < 6 → 1 ≤ bd b ∧ bd b ≤ 3) (hwt : ∀ b, b < 6 → wt b ≤ 50) {n x w : Nat} (h : wk_XW E bd wt bA pl n x w) : 1024 ≤ x ∧ x < 4096 ∧ w ≤ 200000 := by
  have h1 := wk_Xn hE O hbd hwt n x w h
  obtain ⟨s, _, J⟩ := wk_XY hE O hbd n x w h
  have := J.2.2.1
  omega
theorem wk_Yb (hE : cl_G E) (O : wk_O E bA pl) (hbd : ∀ b, b < 6 → 1 ≤ bd b ∧ bd b ≤ 3) (hwt : ∀ b, b < 6 → wt b ≤ 50) {n s w : Nat} (h : wk_YW E bd wt n s w) : s < 4374 ∧ n < 4374 ∧ w ≤ 200000 := by
  obtain ⟨x, hx, J⟩ := wk_YX hE O hbd n s w h
  have h1 := wk_Xn hE O hbd hwt n x w hx
  have := J.2.2.1
  have := J.1
  omega
end
theorem wk_of {E : Nat → Int32} (hE : cl_G E) {bA pO : Nat → Int32} (O : od_O E bA pO) : wk_O E bA (fun b => (pO b).toNatClampNeg) ∧ ∀ b, dq_L E b → pO b = nI ((pO b).toNatClampNeg) := by
  have key : ∀ b, dq_L E b → pO b = nI ((pO b).toNatClampNeg) ∧ (pO b).toNatClampNeg < 6 ∧ bA ((pO b).toNatClampNeg) = nI b := by
    intro b hb
    obtain ⟨p, p1, p2, p3, _⟩ := O.2 b hb
    have : (pO b).toNatClampNeg = p := by rw [p2, nI_clamp (by omega)]
    rw [this]
    exact ⟨p2, p1, p3⟩
  refine ⟨⟨?_, fun b hb => (key b hb).2, ?_⟩, fun b hb => (key b hb).1⟩
  · show (pO 0).toNatClampNeg = 0
    rw [O.1, nI_clamp (by omega)]
  · intro a b hS
    obtain ⟨p, p1, p2, p3, p4⟩ := O.2 b (dq_Lc hE hS.1 hS.2.1)
    obtain ⟨q, q1, q2⟩ := p4 a hS
    show (pO a).toNatClampNeg < (pO b).toNatClampNeg
    rw [p2, q2, nI_clamp (by omega), nI_clamp (by omega)]
    exact q1
