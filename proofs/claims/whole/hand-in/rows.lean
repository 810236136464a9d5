section
def bt (x : Int32) (i : Nat) : Bool := x.toBitVec.getLsbD i
theorem b_ext {x y : Int32} (h : ∀ i, i < 32 → bt x i = bt y i) : x = y := Int32.toBitVec_inj.mp (BitVec.eq_of_getLsbD_eq (fun i hi => h i hi))
theorem b_or (x y : Int32) (i : Nat) : bt (x ||| y) i = (bt x i || bt y i) := by unfold bt; rw [Int32.toBitVec_or, BitVec.getLsbD_or]
theorem b_and (x y : Int32) (i : Nat) : bt (x &&& y) i = (bt x i && bt y i) := by unfold bt; rw [Int32.toBitVec_and, BitVec.getLsbD_and]
theorem b_xor (x y : Int32) (i : Nat) : bt (x ^^^ y) i = (bt x i ^^ bt y i) := by unfold bt; rw [Int32.toBitVec_xor, BitVec.getLsbD_xor]
theorem b_big {x : Int32} {i : Nat} (h : 32 ≤ i) : bt x i = false := BitVec.getLsbD_of_ge _ _ h
theorem b_m1 : ∀ i, i < 32 → bt (-1) i = true := by decide +kernel
theorem b_0 (i : Nat) : bt 0 i = false := BitVec.getLsbD_zero
theorem s_l : ∀ n, n < 32 → ((nI n &&& 31).toBitVec.smod 32).toNat = n := by decide +kernel
theorem b_shl (n : Nat) (hn : n < 32) (x : Int32) {i : Nat} (hi : i < 32) : bt (x <<< (nI n &&& 31)) i = (decide (n ≤ i) && bt x (i - n)) := by
  unfold bt
  rw [Int32.toBitVec_shiftLeft]
  show (x.toBitVec <<< ((nI n &&& 31).toBitVec.smod 32).toNat).getLsbD i = _
  rw [s_l n hn, BitVec.getLsbD_shiftLeft]
  rcases Nat.lt_or_ge i n with h | h
  · simp [h, Nat.not_le.mpr h]
  · simp [hi, h, Nat.not_lt.mpr h]
theorem b_sshr (n : Nat) (hn : n < 32) (x : Int32) {i : Nat} (hi : i < 32) : bt (x >>> (nI n &&& 31)) i = if n + i < 32 then bt x (n + i) else bt x 31 := by
  unfold bt
  rw [Int32.toBitVec_shiftRight]
  show (x.toBitVec.sshiftRight ((nI n &&& 31).toBitVec.smod 32).toNat).getLsbD i = _
  rw [s_l n hn, BitVec.getLsbD_sshiftRight, BitVec.msb_eq_getLsbD_last]
  simp [hi]
theorem pk_us {f : Nat → Int32} {k : Nat} {x : Int32} : upd f k x k = x := if_pos rfl
theorem pk_un {f : Nat → Int32} {k j : Nat} {x : Int32} (h : j ≠ k) : upd f k x j = f j := if_neg h
theorem pk_sub {a b : Nat} (h : b ≤ a) : nI a - nI b = nI (a - b) := by
  obtain ⟨c, rfl⟩ : ∃ c, a = c + b := ⟨a - b, by omega⟩
  rw [← nI_add, Int32.add_sub_cancel, Nat.add_sub_cancel]
theorem pk_m1 (n : Nat) : nI (n + 1) + (-1) = nI n := by
  rw [← nI_1, Int32.add_assoc, show (1 : Int32) + (-1) = 0 from rfl, Int32.add_zero]
theorem pk_mul (a b : Nat) : nI a * nI b = nI (a * b) := (Int32.ofNat_mul a b).symm
theorem pk_div {a d : Nat} (ha : a < 2 ^ 31) (h0 : 0 < d) (hd : d < 2 ^ 31) : nI a / nI d = nI (a / d) := by
  apply Int32.toInt_inj.mp
  rw [lg_idiv_nonneg (by rw [nI_toInt ha]; omega) (by rw [nI_toInt hd]; omega), nI_toInt ha, nI_toInt hd, nI_toInt (Nat.lt_of_le_of_lt (Nat.div_le_self a d) ha)]
  first | rfl | exact (Int.natCast_ediv _ _).symm
theorem pk_rem {a d : Nat} (ha : a < 2 ^ 31) (h0 : 0 < d) (hd : d < 2 ^ 31) : nI a - nI a / nI d * nI d = nI (a % d) := by
  rw [pk_div ha h0 hd, pk_mul, pk_sub (Nat.div_mul_le_self a d)]
  exact congrArg nI (by have := Nat.div_add_mod' a d; omega)
theorem pk_ix (x : Int32) {n : Nat} (hn : n < 2 ^ 31) : x < 0 ∨ nI n ≤ x ∨ ∃ j : Nat, j < n ∧ x = nI j := by
  by_cases h : x < 0
  · exact Or.inl h
  · obtain ⟨j, hj, rfl⟩ := nI_of h
    by_cases h2 : j < n
    · exact Or.inr (Or.inr ⟨j, h2, rfl⟩)
    · exact Or.inr (Or.inl (nI_le (by omega) hj))
theorem pk_le {x y : Int32} {A B : Prop} (a b : Nat) (f : a ≤ b → A) (g : b < a → B) (hx : x = nI a := by rfl) (hy : y = nI b := by rfl) (ha : a < 2 ^ 31 := by omega) (hb : b < 2 ^ 31 := by omega) : (x ≤ y → A) ∧ (¬ x ≤ y → B) := by
  subst hx hy
  rw [nI_leI ha hb]
  exact ⟨f, fun z => g (by omega)⟩
theorem pk_lt {x y : Int32} {A B : Prop} (a b : Nat) (f : a < b → A) (g : b ≤ a → B) (hx : x = nI a := by rfl) (hy : y = nI b := by rfl) (ha : a < 2 ^ 31 := by omega) (hb : b < 2 ^ 31 := by omega) : (x < y → A) ∧ (¬ x < y → B) := by
  subst hx hy
  rw [nI_ltI ha hb]
  exact ⟨f, fun z => g (by omega)⟩
theorem pk_eq {x y : Int32} {A B : Prop} (a b : Nat) (f : a = b → A) (g : a ≠ b → B) (hx : x = nI a := by rfl) (hy : y = nI b := by rfl) (ha : a < 2 ^ 31 := by omega) (hb : b < 2 ^ 31 := by omega) : (x = y → A) ∧ (¬ x = y → B) := by
  subst hx hy
  rw [nI_eq ha hb]
  exact ⟨f, g⟩
theorem pk_in {x : Int32} (n N : Nat) (h : n < N) (hx : x = nI n := by rfl) (hN : N < 2 ^ 31 := by omega) : vp_in x N := by
  subst hx
  exact vp_in_nI h hN
theorem pk_cl {x : Int32} (n : Nat) (hx : x = nI n := by rfl) (h : n < 2 ^ 31 := by omega) : x.toNatClampNeg = n := by
  subst hx
  exact nI_clamp h
theorem pk_tn {n : Nat} (h : n < 2 ^ 32) : (nI n).toBitVec.toNat = n := Nat.mod_eq_of_lt h
theorem pk_and (x : Int32) {m : Int32} (k : Nat) (hm : m.toBitVec.toNat = 2 ^ k - 1) : x &&& m = nI (x.toBitVec.toNat % 2 ^ k) := by
  apply Int32.toBitVec_inj.mp
  apply BitVec.eq_of_toNat_eq
  rw [Int32.toBitVec_and, BitVec.toNat_and, hm, Nat.and_two_pow_sub_one_eq_mod]
  show _ = (BitVec.ofNat 32 _).toNat
  rw [BitVec.toNat_ofNat]
  exact (Nat.mod_eq_of_lt (Nat.lt_of_le_of_lt (Nat.mod_le _ _) x.toBitVec.isLt)).symm
theorem pk_andN {n : Nat} (h : n < 2 ^ 32) {m : Int32} (k : Nat) (hm : m.toBitVec.toNat = 2 ^ k - 1) : nI n &&& m = nI (n % 2 ^ k) := by
  rw [pk_and _ k hm, pk_tn h]
theorem pk_shl (a s : Int32) (k : Nat) (hs : (s.toBitVec.smod 32).toNat = k) : (a <<< s).toBitVec.toNat = a.toBitVec.toNat * 2 ^ k % 2 ^ 32 := by
  show (a.toBitVec <<< (s.toBitVec.smod 32).toNat).toNat = _
  rw [hs, BitVec.toNat_shiftLeft, Nat.shiftLeft_eq]
theorem pk_shlN {n : Nat} (s : Int32) (k : Nat) (hs : (s.toBitVec.smod 32).toNat = k) (h : n * 2 ^ k < 2 ^ 32) : nI n <<< s = nI (n * 2 ^ k) := by
  apply Int32.toBitVec_inj.mp
  apply BitVec.eq_of_toNat_eq
  have hn : n < 2 ^ 32 := Nat.lt_of_le_of_lt (Nat.le_mul_of_pos_right n (Nat.two_pow_pos k)) h
  rw [pk_shl _ _ k hs, pk_tn hn, pk_tn h, Nat.mod_eq_of_lt h]
theorem pk_shr (a s : Int32) (k : Nat) (hs : (s.toBitVec.smod 32).toNat = k) : (a >>> s).toInt = a.toInt >>> k := by
  show (a.toBitVec.sshiftRight (s.toBitVec.smod 32).toNat).toInt = _
  rw [hs, BitVec.toInt_sshiftRight]
  rfl
theorem pk_shrN {n : Nat} (h : n < 2 ^ 31) (s : Int32) (k : Nat) (hs : (s.toBitVec.smod 32).toNat = k) : nI n >>> s = nI (n / 2 ^ k) := by
  apply Int32.toInt_inj.mp
  have h2 : n / 2 ^ k ≤ n := Nat.div_le_self _ _
  rw [pk_shr _ _ k hs, nI_toInt h, nI_toInt (by omega), Int.shiftRight_eq_div_pow]
  rfl
theorem pk_loop {σ : Type} (W : Nat → Nat → σ → Prop) (I : Nat → σ → Prop) (e i0 : Nat) (s : σ) (hi : i0 ≤ e) (h0 : I i0 s) (hx : ∀ n s, I e s → W (n + 1) e s)
    (hs : ∀ n i s, i < e → I i s → (∀ s', I (i + 1) s' → W n (i + 1) s') → W (n + 1) i s) : ∃ n, W n i0 s :=
  ⟨e + 1, loop_i W I e hx hs (e + 1) i0 s hi (by omega) h0⟩
theorem pk_loopD {σ : Type} (W : Nat → Nat → σ → Prop) (I : Nat → σ → Prop) (hx : ∀ n s, I 0 s → W (n + 1) 0 s)
    (hs : ∀ n i s, I (i + 1) s → (∀ s', I i s' → W n i s') → W (n + 1) (i + 1) s) : ∀ (e : Nat) (s : σ), I e s → W (e + 1) e s := by
  intro e
  induction e with
  | zero => exact fun s h => hx 0 s h
  | succ e ih => exact fun s h => hs (e + 1) e s h (fun s' h' => ih s' h')
end
section
def bq_i (h : Nat) : Int32 := (1 : Int32) <<< (nI h &&& 31)
theorem bq_t0 : ∀ h, h < 32 → ∀ i, i < 32 → bt (bq_i h) i = decide (i = h) := by decide +kernel
theorem bq_t {h : Nat} (hh : h < 32) (i : Nat) : bt (bq_i h) i = decide (i = h) := by
  rcases Nat.lt_or_ge i 32 with hi | hi
  · exact bq_t0 h hh i hi
  · rw [b_big hi, decide_eq_false (by omega)]
theorem bq_10 : ∀ i, i < 32 → bt 1 i = decide (i = 0) := by decide +kernel
theorem bq_1 (i : Nat) : bt 1 i = decide (i = 0) := by
  rcases Nat.lt_or_ge i 32 with hi | hi
  · exact bq_10 i hi
  · rw [b_big hi, decide_eq_false (by omega)]
theorem bq_an (x y : Int32) (i : Nat) : bt (x &&& (y ^^^ (-1))) i = (bt x i && !bt y i) := by
  rw [b_and]
  rcases Nat.lt_or_ge i 32 with hi | hi
  · rw [b_xor, b_m1 i hi]; cases bt y i <;> rfl
  · rw [b_big (x := x) hi]; rfl
theorem bq_h0 (x : Int32) {b : Nat} (hb : b < 32) : ((x >>> (nI b &&& 31)) &&& 1) = 0 ↔ bt x b = false := by
  constructor
  · intro h
    have e : bt ((x >>> (nI b &&& 31)) &&& 1) 0 = bt 0 0 := by rw [h]
    rw [b_and, b_sshr b hb x (by omega), if_pos (by omega), bq_1, b_0] at e
    simpa using e
  · intro h
    apply b_ext
    intro i hi
    rw [b_and, bq_1, b_0]
    rcases Nat.eq_zero_or_pos i with rfl | hp
    · rw [b_sshr b hb x (by omega), if_pos (by omega)]; simpa using h
    · rw [decide_eq_false (by omega)]; simp
theorem bq_h1 (x : Int32) {b : Nat} (hb : b < 32) : ((x >>> (nI b &&& 31)) &&& 1) = 1 ↔ bt x b = true := by
  constructor
  · intro h
    have e : bt ((x >>> (nI b &&& 31)) &&& 1) 0 = bt 1 0 := by rw [h]
    rw [b_and, b_sshr b hb x (by omega), if_pos (by omega), bq_1] at e
    simpa using e
  · intro h
    apply b_ext
    intro i hi
    rw [b_and, bq_1]
    rcases Nat.eq_zero_or_pos i with rfl | hp
    · rw [b_sshr b hb x (by omega), if_pos (by omega)]; simpa using h
    · rw [decide_eq_false (by omega)]; simp
def bq_s (x : Int32) : Prop := ∀ i, bt x i = true → i < 6
theorem bq_e6 {x y : Int32} (hx : bq_s x) (hy : bq_s y) (h : ∀ i, i < 6 → bt x i = bt y i) : x = y := by
  apply b_ext
  intro i _
  rcases Nat.lt_or_ge i 6 with hi | hi
  · exact h i hi
  · have a : bt x i = false := by
      cases e : bt x i
      · rfl
      · have := hx i e; omega
    have b : bt y i = false := by
      cases e : bt y i
      · rfl
      · have := hy i e; omega
    rw [a, b]
theorem bq_z {x : Int32} : x = 0 ↔ ∀ i, bt x i = false :=
  ⟨fun h i => by rw [h, b_0], fun h => b_ext fun i _ => by rw [h i, b_0]⟩
theorem bq_nz {x : Int32} (hx : bq_s x) (h : ¬ x = 0) : ∃ i, i < 6 ∧ bt x i = true := by
  apply Classical.byContradiction
  intro hn
  apply h
  rw [bq_z]
  intro i
  cases e : bt x i
  · rfl
  · exact absurd ⟨i, hx i e, e⟩ hn
theorem bq_nt {x : Bool} (h : ¬ x = true) : x = false := by cases x <;> first | rfl | exact absurd rfl h
theorem bq_nf {x : Bool} (h : ¬ x = false) : x = true := by cases x <;> first | rfl | exact absurd rfl h
/-! counting -/
def cn_t (x : Int32) : Nat := (bt x 0).toNat + (bt x 1).toNat + (bt x 2).toNat + (bt x 3).toNat + (bt x 4).toNat + (bt x 5).toNat
theorem cn_b1 (b : Bool) : b.toNat ≤ 1 := by cases b <;> decide
theorem cn_b2 {p q : Bool} (h : p = true → q = true) : p.toNat ≤ q.toNat := by
  cases p <;> cases q <;> first | decide | exact absurd (h rfl) (by decide)
theorem cn_6 (x : Int32) : cn_t x ≤ 6 := by
  have h0 := cn_b1 (bt x 0); have h1 := cn_b1 (bt x 1); have h2 := cn_b1 (bt x 2)
  have h3 := cn_b1 (bt x 3); have h4 := cn_b1 (bt x 4); have h5 := cn_b1 (bt x 5)
  unfold cn_t; omega
theorem cn_lt {x y : Int32} {j : Nat} (h : ∀ i, bt x i = true → bt y i = true) (hj : j < 6) (hy : bt y j = true) (hx : bt x j = false) : cn_t x < cn_t y := by
  have h0 := cn_b2 (h 0); have h1 := cn_b2 (h 1); have h2 := cn_b2 (h 2)
  have h3 := cn_b2 (h 3); have h4 := cn_b2 (h 4); have h5 := cn_b2 (h 5)
  have ex : (bt x j).toNat = 0 := by rw [hx]; rfl
  have ey : (bt y j).toNat = 1 := by rw [hy]; rfl
  unfold cn_t
  have : j = 0 ∨ j = 1 ∨ j = 2 ∨ j = 3 ∨ j = 4 ∨ j = 5 := by omega
  rcases this with rfl | rfl | rfl | rfl | rfl | rfl <;> omega
theorem fx_ne {f : Int32 → Int32} (hu : ∀ x i, bt x i = true → bt (f x) i = true) (hs : ∀ x, bq_s x → bq_s (f x)) {x : Int32} (hx : bq_s x) (h : ¬ f x = x) : cn_t x < cn_t (f x) := by
  have : ∃ j, j < 6 ∧ bt (f x) j = true ∧ bt x j = false := by
    apply Classical.byContradiction
    intro hn
    apply h
    apply bq_e6 (hs x hx) hx
    intro i hi
    cases e : bt x i
    · cases e2 : bt (f x) i
      · rfl
      · exact absurd ⟨i, hi, e2, e⟩ hn
    · exact hu x i e
  obtain ⟨j, hj, a, b⟩ := this
  exact cn_lt (hu x) hj a b
theorem fx_p (f : Int32 → Int32) (hu : ∀ x i, bt x i = true → bt (f x) i = true) (hs : ∀ x, bq_s x → bq_s (f x)) (it : Nat → Int32) (h0 : bq_s (it 0)) (hit : ∀ k, it (k + 1) = f (it k)) : f (it 6) = it 6 := by
  have hb : ∀ k, bq_s (it k) := by
    intro k
    induction k with
    | zero => exact h0
    | succ k ih => rw [hit]; exact hs _ ih
  have main : ∀ k, f (it k) = it k ∨ k + 1 ≤ cn_t (it (k + 1)) := by
    intro k
    induction k with
    | zero =>
      by_cases e : f (it 0) = it 0
      · exact Or.inl e
      · have := fx_ne hu hs (hb 0) e
        rw [← hit] at this
        exact Or.inr (by omega)
    | succ k ih =>
      by_cases e : f (it (k + 1)) = it (k + 1)
      · exact Or.inl e
      · have := fx_ne hu hs (hb (k + 1)) e
        rw [← hit (k + 1)] at this
        rcases ih with h | h
        · exact absurd (by rw [hit k, h, h]) e
        · exact Or.inr (by omega)
  rcases main 6 with h | h
  · exact h
  · have := cn_6 (it (6 + 1)); omega
/-! what is reached from block 0 without the blocks of m -/
def cl_s (E : Nat → Int32) (m : Int32) (a : Nat) (r : Int32) : Int32 := if bt r a = true then r ||| (E a &&& (m ^^^ (-1))) else r
def cl_i (E : Nat → Int32) (m : Int32) : Nat → Int32 → Int32
  | 0, r => r
  | a + 1, r => cl_s E m a (cl_i E m a r)
def cl_o (E : Nat → Int32) (m : Int32) (r : Int32) : Nat → Int32
  | 0 => r
  | k + 1 => cl_i E m 6 (cl_o E m r k)
def cl_r (E : Nat → Int32) (m : Int32) : Int32 := cl_o E m (1 &&& (m ^^^ (-1))) 6
def cl_G (E : Nat → Int32) : Prop := ∀ a, a < 6 → ∀ i, bt (E a) i = true → i < 6 ∧ i ≠ a
section
variable {E : Nat → Int32} {m : Int32}
theorem cl_s_up {a : Nat} {r : Int32} {i : Nat} (h : bt r i = true) : bt (cl_s E m a r) i = true := by
  unfold cl_s
  by_cases hb : bt r a = true
  · rw [if_pos hb, b_or, h]; rfl
  · rw [if_neg hb]; exact h
theorem cl_i_mo {r : Int32} {i a : Nat} : ∀ d, bt (cl_i E m a r) i = true → bt (cl_i E m (a + d) r) i = true := by
  intro d h
  induction d with
  | zero => exact h
  | succ d ih => exact cl_s_up ih
theorem cl_i_up {r : Int32} {i a : Nat} (h : bt r i = true) : bt (cl_i E m a r) i = true := by
  have := cl_i_mo (E := E) (m := m) (r := r) (i := i) (a := 0) a h
  rw [Nat.zero_add] at this
  exact this
theorem cl_o_up {r : Int32} {i k : Nat} (h : bt r i = true) : bt (cl_o E m r k) i = true := by
  induction k with
  | zero => exact h
  | succ k ih => exact cl_i_up ih
theorem cl_s_le {S : Nat → Prop} {a : Nat} {r : Int32} (hc : ∀ i, S a → bt (E a) i = true → bt m i = false → S i) (h : ∀ i, bt r i = true → S i) (i : Nat) (hi : bt (cl_s E m a r) i = true) : S i := by
  unfold cl_s at hi
  by_cases hb : bt r a = true
  · rw [if_pos hb, b_or, bq_an] at hi
    cases e : bt r i
    · rw [e] at hi
      cases e1 : bt (E a) i
      · rw [e1] at hi; exact absurd hi (by simp)
      · cases e2 : bt m i
        · exact hc i (h a hb) e1 e2
        · rw [e1, e2] at hi; exact absurd hi (by decide)
    · exact h i e
  · rw [if_neg hb] at hi; exact h i hi
theorem cl_i_le {S : Nat → Prop} {r : Int32} (hc : ∀ a, a < 6 → ∀ i, S a → bt (E a) i = true → bt m i = false → S i) (h : ∀ i, bt r i = true → S i) : ∀ a, a ≤ 6 → ∀ i, bt (cl_i E m a r) i = true → S i := by
  intro a
  induction a with
  | zero => intro _; exact h
  | succ a ih => intro ha; exact cl_s_le (hc a (by omega)) (ih (by omega))
theorem cl_o_le {S : Nat → Prop} {r : Int32} (hc : ∀ a, a < 6 → ∀ i, S a → bt (E a) i = true → bt m i = false → S i) (h : ∀ i, bt r i = true → S i) : ∀ k i, bt (cl_o E m r k) i = true → S i := by
  intro k
  induction k with
  | zero => exact h
  | succ k ih => exact cl_i_le hc ih 6 (by omega)
theorem cl_st {i : Nat} (h : bt (1 &&& (m ^^^ (-1))) i = true) : i = 0 ∧ bt m 0 = false := by
  rw [bq_an, bq_1] at h
  by_cases e : i = 0
  · subst e
    refine ⟨rfl, ?_⟩
    cases e2 : bt m 0
    · rfl
    · rw [e2] at h; exact absurd h (by decide)
  · rw [decide_eq_false e] at h; exact absurd h (by simp)
theorem cl_r_le {S : Nat → Prop} (h0 : bt m 0 = false → S 0) (hc : ∀ a, a < 6 → ∀ i, S a → bt (E a) i = true → bt m i = false → S i) : ∀ i, bt (cl_r E m) i = true → S i := by
  apply cl_o_le hc
  intro i hi
  obtain ⟨rfl, h⟩ := cl_st hi
  exact h0 h
theorem cl_r_s (hE : cl_G E) : bq_s (cl_r E m) := cl_r_le (S := fun i => i < 6) (fun _ => by omega) (fun a ha i _ h _ => (hE a ha i h).1)
theorem cl_r_0 (h : bt m 0 = false) : bt (cl_r E m) 0 = true := by
  apply cl_o_up
  rw [bq_an, bq_1, h]; rfl
theorem cl_r_m {i : Nat} (h : bt m i = true) : bt (cl_r E m) i = false := by
  cases e : bt (cl_r E m) i
  · rfl
  · have := cl_r_le (E := E) (m := m) (S := fun i => bt m i = false) id (fun _ _ _ _ _ h => h) i e
    rw [h] at this; exact absurd this (by decide)
theorem cl_i_s (hE : cl_G E) {r : Int32} (hr : bq_s r) : bq_s (cl_i E m 6 r) :=
  cl_i_le (S := fun i => i < 6) (fun a ha i _ h _ => (hE a ha i h).1) hr 6 (by omega)
theorem cl_r_fx (hE : cl_G E) : cl_i E m 6 (cl_r E m) = cl_r E m := by
  apply fx_p (cl_i E m 6) (fun x i h => cl_i_up h) (fun x hx => cl_i_s hE hx) (cl_o E m (1 &&& (m ^^^ (-1))))
  · intro i hi; have := (cl_st (m := m) hi).1; omega
  · intro k; rfl
theorem cl_r_c (hE : cl_G E) {a i : Nat} (ha : a < 6) (h : bt (cl_r E m) a = true) (he : bt (E a) i = true) (hm : bt m i = false) : bt (cl_r E m) i = true := by
  have h1 : bt (cl_i E m a (cl_r E m)) a = true := cl_i_up h
  have h2 : bt (cl_i E m (a + 1) (cl_r E m)) i = true := by
    show bt (cl_s E m a (cl_i E m a (cl_r E m))) i = true
    unfold cl_s
    rw [if_pos h1, b_or, bq_an, he, hm]
    cases bt (cl_i E m a (cl_r E m)) i <;> rfl
  have h3 := cl_i_mo (5 - a) h2
  rw [show a + 1 + (5 - a) = 6 from by omega, cl_r_fx hE] at h3
  exact h3
end
/-! dominators -/
def dq_L (E : Nat → Int32) (a : Nat) : Prop := bt (cl_r E 0) a = true
def dq_D (E : Nat → Int32) (d a : Nat) : Prop := bt (cl_r E 0) a = true ∧ bt (cl_r E (bq_i d)) a = false
section
variable {E : Nat → Int32}
theorem dq_L6 (hE : cl_G E) {a : Nat} (h : dq_L E a) : a < 6 := cl_r_s hE a h
theorem dq_L0 : dq_L E 0 := cl_r_0 (b_0 0)
theorem dq_Lc (hE : cl_G E) {a b : Nat} (h : dq_L E a) (he : bt (E a) b = true) : dq_L E b := cl_r_c hE (dq_L6 hE h) h he (b_0 b)
theorem dq_bi {d i : Nat} (hd : d < 6) (h : i ≠ d) : bt (bq_i d) i = false := by rw [bq_t (by omega), decide_eq_false h]
theorem dq_bs {d : Nat} (hd : d < 6) : bt (bq_i d) d = true := by rw [bq_t (by omega), decide_eq_true rfl]
theorem dq_sub (hE : cl_G E) {m : Int32} {a : Nat} (h : bt (cl_r E m) a = true) : dq_L E a :=
  cl_r_le (S := dq_L E) (fun _ => dq_L0) (fun a _ i hS he _ => dq_Lc hE hS he) a h
theorem dq_rf (hE : cl_G E) {a : Nat} (h : dq_L E a) : dq_D E a a := ⟨h, cl_r_m (dq_bs (dq_L6 hE h))⟩
theorem dq_0 {a : Nat} (h : dq_L E a) : dq_D E 0 a := by
  refine ⟨h, bq_nt fun e => ?_⟩
  exact cl_r_le (E := E) (m := bq_i 0) (S := fun _ => False) (fun z => absurd (dq_bs (d := 0) (by omega)) (by rw [z]; decide)) (fun _ _ _ z _ _ => z) a e
theorem dq_d0 {d : Nat} (hd : d < 6) (h : dq_D E d 0) : d = 0 := by
  apply Classical.byContradiction
  intro e
  have := cl_r_0 (E := E) (m := bq_i d) (dq_bi hd (fun z => e z.symm))
  rw [h.2] at this; exact absurd this (by decide)
theorem dq_st (hE : cl_G E) {a b d : Nat} (ha : dq_L E a) (he : bt (E a) b = true) (hd : d < 6) (h : dq_D E d b) (hn : d ≠ b) : dq_D E d a := by
  refine ⟨ha, bq_nt fun e => ?_⟩
  have := cl_r_c hE (dq_L6 hE ha) e he (dq_bi hd (fun z => hn z.symm))
  rw [h.2] at this; exact absurd this (by decide)
theorem dq_tr (hE : cl_G E) {a d e : Nat} (he : e < 6) (hd : d < 6) (h1 : dq_D E d a) (h2 : dq_D E e d) : dq_D E e a := by
  refine ⟨h1.1, bq_nt fun z => ?_⟩
  have key : ∀ i, bt (cl_r E (bq_i e)) i = true → (bt (cl_r E (bq_i d)) i = true ∧ bt (cl_r E (bq_i e)) i = true) := by
    apply cl_r_le (S := fun i => bt (cl_r E (bq_i d)) i = true ∧ bt (cl_r E (bq_i e)) i = true)
    · intro h0
      refine ⟨cl_r_0 ?_, cl_r_0 h0⟩
      apply dq_bi hd
      intro z
      rw [← z] at h2
      have := cl_r_0 (E := E) h0
      rw [h2.2] at this; exact absurd this (by decide)
    · intro x hx i hS hxe hm
      have hi := cl_r_c hE hx hS.2 hxe hm
      refine ⟨cl_r_c hE hx hS.1 hxe (dq_bi hd ?_), hi⟩
      intro z
      rw [z, h2.2] at hi; exact absurd hi (by decide)
  have := (key a z).1
  rw [h1.2] at this; exact absurd this (by decide)
theorem dq_DL (hE : cl_G E) {a d : Nat} (hd : d < 6) (h : dq_D E d a) : dq_L E d := by
  apply Classical.byContradiction
  intro hn
  have key : ∀ i, bt (cl_r E 0) i = true → (dq_L E i ∧ bt (cl_r E (bq_i d)) i = true) := by
    apply cl_r_le (S := fun i => dq_L E i ∧ bt (cl_r E (bq_i d)) i = true)
    · intro _
      exact ⟨dq_L0, cl_r_0 (dq_bi hd (fun z => hn (z ▸ dq_L0)))⟩
    · intro x hx i hS hxe _
      have hi := dq_Lc hE hS.1 hxe
      exact ⟨hi, cl_r_c hE hx hS.2 hxe (dq_bi hd (fun z => hn (z ▸ hi)))⟩
  have := (key a h.1).2
  rw [h.2] at this; exact absurd this (by decide)
theorem dq_pr (hE : cl_G E) {a : Nat} (h : dq_L E a) (h0 : a ≠ 0) : ∃ u, dq_L E u ∧ bt (E u) a = true ∧ ¬ dq_D E a u := by
  apply Classical.byContradiction
  intro hn
  have ha := dq_L6 hE h
  have key : ∀ i, bt (cl_r E 0) i = true → bt (cl_r E (bq_i a)) i = true := by
    apply cl_r_le (S := fun i => bt (cl_r E (bq_i a)) i = true)
    · intro _
      exact cl_r_0 (dq_bi ha (fun z => h0 z.symm))
    · intro x hx i hS hxe _
      by_cases e : i = a
      · subst e
        exact absurd ⟨x, dq_sub hE hS, hxe, fun z => by rw [z.2] at hS; exact absurd hS (by decide)⟩ hn
      · exact cl_r_c hE hx hS hxe (dq_bi ha e)
  have := key a h
  rw [cl_r_m (dq_bs ha)] at this; exact absurd this (by decide)
end
def dq_f (E : Nat → Int32) (b : Nat) : Nat → Int32
  | 0 => 0
  | h + 1 => if bt (cl_r E 0 &&& (cl_r E (bq_i h) ^^^ (-1))) b = true then dq_f E b h ||| bq_i h else dq_f E b h
def dq_M (E : Nat → Int32) (b : Nat) : Int32 := dq_f E b 6
theorem dq_c {E : Nat → Int32} {b h : Nat} : bt (cl_r E 0 &&& (cl_r E (bq_i h) ^^^ (-1))) b = true ↔ dq_D E h b := by
  unfold dq_D
  rw [bq_an, Bool.and_eq_true, Bool.not_eq_true']
theorem dq_ft {E : Nat → Int32} {b i : Nat} : ∀ n, n ≤ 6 → (bt (dq_f E b n) i = true ↔ i < n ∧ dq_D E i b) := by
  intro n
  induction n with
  | zero => intro _; show bt 0 i = true ↔ _; rw [b_0]; exact ⟨fun z => absurd z (by decide), fun z => absurd z.1 (by omega)⟩
  | succ n ih =>
    intro hn
    have ih := ih (by omega)
    unfold dq_f
    by_cases h : bt (cl_r E 0 &&& (cl_r E (bq_i n) ^^^ (-1))) b = true
    · rw [if_pos h, b_or, Bool.or_eq_true, ih, bq_t (by omega), decide_eq_true_eq]
      constructor
      · rintro (⟨a, c⟩ | rfl)
        · exact ⟨by omega, c⟩
        · exact ⟨by omega, dq_c.mp h⟩
      · rintro ⟨a, c⟩
        by_cases e : i = n
        · exact Or.inr e
        · exact Or.inl ⟨by omega, c⟩
    · rw [if_neg h, ih]
      constructor
      · rintro ⟨a, c⟩; exact ⟨by omega, c⟩
      · rintro ⟨a, c⟩
        refine ⟨?_, c⟩
        by_cases e : i = n
        · subst e; exact absurd (dq_c.mpr c) h
        · omega
theorem dq_Mt {E : Nat → Int32} {b i : Nat} : bt (dq_M E b) i = true ↔ i < 6 ∧ dq_D E i b := dq_ft 6 (by omega)
theorem dq_Ms {E : Nat → Int32} {b : Nat} : bq_s (dq_M E b) := fun i h => (dq_Mt.mp h).1
theorem dq_M0 {E : Nat → Int32} (hE : cl_G E) {b : Nat} (hb : b < 6) : ¬ dq_M E b = 0 ↔ dq_L E b := by
  constructor
  · intro h
    obtain ⟨i, hi, h⟩ := bq_nz dq_Ms h
    exact (dq_Mt.mp h).2.1
  · intro h z
    have := dq_Mt.mpr ⟨hb, dq_rf hE h⟩
    rw [z, b_0] at this; exact absurd this (by decide)
end
section
def od_A (E : Nat → Int32) (a : Nat) : Int32 := E a &&& (dq_M E a ^^^ (-1))
def od_l (A : Nat → Int32) (w : Int32) : Nat → Int32
  | 0 => 0
  | a + 1 => if bt w a = true then od_l A w a ||| A a else od_l A w a
def od_F (A : Nat → Int32) (w : Int32) : Int32 := w &&& (od_l A w 6 ^^^ (-1))
def od_g (x : Int32) : Nat → Nat → Nat
  | 0, j => j
  | d + 1, j => if bt x j = true then j else od_g x d (j + 1)
def od_n (x : Int32) : Nat := od_g x 6 0
def od_v (n : Nat) : Int32 := if n < 6 then nI n else -1
def od_u (A : Nat → Int32) (w : Int32) : Int32 := if od_n (od_F A w) < 6 then w &&& (bq_i (od_n (od_F A w)) ^^^ (-1)) else w
def od_w (A : Nat → Int32) (L : Int32) : Nat → Int32
  | 0 => L
  | k + 1 => od_u A (od_w A L k)
theorem od_lt {A : Nat → Int32} {w : Int32} {i : Nat} : ∀ n, bt (od_l A w n) i = true ↔ ∃ a, a < n ∧ bt w a = true ∧ bt (A a) i = true := by
  intro n
  induction n with
  | zero => show bt 0 i = true ↔ _; rw [b_0]; exact ⟨fun z => absurd z (by decide), fun ⟨a, z, _⟩ => absurd z (by omega)⟩
  | succ n ih =>
    unfold od_l
    by_cases h : bt w n = true
    · rw [if_pos h, b_or, Bool.or_eq_true, ih]
      constructor
      · rintro (⟨a, h1, h2, h3⟩ | h3)
        · exact ⟨a, by omega, h2, h3⟩
        · exact ⟨n, by omega, h, h3⟩
      · rintro ⟨a, h1, h2, h3⟩
        by_cases e : a = n
        · subst e; exact Or.inr h3
        · exact Or.inl ⟨a, by omega, h2, h3⟩
    · rw [if_neg h, ih]
      constructor
      · rintro ⟨a, h1, h2, h3⟩; exact ⟨a, by omega, h2, h3⟩
      · rintro ⟨a, h1, h2, h3⟩
        by_cases e : a = n
        · subst e; exact absurd h2 h
        · exact ⟨a, by omega, h2, h3⟩
theorem od_gs {x : Int32} : ∀ d j, j + d = 6 → j ≤ od_g x d j ∧ od_g x d j ≤ 6 ∧ (od_g x d j < 6 → bt x (od_g x d j) = true) ∧ (∀ i, j ≤ i → i < od_g x d j → bt x i = false) := by
  intro d
  induction d with
  | zero => intro j hj; unfold od_g; exact ⟨by omega, by omega, fun _ => by omega, fun i _ _ => by omega⟩
  | succ d ih =>
    intro j hj
    unfold od_g
    by_cases h : bt x j = true
    · rw [if_pos h]
      exact ⟨by omega, by omega, fun _ => h, fun i _ _ => by omega⟩
    · rw [if_neg h]
      obtain ⟨a, b, c, e⟩ := ih (j + 1) (by omega)
      refine ⟨by omega, b, c, fun i h1 h2 => ?_⟩
      by_cases z : i = j
      · subst z; exact bq_nt h
      · exact e i (by omega) h2
theorem od_n6 (x : Int32) : od_n x ≤ 6 := (od_gs 6 0 rfl).2.1
theorem od_nt {x : Int32} (h : od_n x < 6) : bt x (od_n x) = true := (od_gs 6 0 rfl).2.2.1 h
theorem od_nf {x : Int32} {i : Nat} (h : i < od_n x) : bt x i = false := (od_gs 6 0 rfl).2.2.2 i (by omega) h
theorem od_Fb {A : Nat → Int32} {w : Int32} {b : Nat} (h : bt (od_F A w) b = true) : bt w b = true ∧ ∀ a, a < 6 → bt w a = true → bt (A a) b = false := by
  unfold od_F at h
  rw [bq_an, Bool.and_eq_true, Bool.not_eq_true'] at h
  refine ⟨h.1, fun a ha hw => bq_nt fun e => ?_⟩
  have := (od_lt (A := A) (w := w) (i := b) 6).mpr ⟨a, ha, hw, e⟩
  rw [h.2] at this; exact absurd this (by decide)
theorem od_Fm {A : Nat → Int32} {w : Int32} {b : Nat} (h : bt w b = true) (h2 : ∀ a, a < 6 → bt w a = true → bt (A a) b = false) : bt (od_F A w) b = true := by
  unfold od_F
  rw [bq_an, Bool.and_eq_true, Bool.not_eq_true']
  refine ⟨h, bq_nt fun e => ?_⟩
  obtain ⟨a, ha, hw, z⟩ := (od_lt (A := A) (w := w) (i := b) 6).mp e
  rw [h2 a ha hw] at z; exact absurd z (by decide)
/-- where orderBlocks stands behind k places -/
def od_I (L : Int32) (A : Nat → Int32) (k : Nat) (w : Int32) (bA pO : Nat → Int32) : Prop :=
  w = od_w A L k ∧ (∀ i, bt w i = true → bt L i = true) ∧ (od_n (od_F A w) = 6 ∨ cn_t w + k ≤ 6) ∧
  (∀ b, bt L b = true → bt w b = false → ∃ p, p < k ∧ pO b = nI p ∧ bA p = nI b ∧ ∀ a, bt L a = true → bt (A a) b = true → (bt w a = false ∧ ∃ q, q < p ∧ pO a = nI q)) ∧
  (1 ≤ k → bt w 0 = false ∧ pO 0 = nI 0)
section
variable {L : Int32} {A : Nat → Int32} (hL : bq_s L) (h0 : bt L 0 = true) (hA0 : ∀ a, bt L a = true → bt (A a) 0 = false)
theorem od_I0 {bA pO : Nat → Int32} : od_I L A 0 L bA pO :=
  ⟨rfl, fun _ h => h, Or.inr (by have := cn_6 L; omega), fun b h1 h2 => absurd h1 (by rw [h2]; decide), fun h => absurd h (by omega)⟩
theorem od_I6 {k : Nat} {w : Int32} {bA pO : Nat → Int32} (I : od_I L A k w bA pO) (h : ¬ od_n (od_F A w) < 6) (h0 : bt L 0 = true) (hA0 : ∀ a, bt L a = true → bt (A a) 0 = false) : od_I L A (k + 1) w bA pO := by
  obtain ⟨e, h1, h2, h3, h4⟩ := I
  refine ⟨?_, h1, Or.inl (by have := od_n6 (od_F A w); omega), ?_, ?_⟩
  · show w = od_u A (od_w A L k)
    rw [← e]; unfold od_u; rw [if_neg h]
  · intro b hb hw
    obtain ⟨p, a1, a2⟩ := h3 b hb hw
    exact ⟨p, by omega, a2⟩
  · intro _
    rcases Nat.eq_zero_or_pos k with rfl | hk
    · exfalso
      apply h
      have ew : w = L := e
      subst ew
      have : bt (od_F A w) 0 = true := od_Fm h0 (fun a _ ha => hA0 a ha)
      rcases Nat.eq_zero_or_pos (od_n (od_F A w)) with z | z
      · omega
      · rw [od_nf z] at this; exact absurd this (by decide)
    · exact h4 hk
theorem od_IS {k : Nat} (hk : k < 6) {w : Int32} {bA pO : Nat → Int32} (I : od_I L A k w bA pO) (h : od_n (od_F A w) < 6) (hL : bq_s L) (h0 : bt L 0 = true) (hA0 : ∀ a, bt L a = true → bt (A a) 0 = false) :
    od_I L A (k + 1) (w &&& (bq_i (od_n (od_F A w)) ^^^ (-1))) (upd bA k (nI (od_n (od_F A w)))) (upd pO (od_n (od_F A w)) (nI k)) := by
  obtain ⟨e, h1, h2, h3, h4⟩ := I
  obtain ⟨f1, f2⟩ := od_Fb (od_nt h)
  have hz : k = 0 → od_n (od_F A w) = 0 := by
    rintro rfl
    have ew : w = L := e
    subst ew
    have : bt (od_F A w) 0 = true := od_Fm h0 (fun a _ ha => hA0 a ha)
    rcases Nat.eq_zero_or_pos (od_n (od_F A w)) with z | z
    · exact z
    · rw [od_nf z] at this; exact absurd this (by decide)
  have eu : w &&& (bq_i (od_n (od_F A w)) ^^^ (-1)) = od_u A w := by unfold od_u; rw [if_pos h]
  generalize od_n (od_F A w) = n at h f1 f2 hz eu h2
  have wb : ∀ i, bt (w &&& (bq_i n ^^^ (-1))) i = (bt w i && !decide (i = n)) := by intro i; rw [bq_an, bq_t (by omega)]
  have wn : bt (w &&& (bq_i n ^^^ (-1))) n = false := by rw [wb, decide_eq_true rfl]; cases bt w n <;> rfl
  have wi : ∀ i, i ≠ n → bt (w &&& (bq_i n ^^^ (-1))) i = bt w i := by intro i hi; rw [wb, decide_eq_false hi]; cases bt w i <;> rfl
  have wf : ∀ i, bt w i = false → bt (w &&& (bq_i n ^^^ (-1))) i = false := by intro i hi; rw [wb, hi]; rfl
  have wt : ∀ i, bt (w &&& (bq_i n ^^^ (-1))) i = true → bt w i = true := by
    intro i hi
    cases z : bt w i
    · rw [wf i z] at hi; exact absurd hi (by decide)
    · rfl
  refine ⟨?_, fun i hi => h1 i (wt i hi), Or.inr ?_, ?_, ?_⟩
  · show _ = od_u A (od_w A L k)
    rw [← e]; exact eu
  · have := cn_lt wt h f1 wn
    rcases h2 with z | z <;> omega
  · intro b hb hw
    by_cases ebn : b = n
    · subst ebn
      refine ⟨k, by omega, pk_us, pk_us, fun a ha hab => ?_⟩
      have haw : bt w a = false := bq_nt fun z => by
        have := f2 a (hL a ha) z
        rw [hab] at this; exact absurd this (by decide)
      refine ⟨wf a haw, ?_⟩
      obtain ⟨p, p1, p2, _⟩ := h3 a ha haw
      refine ⟨p, p1, ?_⟩
      rw [pk_un (fun z => by rw [z, f1] at haw; exact absurd haw (by decide))]
      exact p2
    · rw [wi b ebn] at hw
      obtain ⟨p, p1, p2, p3, p4⟩ := h3 b hb hw
      refine ⟨p, by omega, by rw [pk_un ebn]; exact p2, by rw [pk_un (by omega)]; exact p3, fun a ha hab => ?_⟩
      obtain ⟨q1, q, q2, q3⟩ := p4 a ha hab
      refine ⟨wf a q1, q, q2, ?_⟩
      rw [pk_un (fun z => by rw [z, f1] at q1; exact absurd q1 (by decide))]
      exact q3
  · intro _
    rcases Nat.eq_zero_or_pos k with rfl | hk0
    · have := hz rfl
      subst this
      exact ⟨wn, pk_us⟩
    · obtain ⟨a, b⟩ := h4 hk0
      refine ⟨wf 0 a, ?_⟩
      rw [pk_un (fun z => by rw [z, f1] at a; exact absurd a (by decide))]
      exact b
end
/-! rings -/
def rg_S (E : Nat → Int32) (i j : Nat) : Prop := dq_L E i ∧ bt (E i) j = true ∧ ¬ dq_D E j i
def rg_c (E : Nat → Int32) (s : Int32) (c : Nat) : Prop := bt s (c / 6) = true ∧ (bt (E (c / 6)) (c % 6) = true ∧ ¬ dq_M E (c / 6) = 0) ∧ bt (dq_M E (c / 6)) (c % 6) = false
noncomputable def rg_o (E : Nat → Int32) (s : Int32) : Nat → Int32
  | 0 => 0
  | c + 1 => @ite _ (rg_c E s c) (Classical.propDecidable _) (rg_o E s c ||| bq_i (c % 6)) (rg_o E s c)
noncomputable def rg_f (E : Nat → Int32) (s : Int32) : Int32 := s ||| rg_o E s 36
noncomputable def rg_t (E : Nat → Int32) (b : Nat) : Nat → Int32
  | 0 => rg_o E (bq_i b) 36
  | k + 1 => rg_f E (rg_t E b k)
noncomputable def rg_R (E : Nat → Int32) : Nat → Bool
  | 0 => false
  | b + 1 => rg_R E b || bt (rg_t E b 6) b
theorem rg_ot {E : Nat → Int32} {s : Int32} {j : Nat} : ∀ n, bt (rg_o E s n) j = true ↔ ∃ c, c < n ∧ c % 6 = j ∧ rg_c E s c := by
  intro n
  induction n with
  | zero => show bt 0 j = true ↔ _; rw [b_0]; exact ⟨fun z => absurd z (by decide), fun ⟨a, z, _⟩ => absurd z (by omega)⟩
  | succ n ih =>
    unfold rg_o
    by_cases h : rg_c E s n
    · rw [if_pos h, b_or, Bool.or_eq_true, ih, bq_t (by omega), decide_eq_true_eq]
      constructor
      · rintro (⟨a, h1, h2, h3⟩ | h3)
        · exact ⟨a, by omega, h2, h3⟩
        · exact ⟨n, by omega, h3.symm, h⟩
      · rintro ⟨a, h1, h2, h3⟩
        by_cases e : a = n
        · subst e; exact Or.inr h2.symm
        · exact Or.inl ⟨a, by omega, h2, h3⟩
    · rw [if_neg h, ih]
      constructor
      · rintro ⟨a, h1, h2, h3⟩; exact ⟨a, by omega, h2, h3⟩
      · rintro ⟨a, h1, h2, h3⟩
        by_cases e : a = n
        · subst e; exact absurd h3 h
        · exact ⟨a, by omega, h2, h3⟩
theorem rg_nD {E : Nat → Int32} {i j : Nat} (hj : j < 6) : bt (dq_M E i) j = false ↔ ¬ dq_D E j i := by
  constructor
  · intro h z
    have := dq_Mt.mpr ⟨hj, z⟩
    rw [h] at this; exact absurd this (by decide)
  · intro h
    exact bq_nt fun z => h (dq_Mt.mp z).2
section
variable {E : Nat → Int32} (hE : cl_G E)
theorem rg_o36 {s : Int32} {j : Nat} (hE : cl_G E) : bt (rg_o E s 36) j = true ↔ ∃ i, i < 6 ∧ bt s i = true ∧ rg_S E i j := by
  rw [rg_ot]
  constructor
  · rintro ⟨c, hc, rfl, h1, ⟨h2, h3⟩, h4⟩
    have hi : c / 6 < 6 := by omega
    exact ⟨c / 6, hi, h1, (dq_M0 hE hi).mp h3, h2, (rg_nD (by omega)).mp h4⟩
  · rintro ⟨i, hi, h1, h2, h3, h4⟩
    have hj := (hE i hi j h3).1
    have e1 : (6 * i + j) / 6 = i := by omega
    have e2 : (6 * i + j) % 6 = j := by omega
    refine ⟨6 * i + j, by omega, e2, ?_⟩
    unfold rg_c
    rw [e1, e2]
    exact ⟨h1, ⟨h3, (dq_M0 hE hi).mpr h2⟩, (rg_nD hj).mpr h4⟩
theorem rg_os (hE : cl_G E) {s : Int32} : bq_s (rg_o E s 36) := by
  intro j h
  obtain ⟨i, hi, _, _, h3, _⟩ := (rg_o36 hE).mp h
  exact (hE i hi j h3).1
theorem rg_fs (hE : cl_G E) {s : Int32} (h : bq_s s) : bq_s (rg_f E s) := by
  intro j hj
  unfold rg_f at hj
  rw [b_or, Bool.or_eq_true] at hj
  exact hj.elim (h j) (rg_os hE j)
theorem rg_tc (hE : cl_G E) {b i j : Nat} (h : bt (rg_t E b 6) i = true) (hi : i < 6) (hS : rg_S E i j) : bt (rg_t E b 6) j = true := by
  have fx : rg_f E (rg_t E b 6) = rg_t E b 6 :=
    fx_p (rg_f E) (fun x i h => by unfold rg_f; rw [b_or, h]; rfl) (fun x hx => rg_fs hE hx) (rg_t E b) (rg_os hE) (fun k => rfl)
  rw [← fx]
  unfold rg_f
  rw [b_or, (rg_o36 hE).mpr ⟨i, hi, h, hS⟩]
  cases bt (rg_t E b 6) j <;> rfl
theorem rg_t1 (hE : cl_G E) {b j : Nat} (hb : b < 6) (hS : rg_S E b j) : ∀ k, bt (rg_t E b k) j = true := by
  intro k
  induction k with
  | zero => exact (rg_o36 hE).mpr ⟨b, hb, dq_bs hb, hS⟩
  | succ k ih => show bt (rg_f E _) j = true; unfold rg_f; rw [b_or, ih]; rfl
theorem rg_tl (hE : cl_G E) {b : Nat} (hb : b < 6) {S : Nat → Prop} (h1 : ∀ j, rg_S E b j → S j) (h2 : ∀ i j, S i → rg_S E i j → S j) : ∀ k j, bt (rg_t E b k) j = true → S j := by
  intro k
  induction k with
  | zero =>
    intro j h
    obtain ⟨i, hi, hs, h3⟩ := (rg_o36 hE).mp h
    rw [bq_t (by omega), decide_eq_true_eq] at hs
    subst hs
    exact h1 j h3
  | succ k ih =>
    intro j h
    have h : bt (rg_f E (rg_t E b k)) j = true := h
    unfold rg_f at h
    rw [b_or, Bool.or_eq_true] at h
    rcases h with h | h
    · exact ih j h
    · obtain ⟨i, hi, hs, h3⟩ := (rg_o36 hE).mp h
      exact h2 i j (ih i hs) h3
theorem rg_ts (hE : cl_G E) {b : Nat} (hb : b < 6) : bq_s (rg_t E b 6) :=
  rg_tl hE hb (S := fun j => j < 6) (fun j h => (hE b hb j h.2.1).1) (fun i j hi h => (hE i hi j h.2.1).1) 6
/-- a set of blocks each of which has a step into it from the set holds a ring -/
theorem rg_up (hE : cl_G E) {w : Int32} (hw : bq_s w) (h : ∀ b, bt w b = true → ∃ a, bt w a = true ∧ rg_S E a b) (hn : ∀ b, b < 6 → bt (rg_t E b 6) b = false) {b0 : Nat} (hb0 : bt w b0 = true) : ∀ n, ∃ b, bt w b = true ∧ n ≤ cn_t (rg_t E b 6) := by
  intro n
  induction n with
  | zero => exact ⟨b0, hb0, by omega⟩
  | succ n ih =>
    obtain ⟨b, hb, hc⟩ := ih
    obtain ⟨a, ha, hS⟩ := h b hb
    refine ⟨a, ha, ?_⟩
    have hba : bt (rg_t E a 6) b = true := rg_t1 hE (hw a ha) hS 6
    have hsub : ∀ j, bt (rg_t E b 6) j = true → bt (rg_t E a 6) j = true :=
      rg_tl hE (hw b hb) (S := fun j => bt (rg_t E a 6) j = true) (fun j hj => rg_tc hE hba (hw b hb) hj) (fun i j hi hj => rg_tc hE hi (rg_ts hE (hw a ha) i hi) hj) 6
    have := cn_lt hsub (hw b hb) hba (hn b (hw b hb))
    omega
end
theorem rg_Rf {E : Nat → Int32} : ∀ n, rg_R E n = false ↔ ∀ b, b < n → bt (rg_t E b 6) b = false := by
  intro n
  induction n with
  | zero => exact ⟨fun _ b hb => absurd hb (by omega), fun _ => rfl⟩
  | succ n ih =>
    unfold rg_R
    rw [Bool.or_eq_false_iff, ih]
    constructor
    · rintro ⟨h1, h2⟩ b hb
      by_cases e : b = n
      · subst e; exact h2
      · exact h1 b (by omega)
    · intro h
      exact ⟨fun b hb => h b (by omega), h n (by omega)⟩
theorem od_At {E : Nat → Int32} (hE : cl_G E) {a b : Nat} (ha : dq_L E a) : bt (od_A E a) b = true ↔ rg_S E a b := by
  unfold od_A
  rw [bq_an, Bool.and_eq_true, Bool.not_eq_true']
  constructor
  · rintro ⟨h1, h2⟩
    exact ⟨ha, h1, (rg_nD (hE a (dq_L6 hE ha) b h1).1).mp h2⟩
  · rintro ⟨_, h1, h2⟩
    exact ⟨h1, (rg_nD (hE a (dq_L6 hE ha) b h1).1).mpr h2⟩
/-- what a regular program's order is -/
def od_O (E : Nat → Int32) (bA pO : Nat → Int32) : Prop :=
  pO 0 = nI 0 ∧ ∀ b, dq_L E b → ∃ p, p < 6 ∧ pO b = nI p ∧ bA p = nI b ∧ ∀ a, rg_S E a b → ∃ q, q < p ∧ pO a = nI q
section
variable {E A : Nat → Int32} (hE : cl_G E) (hA : ∀ a, a < 6 → A a = od_A E a)
theorem od_A0 (hE : cl_G E) (hA : ∀ a, a < 6 → A a = od_A E a) : ∀ a, bt (cl_r E 0) a = true → bt (A a) 0 = false := by
  intro a ha
  rw [hA a (dq_L6 hE ha)]
  exact bq_nt fun z => ((od_At hE ha).mp z).2.2 (dq_0 ha)
theorem od_yes (hE : cl_G E) (hA : ∀ a, a < 6 → A a = od_A E a) {w : Int32} {bA pO : Nat → Int32} (I : od_I (cl_r E 0) A 6 w bA pO) (h : w = 0) : od_O E bA pO := by
  obtain ⟨_, _, _, h3, h4⟩ := I
  refine ⟨(h4 (by omega)).2, fun b hb => ?_⟩
  obtain ⟨p, p1, p2, p3, p4⟩ := h3 b hb (by rw [h, b_0])
  refine ⟨p, p1, p2, p3, fun a hS => ?_⟩
  exact (p4 a hS.1 (by rw [hA a (dq_L6 hE hS.1)]; exact (od_At hE hS.1).mpr hS)).2
theorem od_nr (hE : cl_G E) {bA pO : Nat → Int32} (O : od_O E bA pO) : rg_R E 6 = false := by
  rw [rg_Rf]
  intro b hb
  apply bq_nt
  intro h
  have key := rg_tl hE hb (S := fun j => dq_L E b ∧ dq_L E j ∧ ∃ p q, p < q ∧ q < 6 ∧ pO b = nI p ∧ pO j = nI q) ?_ ?_ 6 b h
  · obtain ⟨_, _, p, q, h1, h2, h3, h4⟩ := key
    have := (nI_eq (a := p) (b := q) (by omega) (by omega)).mp (h3.symm.trans h4)
    omega
  · intro j hS
    have hj := dq_Lc hE hS.1 hS.2.1
    obtain ⟨q, q1, q2, _, q4⟩ := O.2 j hj
    obtain ⟨p, p1, p2⟩ := q4 b hS
    exact ⟨hS.1, hj, p, q, p1, q1, p2, q2⟩
  · rintro i j ⟨hLb, hLi, p, q, h1, h2, h3, h4⟩ hS
    have hj := dq_Lc hE hS.1 hS.2.1
    obtain ⟨q', q1, q2, _, q4⟩ := O.2 j hj
    obtain ⟨p', p1, p2⟩ := q4 i hS
    have := (nI_eq (a := q) (b := p') (by omega) (by omega)).mp (h4.symm.trans p2)
    exact ⟨hLb, hj, p, q', by omega, q1, h3, q2⟩
theorem od_no (hE : cl_G E) (hA : ∀ a, a < 6 → A a = od_A E a) {w : Int32} {bA pO : Nat → Int32} (I : od_I (cl_r E 0) A 6 w bA pO) (h : ¬ w = 0) : rg_R E 6 = true := by
  obtain ⟨_, h1, h2, _, _⟩ := I
  have hw : bq_s w := fun i hi => cl_r_s hE i (h1 i hi)
  obtain ⟨b0, hb0, hb1⟩ := bq_nz hw h
  have hst : od_n (od_F A w) = 6 := by
    rcases h2 with z | z
    · exact z
    · have := cn_lt (x := 0) (y := w) (j := b0) (fun i hi => absurd hi (by rw [b_0]; decide)) hb0 hb1 (b_0 _)
      omega
  have hpre : ∀ b, bt w b = true → ∃ a, bt w a = true ∧ rg_S E a b := by
    intro b hb
    apply Classical.byContradiction
    intro hn
    have : bt (od_F A w) b = true := by
      apply od_Fm hb
      intro a ha haw
      apply bq_nt
      intro z
      rw [hA a ha] at z
      exact hn ⟨a, haw, (od_At hE (h1 a haw)).mp z⟩
    have z := hw b hb
    rw [od_nf (by omega)] at this; exact absurd this (by decide)
  apply bq_nf
  intro hR
  obtain ⟨b, _, hc⟩ := rg_up hE hw hpre ((rg_Rf 6).mp hR) hb1 7
  have := cn_6 (rg_t E b 6)
  omega
end
end
section
def wk_p : Nat → Nat
  | 0 => 1024
  | 1 => 256
  | 2 => 64
  | 3 => 16
  | 4 => 4
  | _ => 1
def wk_d (x p : Nat) : Nat := x / wk_p p % 4
def wk_n (x p : Nat) : Nat := (x / wk_p p + 1) * wk_p p
def wk_t : Nat → Nat
  | 0 => 1
  | 1 => 3
  | 2 => 9
  | 3 => 27
  | 4 => 81
  | _ => 243
def wk_c (s b : Nat) : Nat := s / 6 / wk_t b % 3
def wk_g (s b t : Nat) : Nat := 6 * (s / 6 - wk_c s b * wk_t b + t * wk_t b) + b
theorem wk_6 {p : Nat} (h : p < 6) : p = 0 ∨ p = 1 ∨ p = 2 ∨ p = 3 ∨ p = 4 ∨ p = 5 := by omega
theorem wk_nd {x p : Nat} (hp : p < 6) (hx : x < 4096) (hd : wk_d x p < 3) : wk_d (wk_n x p) p = wk_d x p + 1 := by
  revert hd
  unfold wk_d wk_n
  rcases wk_6 hp with rfl | rfl | rfl | rfl | rfl | rfl <;> simp only [wk_p] <;> omega
theorem wk_nl {x p q : Nat} (hp : p < 6) (hx : x < 4096) (hd : wk_d x p < 3) (hq : q < p) : wk_d (wk_n x p) q = wk_d x q := by
  revert hd
  unfold wk_d wk_n
  have hq6 : q < 6 := by omega
  rcases wk_6 hp with rfl | rfl | rfl | rfl | rfl | rfl <;> rcases wk_6 hq6 with rfl | rfl | rfl | rfl | rfl | rfl <;> simp only [wk_p] <;> omega
theorem wk_nh {x p q : Nat} (hq : q < 6) (hpq : p < q) : wk_d (wk_n x p) q = 0 := by
  unfold wk_d wk_n
  have hp : p < 6 := by omega
  rcases wk_6 hp with rfl | rfl | rfl | rfl | rfl | rfl <;> rcases wk_6 hq with rfl | rfl | rfl | rfl | rfl | rfl <;> simp only [wk_p] <;> omega
theorem wk_nx {x p : Nat} (hp : p < 6) : x < wk_n x p := by
  unfold wk_n
  rcases wk_6 hp with rfl | rfl | rfl | rfl | rfl | rfl <;> simp only [wk_p] <;> omega
theorem wk_n4 {x p : Nat} (hp : p < 6) (hx : x < 4096) (hd : wk_d x p < 3) : wk_n x p < 4096 := by
  revert hd
  unfold wk_n wk_d
  rcases wk_6 hp with rfl | rfl | rfl | rfl | rfl | rfl <;> simp only [wk_p] <;> omega
theorem wk_gm {s b t : Nat} (hb : b < 6) : wk_g s b t % 6 = b := by unfold wk_g; omega
theorem wk_gd {s b t : Nat} (hb : b < 6) : wk_g s b t / 6 = s / 6 - wk_c s b * wk_t b + t * wk_t b := by unfold wk_g; omega
theorem wk_cs {c b t : Nat} (hb : b < 6) (ht : t < 3) : (c - c / wk_t b % 3 * wk_t b + t * wk_t b) / wk_t b % 3 = t := by
  rcases wk_6 hb with rfl | rfl | rfl | rfl | rfl | rfl <;> simp only [wk_t] <;> omega
theorem wk_cn {c b d t : Nat} (hb : b < 6) (hd : d < 6) (hn : d ≠ b) (ht : t < 3) : (c - c / wk_t b % 3 * wk_t b + t * wk_t b) / wk_t d % 3 = c / wk_t d % 3 := by
  rcases wk_6 hb with rfl | rfl | rfl | rfl | rfl | rfl <;> rcases wk_6 hd with rfl | rfl | rfl | rfl | rfl | rfl <;> simp only [wk_t] <;> omega
theorem wk_cb {c b t : Nat} (hb : b < 6) (ht : t < 3) (hc : c < 729) : c - c / wk_t b % 3 * wk_t b + t * wk_t b < 729 := by
  rcases wk_6 hb with rfl | rfl | rfl | rfl | rfl | rfl <;> simp only [wk_t] <;> omega
theorem wk_gb {s b t : Nat} (hb : b < 6) (ht : t < 3) : wk_c (wk_g s b t) b = t := by
  show wk_g s b t / 6 / wk_t b % 3 = t
  rw [wk_gd hb]; exact wk_cs hb ht
theorem wk_go {s b d t : Nat} (hb : b < 6) (hd : d < 6) (hn : d ≠ b) (ht : t < 3) : wk_c (wk_g s b t) d = wk_c s d := by
  show wk_g s b t / 6 / wk_t d % 3 = _
  rw [wk_gd hb]; exact wk_cn hb hd hn ht
theorem wk_gl {s b t : Nat} (hb : b < 6) (ht : t < 3) (hs : s < 4374) : wk_g s b t < 4374 := by
  have := wk_cb (c := s / 6) hb ht (by omega)
  unfold wk_g wk_c
  omega
theorem wk_c3 (s b : Nat) : wk_c s b < 3 := Nat.mod_lt _ (by decide)
def wk_z (x : Nat) : Nat := if wk_d x 5 ≠ 0 then 5 else if wk_d x 4 ≠ 0 then 4 else if wk_d x 3 ≠ 0 then 3 else if wk_d x 2 ≠ 0 then 2 else if wk_d x 1 ≠ 0 then 1 else 0
theorem wk_ze {x p : Nat} (hp : p < 6) (h : wk_d x p ≠ 0) (hz : ∀ q, p < q → q < 6 → wk_d x q = 0) : wk_z x = p := by
  unfold wk_z
  by_cases h5 : p = 5
  · subst h5; rw [if_pos h]
  rw [if_neg (by rw [hz 5 (by omega) (by omega)]; decide)]
  by_cases h4 : p = 4
  · subst h4; rw [if_pos h]
  rw [if_neg (by rw [hz 4 (by omega) (by omega)]; decide)]
  by_cases h3 : p = 3
  · subst h3; rw [if_pos h]
  rw [if_neg (by rw [hz 3 (by omega) (by omega)]; decide)]
  by_cases h2 : p = 2
  · subst h2; rw [if_pos h]
  rw [if_neg (by rw [hz 2 (by omega) (by omega)]; decide)]
  by_cases h1 : p = 1
  · subst h1; rw [if_pos h]
  rw [if_neg (by rw [hz 1 (by omega) (by omega)]; decide)]
  omega
def wk_k (bA : Nat → Int32) (x : Nat) : Nat := (bA (wk_z x)).toNatClampNeg
def wk_T (E : Nat → Int32) (s b : Nat) : Nat := if bt (dq_M E (s % 6)) b = true then wk_c s b + 1 else 0
def wk_Y (E : Nat → Int32) (bd : Nat → Nat) (s b s' : Nat) : Prop := b < 6 ∧ dq_L E (s % 6) ∧ bt (E (s % 6)) b = true ∧ wk_T E s b < bd b ∧ s' = wk_g s b (wk_T E s b)
def wk_X (E : Nat → Int32) (bd : Nat → Nat) (bA : Nat → Int32) (pl : Nat → Nat) (x b x' : Nat) : Prop := b < 6 ∧ bt (E (wk_k bA x)) b = true ∧ wk_d x (pl b) + 1 ≤ bd b ∧ x' = wk_n x (pl b)
def gw_ (St : Nat → Nat → Nat → Prop) (wt : Nat → Nat) (s0 : Nat) : Nat → Nat → Nat → Prop
  | 0, s, w => s = s0 ∧ w = wt 0
  | n + 1, s', w' => ∃ s w b, gw_ St wt s0 n s w ∧ St s b s' ∧ w' = w + wt b
abbrev wk_YW (E : Nat → Int32) (bd wt : Nat → Nat) : Nat → Nat → Nat → Prop := gw_ (wk_Y E bd) wt 0
abbrev wk_XW (E : Nat → Int32) (bd wt : Nat → Nat) (bA : Nat → Int32) (pl : Nat → Nat) : Nat → Nat → Nat → Prop := gw_ (wk_X E bd bA pl) wt 1024
def wk_O (E : Nat → Int32) (bA : Nat → Int32) (pl : Nat → Nat) : Prop :=
  pl 0 = 0 ∧ (∀ b, dq_L E b → pl b < 6 ∧ bA (pl b) = nI b) ∧ (∀ a b, rg_S E a b → pl a < pl b)
def wk_J (E : Nat → Int32) (pl : Nat → Nat) (s x : Nat) : Prop :=
  s < 4374 ∧ 1024 ≤ x ∧ x < 4096 ∧ dq_L E (s % 6) ∧ (∀ d, d < 6 → dq_D E d (s % 6) → wk_d x (pl d) = wk_c s d + 1) ∧ (∀ q, pl (s % 6) < q → q < 6 → wk_d x q = 0)
section
variable {E : Nat → Int32} {bd wt : Nat → Nat} {bA : Nat → Int32} {pl : Nat → Nat}
theorem wk_inj (hE : cl_G E) (O : wk_O E bA pl) {a b : Nat} (ha : dq_L E a) (hb : dq_L E b) (h : pl a = pl b) : a = b := by
  have e := (O.2.1 a ha).2
  rw [h, (O.2.1 b hb).2] at e
  have h1 := dq_L6 hE ha
  have h2 := dq_L6 hE hb
  exact ((nI_eq (by omega) (by omega)).mp e).symm
theorem wk_le (hE : cl_G E) (O : wk_O E bA pl) : ∀ n a d, pl a = n → d < 6 → dq_D E d a → pl d ≤ pl a := by
  intro n
  induction n using Nat.strongRecOn with
  | ind n ih =>
    intro a d hn hd h
    by_cases e : a = 0
    · subst e; rw [dq_d0 hd h]; omega
    · by_cases e2 : d = a
      · subst e2; omega
      · obtain ⟨u, u1, u2, u3⟩ := dq_pr hE h.1 e
        have hlt := O.2.2 u a ⟨u1, u2, u3⟩
        have := ih (pl u) (by omega) u d rfl hd (dq_st hE u1 u2 hd h e2)
        omega
theorem wk_s1 (hE : cl_G E) (O : wk_O E bA pl) {s x b : Nat} (J : wk_J E pl s x) (he : bt (E (s % 6)) b = true) : wk_d x (pl b) = wk_T E s b := by
  obtain ⟨_, _, _, hL, h1, h2⟩ := J
  have hb := (hE (s % 6) (by omega) b he).1
  unfold wk_T
  by_cases h : bt (dq_M E (s % 6)) b = true
  · rw [if_pos h]; exact h1 b hb (dq_Mt.mp h).2
  · rw [if_neg h]
    have hS : rg_S E (s % 6) b := ⟨hL, he, (rg_nD hb).mp (bq_nt h)⟩
    exact h2 (pl b) (O.2.2 _ _ hS) (O.2.1 b (dq_Lc hE hL he)).1
theorem wk_s2 (hE : cl_G E) (O : wk_O E bA pl) (hbd : ∀ b, b < 6 → 1 ≤ bd b ∧ bd b ≤ 3) {s x b : Nat} (J : wk_J E pl s x) (he : bt (E (s % 6)) b = true) (ht : wk_T E s b < bd b) : wk_J E pl (wk_g s b (wk_T E s b)) (wk_n x (pl b)) := by
  have hc := wk_s1 hE O J he
  obtain ⟨j1, j2, j3, hL, h1, h2⟩ := J
  have hb := (hE (s % 6) (by omega) b he).1
  have hLb := dq_Lc hE hL he
  have hp := (O.2.1 b hLb).1
  have ht3 : wk_T E s b < 3 := by have := (hbd b hb).2; omega
  generalize wk_T E s b = t at hc ht ht3
  have hd3 : wk_d x (pl b) < 3 := by omega
  have hx := wk_nx (x := x) hp
  refine ⟨wk_gl hb ht3 j1, by omega, wk_n4 hp j3 hd3, ?_, ?_, ?_⟩
  · rw [wk_gm hb]; exact hLb
  · rw [wk_gm hb]
    intro d hd hD
    by_cases e : d = b
    · subst e
      rw [wk_nd hp j3 hd3, wk_gb hb ht3, hc]
    · have hDa := dq_st hE hL he hd hD e
      have hle := wk_le hE O (pl b) b d rfl hd hD
      have hne : pl d ≠ pl b := fun z => e (wk_inj hE O (dq_DL hE hd hD) hLb z)
      rw [wk_nl hp j3 hd3 (by omega), wk_go hb hd e ht3]
      exact h1 d hd hDa
  · rw [wk_gm hb]
    intro q hq hq6
    exact wk_nh hq6 hq
theorem wk_j0 (hE : cl_G E) (O : wk_O E bA pl) : wk_J E pl 0 1024 := by
  refine ⟨by omega, by omega, by omega, dq_L0, ?_, ?_⟩
  · intro d hd h
    have := dq_d0 hd h
    subst this
    rw [O.1]; decide
  · intro q hq hq6
    have : q ≠ 0 := by omega
    rcases wk_6 hq6 with rfl | rfl | rfl | rfl | rfl | rfl <;> first | exact absurd rfl this | decide
theorem wk_jk (hE : cl_G E) (O : wk_O E bA pl) {s x : Nat} (J : wk_J E pl s x) : bA (wk_z x) = nI (s % 6) ∧ wk_k bA x = s % 6 := by
  obtain ⟨j1, j2, j3, hL, h1, h2⟩ := J
  have hz : wk_z x = pl (s % 6) := wk_ze (O.2.1 _ hL).1 (by rw [h1 (s % 6) (by omega) (dq_rf hE hL)]; omega) h2
  have e : bA (wk_z x) = nI (s % 6) := by rw [hz]; exact (O.2.1 _ hL).2
  refine ⟨e, ?_⟩
  unfold wk_k
  rw [e, nI_clamp (by omega)]
theorem wk_YX (hE : cl_G E) (O : wk_O E bA pl) (hbd : ∀ b, b < 6 → 1 ≤ bd b ∧ bd b ≤ 3) : ∀ n s w, wk_YW E bd wt n s w → ∃ x, wk_XW E bd wt bA pl n x w ∧ wk_J E pl s x := by
  intro n
  induction n with
  | zero => rintro s w ⟨rfl, rfl⟩; exact ⟨1024, ⟨rfl, rfl⟩, wk_j0 hE O⟩
  | succ n ih =>
    rintro s' w' ⟨s, w, b, hw, ⟨y1, y2, y3, y4, rfl⟩, rfl⟩
    obtain ⟨x, hx, J⟩ := ih s w hw
    have hc := wk_s1 hE O J y3
    exact ⟨wk_n x (pl b), ⟨x, w, b, hx, ⟨y1, by rw [(wk_jk hE O J).2]; exact y3, by omega, rfl⟩, rfl⟩, wk_s2 hE O hbd J y3 y4⟩
theorem wk_XY (hE : cl_G E) (O : wk_O E bA pl) (hbd : ∀ b, b < 6 → 1 ≤ bd b ∧ bd b ≤ 3) : ∀ n x w, wk_XW E bd wt bA pl n x w → ∃ s, wk_YW E bd wt n s w ∧ wk_J E pl s x := by
  intro n
  induction n with
  | zero => rintro s w ⟨rfl, rfl⟩; exact ⟨0, ⟨rfl, rfl⟩, wk_j0 hE O⟩
  | succ n ih =>
    rintro x' w' ⟨x, w, b, hw, ⟨y1, y2, y3, rfl⟩, rfl⟩
    obtain ⟨s, hs, J⟩ := ih x w hw
    rw [(wk_jk hE O J).2] at y2
    have hc := wk_s1 hE O J y2
    have ht : wk_T E s b < bd b := by omega
    exact ⟨_, ⟨s, w, b, hs, ⟨y1, J.2.2.2.1, y2, ht, rfl⟩, rfl⟩, wk_s2 hE O hbd J y2 ht⟩
theorem wk_Xn (hE : cl_G E) (O : wk_O E bA pl) (hbd : ∀ b, b < 6 → 1 ≤ bd b ∧ bd b ≤ 3) (hwt : ∀ b, b < 6 → wt b ≤ 50) : ∀ n x w, wk_XW E bd wt bA pl n x w → 1024 + n ≤ x ∧ w ≤ 50 * (n + 1) := by
  intro n
  induction n with
  | zero => rintro s w ⟨rfl, rfl⟩; have := hwt 0 (by omega); omega
  | succ n ih =>
    rintro x' w' ⟨x, w, b, hw, ⟨y1, y2, y3, rfl⟩, rfl⟩
    have h := ih x w hw
    obtain ⟨s, hs, J⟩ := wk_XY hE O hbd n x w hw
    rw [(wk_jk hE O J).2] at y2
    have hL := dq_Lc hE J.2.2.2.1 y2
    have := wk_nx (x := x) (O.2.1 b hL).1
    have := hwt b y1
    omega
theorem wk_Xb (hE : cl_G E) (O : wk_O E bA pl) (hbd : ∀ b, b < 6 → 1 ≤ bd b ∧ bd b ≤ 3) (hwt : ∀ b, b < 6 → wt b ≤ 50) {n x w : Nat} (h : wk_XW E bd wt bA pl n x w) : 1024 ≤ x ∧ x < 4096 ∧ w ≤ 200000 := by
  have h1 := wk_Xn hE O hbd hwt n x w h
  obtain ⟨s, _, J⟩ := wk_XY hE O hbd n x w h
  have := J.2.2.1
  omega
theorem wk_Yb (hE : cl_G E) (O : wk_O E bA pl) (hbd : ∀ b, b < 6 → 1 ≤ bd b ∧ bd b ≤ 3) (hwt : ∀ b, b < 6 → wt b ≤ 50) {n s w : Nat} (h : wk_YW E bd wt n s w) : s < 4374 ∧ n < 4374 ∧ w ≤ 200000 := by
  obtain ⟨x, hx, J⟩ := wk_YX hE O hbd n s w h
  have h1 := wk_Xn hE O hbd hwt n x w hx
  have := J.2.2.1
  have := J.1
  omega
end
theorem wk_of {E : Nat → Int32} (hE : cl_G E) {bA pO : Nat → Int32} (O : od_O E bA pO) : wk_O E bA (fun b => (pO b).toNatClampNeg) ∧ ∀ b, dq_L E b → pO b = nI ((pO b).toNatClampNeg) := by
  have key : ∀ b, dq_L E b → pO b = nI ((pO b).toNatClampNeg) ∧ (pO b).toNatClampNeg < 6 ∧ bA ((pO b).toNatClampNeg) = nI b := by
    intro b hb
    obtain ⟨p, p1, p2, p3, _⟩ := O.2 b hb
    have : (pO b).toNatClampNeg = p := by rw [p2, nI_clamp (by omega)]
    rw [this]
    exact ⟨p2, p1, p3⟩
  refine ⟨⟨?_, fun b hb => (key b hb).2, ?_⟩, fun b hb => (key b hb).1⟩
  · show (pO 0).toNatClampNeg = 0
    rw [O.1, nI_clamp (by omega)]
  · intro a b hS
    obtain ⟨p, p1, p2, p3, p4⟩ := O.2 b (dq_Lc hE hS.1 hS.2.1)
    obtain ⟨q, q1, q2⟩ := p4 a hS
    show (pO a).toNatClampNeg < (pO b).toNatClampNeg
    rw [p2, q2, nI_clamp (by omega), nI_clamp (by omega)]
    exact q1
end
section
def gd_ (g : Bool) (w m : Nat) : Prop := (g = true → w ≤ m) ∧ (g = false → m ≤ w)
theorem gd_r (g : Bool) (w : Nat) : gd_ g w w := ⟨fun _ => Nat.le_refl _, fun _ => Nat.le_refl _⟩
theorem gd_t {g : Bool} {a b c : Nat} (h : gd_ g a b) (k : gd_ g b c) : gd_ g a c := ⟨fun z => Nat.le_trans (h.1 z) (k.1 z), fun z => Nat.le_trans (k.2 z) (h.2 z)⟩
theorem gd_p {g : Bool} {a b : Nat} (c : Nat) (h : gd_ g a b) : gd_ g (a + c) (b + c) := ⟨fun z => Nat.add_le_add_right (h.1 z) c, fun z => Nat.add_le_add_right (h.2 z) c⟩
theorem gd_a {g : Bool} {a b : Nat} (h : gd_ g a b) (k : gd_ g b a) : a = b := by
  cases g
  · exact Nat.le_antisymm (k.2 rfl) (h.2 rfl)
  · exact Nat.le_antisymm (h.1 rfl) (k.1 rfl)
theorem nn_1 {m : Nat} (h : m < 1073741824) : ¬ nI m = -1 := by
  intro e
  have h1 : (nI m).toInt = (m : Int) := nI_toInt (by omega)
  rw [e, show (-1 : Int32).toInt = -1 from by decide] at h1
  omega
theorem nn_e {a b : Nat} (ha : a < 1073741824) (hb : b < 1073741824) (h : nI a = nI b) : a = b := (nI_eq (by omega) (by omega)).mp h
/-- r is the best weight of those that P holds, -1 where there is none -/
def an_s (g : Bool) (P : Nat → Prop) (r : Int32) : Prop := (r = -1 ∧ ∀ w, ¬ P w) ∨ ∃ m, m < 1073741824 ∧ r = nI m ∧ P m ∧ ∀ w, P w → gd_ g w m
theorem an_u {g : Bool} {P Q : Nat → Prop} {r r' : Int32} (hPQ : ∀ w, P w ↔ Q w) (h : an_s g P r) (h' : an_s g Q r') : r = r' := by
  rcases h with ⟨e, h⟩ | ⟨m, hm, e, hP, h⟩
  · rcases h' with ⟨e', _⟩ | ⟨m', _, _, hP', _⟩
    · rw [e, e']
    · exact absurd ((hPQ m').mpr hP') (h m')
  · rcases h' with ⟨_, h'⟩ | ⟨m', hm', e', hP', h'⟩
    · exact absurd ((hPQ m).mp hP) (h' m)
    · rw [e, e', gd_a (h' m ((hPQ m).mp hP)) (h m' ((hPQ m').mpr hP'))]
section
variable {St : Nat → Nat → Nat → Prop} {wt : Nat → Nat} {s0 N : Nat}
def fl_S (St : Nat → Nat → Nat → Prop) (wt : Nat → Nat) (s0 N : Nat) (B : Nat → Int32) : Prop := ∀ s, s < N → B s = -1 ∨ ∃ n w, gw_ St wt s0 n s w ∧ B s = nI w
def fl_M (g : Bool) (B B' : Nat → Int32) : Prop := ∀ s m, m < 1073741824 → B s = nI m → ∃ m', m' < 1073741824 ∧ B' s = nI m' ∧ gd_ g m m'
def fl_E (St : Nat → Nat → Nat → Prop) (wt : Nat → Nat) (s0 N : Nat) (g : Bool) (B0 B : Nat → Int32) (s b : Nat) : Prop := ∀ s' m, St s b s' → m < 1073741824 → B0 s = nI m → ∃ m', m' < 1073741824 ∧ B s' = nI m' ∧ gd_ g (m + wt b) m'
def fl_B (St : Nat → Nat → Nat → Prop) (wt : Nat → Nat) (s0 N : Nat) : Prop := (∀ n s w, gw_ St wt s0 n s w → s < N ∧ n < N ∧ w ≤ 200000) ∧ (∀ s b s', St s b s' → b < 6) ∧ (∀ b, b < 6 → wt b ≤ 50)
theorem fl_Mr {g : Bool} {B : Nat → Int32} : fl_M g B B := fun s m hm e => ⟨m, hm, e, gd_r g m⟩
theorem fl_Mt {g : Bool} {B B' B'' : Nat → Int32} (h : fl_M g B B') (k : fl_M g B' B'') : fl_M g B B'' := by
  intro s m hm e
  obtain ⟨m1, h1, e1, d1⟩ := h s m hm e
  obtain ⟨m2, h2, e2, d2⟩ := k s m1 h1 e1
  exact ⟨m2, h2, e2, gd_t d1 d2⟩
theorem fl_EM {g : Bool} {B0 B B' : Nat → Int32} {s b : Nat} (h : fl_E St wt s0 N g B0 B s b) (k : fl_M g B B') : fl_E St wt s0 N g B0 B' s b := by
  intro s' m hy hm e
  obtain ⟨m1, h1, e1, d1⟩ := h s' m hy hm e
  obtain ⟨m2, h2, e2, d2⟩ := k s' m1 h1 e1
  exact ⟨m2, h2, e2, gd_t d1 d2⟩
theorem fl_ME {g : Bool} {B0 B B' : Nat → Int32} {s b : Nat} (k : fl_M g B0 B) (h : fl_E St wt s0 N g B B' s b) : fl_E St wt s0 N g B0 B' s b := by
  intro s' m hy hm e
  obtain ⟨m1, h1, e1, d1⟩ := k s m hm e
  obtain ⟨m2, h2, e2, d2⟩ := h s' m1 hy h1 e1
  exact ⟨m2, h2, e2, gd_t (gd_p _ d1) d2⟩
/-- a value at s, sound: its number and its walk -/
theorem fl_v (hB : fl_B St wt s0 N) {B : Nat → Int32} (S : fl_S St wt s0 N B) {s : Nat} (hs : s < N) (h : ¬ B s = -1) : ∃ n w, gw_ St wt s0 n s w ∧ B s = nI w ∧ w ≤ 200000 := by
  rcases S s hs with e | ⟨n, w, hw, e⟩
  · exact absurd e h
  · exact ⟨n, w, hw, e, (hB.1 n s w hw).2.2⟩
/-- a store of a better value -/
theorem fl_st (hB : fl_B St wt s0 N) {g : Bool} {B : Nat → Int32} (S : fl_S St wt s0 N B) {s b s' n m : Nat} (hw : gw_ St wt s0 n s m) (hy : St s b s')
    (hb : B s' = -1 ∨ ∃ m', m' < 1073741824 ∧ B s' = nI m' ∧ gd_ g m' (m + wt b)) :
    fl_S St wt s0 N (upd B s' (nI (m + wt b))) ∧ fl_M g B (upd B s' (nI (m + wt b))) ∧ ∃ m', m' < 1073741824 ∧ upd B s' (nI (m + wt b)) s' = nI m' ∧ gd_ g (m + wt b) m' := by
  have hw2 : gw_ St wt s0 (n + 1) s' (m + wt b) := ⟨s, m, b, hw, hy, rfl⟩
  have hl := (hB.1 _ _ _ hw2).2.2
  refine ⟨?_, ?_, m + wt b, by omega, pk_us, gd_r g _⟩
  · intro s1 hs1
    by_cases e : s1 = s'
    · subst e; exact Or.inr ⟨n + 1, m + wt b, hw2, pk_us⟩
    · rw [pk_un e]; exact S s1 hs1
  · intro s1 m1 hm1 e1
    by_cases e : s1 = s'
    · subst e
      refine ⟨m + wt b, by omega, pk_us, ?_⟩
      rcases hb with z | ⟨m', hm', z, d⟩
      · exact absurd (e1.symm.trans z) (nn_1 hm1)
      · rw [nn_e hm1 hm' (e1.symm.trans z)]; exact d
    · rw [pk_un e]; exact ⟨m1, hm1, e1, gd_r g m1⟩
/-- where a pass over the states stands behind i of them -/
def fl_P (St : Nat → Nat → Nat → Prop) (wt : Nat → Nat) (s0 N : Nat) (g : Bool) (B0 : Nat → Int32) (i : Nat) (B : Nat → Int32) : Prop :=
  fl_S St wt s0 N B ∧ fl_M g B0 B ∧ ∀ s, s < i → ∀ b, b < 6 → fl_E St wt s0 N g B0 B s b
def fl_C (St : Nat → Nat → Nat → Prop) (wt : Nat → Nat) (s0 N : Nat) (g : Bool) (k : Nat) (B : Nat → Int32) : Prop := ∀ n s w, n ≤ k → gw_ St wt s0 n s w → ∃ m, m < 1073741824 ∧ B s = nI m ∧ gd_ g w m
theorem fl_C1 (hB : fl_B St wt s0 N) {g : Bool} {k : Nat} {B0 B : Nat → Int32} (C : fl_C St wt s0 N g k B0) (P : fl_P St wt s0 N g B0 N B) : fl_C St wt s0 N g (k + 1) B := by
  intro n s' w' hn hw
  rcases Nat.lt_or_ge k n with h | h
  · have e : n = k + 1 := by omega
    subst e
    obtain ⟨s, w, b, hw1, hy, rfl⟩ := hw
    obtain ⟨m, hm, e, d⟩ := C k s w (by omega) hw1
    obtain ⟨m', hm', e', d'⟩ := P.2.2 s (hB.1 _ _ _ hw1).1 b (hB.2.1 _ _ _ hy) s' m hy hm e
    exact ⟨m', hm', e', gd_t (gd_p _ d) d'⟩
  · obtain ⟨m, hm, e, d⟩ := C n s' w' h hw
    obtain ⟨m', hm', e', d'⟩ := P.2.1 s' m hm e
    exact ⟨m', hm', e', gd_t d d'⟩
theorem fl_C2 (hB : fl_B St wt s0 N) {g : Bool} {B : Nat → Int32} (C : fl_C St wt s0 N g 0 B) (P : fl_P St wt s0 N g B N B) : ∀ k, fl_C St wt s0 N g k B := by
  intro k
  induction k with
  | zero => exact C
  | succ k ih => exact fl_C1 hB ih P
theorem fl_C3 {g : Bool} {k j : Nat} {B : Nat → Int32} (C : fl_C St wt s0 N g k B) (h : j ≤ k) : fl_C St wt s0 N g j B := fun n s w hn => C n s w (by omega)
/-- all is found -/
def fl_A (St : Nat → Nat → Nat → Prop) (wt : Nat → Nat) (s0 N : Nat) (g : Bool) (B : Nat → Int32) : Prop := fl_S St wt s0 N B ∧ fl_C St wt s0 N g N B
theorem fl_b0 (hB : fl_B St wt s0 N) {g : Bool} {B : Nat → Int32} (h0 : B s0 = nI (wt 0)) (h : ∀ s, s < N → s ≠ s0 → B s = -1) : fl_S St wt s0 N B ∧ fl_C St wt s0 N g 0 B := by
  constructor
  · intro s hs
    by_cases e : s = s0
    · subst e; exact Or.inr ⟨0, wt 0, ⟨rfl, rfl⟩, h0⟩
    · exact Or.inl (h s hs e)
  · intro n s w hn hw
    have e : n = 0 := by omega
    subst e
    obtain ⟨rfl, rfl⟩ := hw
    have := hB.2.2 0 (by omega)
    exact ⟨wt 0, by omega, h0, gd_r g _⟩
/-- where the search for the best value stands behind i states -/
def fl_V (g : Bool) (Q : Nat → Prop) (B : Nat → Int32) (i : Nat) (v : Int32) : Prop :=
  (v = -1 ∧ ∀ s, s < i → Q s → B s = -1) ∨ ∃ s m, s < i ∧ Q s ∧ m < 1073741824 ∧ B s = nI m ∧ v = nI m ∧ ∀ s' m', s' < i → Q s' → m' < 1073741824 → B s' = nI m' → gd_ g m' m
theorem fl_Vn {g : Bool} {Q : Nat → Prop} {B : Nat → Int32} {i : Nat} {v : Int32} (V : fl_V g Q B i v) (h : Q i → B i = -1) : fl_V g Q B (i + 1) v := by
  rcases V with ⟨e, V⟩ | ⟨s, m, h1, h2, h3, h4, h5, h6⟩
  · refine Or.inl ⟨e, fun s hs hq => ?_⟩
    by_cases z : s = i
    · subst z; exact h hq
    · exact V s (by omega) hq
  · refine Or.inr ⟨s, m, by omega, h2, h3, h4, h5, fun s' m' hs' hq hm' e' => ?_⟩
    by_cases z : s' = i
    · subst z; exact absurd (e'.symm.trans (h hq)) (nn_1 hm')
    · exact h6 s' m' (by omega) hq hm' e'
theorem fl_Vk {g : Bool} {Q : Nat → Prop} {B : Nat → Int32} {i m1 m : Nat} {v : Int32} (V : fl_V g Q B i v) (hm1 : m1 < 1073741824) (hv : v = nI m1) (hm : m < 1073741824) (e : B i = nI m) (hd : gd_ g m m1) : fl_V g Q B (i + 1) v := by
  rcases V with ⟨e1, _⟩ | ⟨s, m2, h1, h2, h3, h4, h5, h6⟩
  · exact absurd (hv.symm.trans e1) (nn_1 hm1)
  · have : m1 = m2 := nn_e hm1 h3 (hv.symm.trans h5)
    subst this
    refine Or.inr ⟨s, m1, by omega, h2, h3, h4, h5, fun s' m' hs' hq hm' e' => ?_⟩
    by_cases z : s' = i
    · subst z; rw [nn_e hm' hm (e'.symm.trans e)]; exact hd
    · exact h6 s' m' (by omega) hq hm' e'
theorem fl_Vs {g : Bool} {Q : Nat → Prop} {B : Nat → Int32} {i m : Nat} {v : Int32} (V : fl_V g Q B i v) (hq : Q i) (hm : m < 1073741824) (e : B i = nI m) (hd : v = -1 ∨ ∃ m1, m1 < 1073741824 ∧ v = nI m1 ∧ gd_ g m1 m) : fl_V g Q B (i + 1) (nI m) := by
  refine Or.inr ⟨i, m, by omega, hq, hm, e, rfl, fun s' m' hs' hq' hm' e' => ?_⟩
  by_cases z : s' = i
  · subst z; rw [nn_e hm' hm (e'.symm.trans e)]; exact gd_r g m
  · rcases V with ⟨e1, V⟩ | ⟨s, m2, h1, h2, h3, h4, h5, h6⟩
    · exact absurd (e'.symm.trans (V s' (by omega) hq')) (nn_1 hm')
    · rcases hd with z1 | ⟨m1, a1, a2, a3⟩
      · exact absurd (h5.symm.trans z1) (nn_1 h3)
      · have := nn_e h3 a1 (h5.symm.trans a2)
        subst this
        exact gd_t (h6 s' m' (by omega) hq' hm' e') a3
theorem fl_V0 {g : Bool} {Q : Nat → Prop} {B : Nat → Int32} : fl_V g Q B 0 (-1) := Or.inl ⟨rfl, fun s hs => absurd hs (by omega)⟩
theorem fl_an (hB : fl_B St wt s0 N) {g : Bool} {Q : Nat → Prop} {B : Nat → Int32} {v : Int32} (A : fl_A St wt s0 N g B) (V : fl_V g Q B N v) : an_s g (fun w => ∃ n s, gw_ St wt s0 n s w ∧ Q s) v := by
  rcases V with ⟨e, V⟩ | ⟨s, m, h1, h2, h3, h4, h5, h6⟩
  · refine Or.inl ⟨e, ?_⟩
    rintro w ⟨n, s, hw, hq⟩
    have hb := hB.1 _ _ _ hw
    obtain ⟨m, hm, e1, _⟩ := A.2 n s w (by omega) hw
    exact nn_1 hm (e1.symm.trans (V s hb.1 hq))
  · refine Or.inr ⟨m, h3, h5, ?_, ?_⟩
    · obtain ⟨n, w, hw, e, _⟩ := fl_v hB A.1 h1 (by rw [h4]; exact nn_1 h3)
      have hb := (hB.1 _ _ _ hw).2.2
      have : m = w := nn_e h3 (by omega) (h4.symm.trans e)
      subst this
      exact ⟨n, s, hw, h2⟩
    · rintro w ⟨n, s', hw, hq⟩
      have hb := hB.1 _ _ _ hw
      obtain ⟨m', hm', e1, d⟩ := A.2 n s' w (by omega) hw
      exact gd_t d (h6 s' m' hb.1 hq hm' e1)
end
end
section
/-- where a step from state i over the blocks stands behind b of them; K: the states that stay as they are -/
def sp_I (St : Nat → Nat → Nat → Prop) (wt : Nat → Nat) (s0 N : Nat) (g : Bool) (K : Nat → Prop) (i b : Nat) (B0 B : Nat → Int32) : Prop :=
  fl_S St wt s0 N B ∧ fl_M g B0 B ∧ (∀ s, K s → B s = B0 s) ∧ (∀ b', b' < b → fl_E St wt s0 N g B0 B i b')
section
variable {St : Nat → Nat → Nat → Prop} {wt : Nat → Nat} {s0 N : Nat} {g : Bool} {K : Nat → Prop} {i b : Nat} {B0 B : Nat → Int32}
theorem sp_0 (S : fl_S St wt s0 N B0) : sp_I St wt s0 N g K i 0 B0 B0 := ⟨S, fl_Mr, fun _ _ => rfl, fun b' h => absurd h (by omega)⟩
theorem sp_n (I : sp_I St wt s0 N g K i b B0 B) (h : ∀ s', ¬ St i b s') : sp_I St wt s0 N g K i (b + 1) B0 B := by
  refine ⟨I.1, I.2.1, I.2.2.1, fun b' hb' => ?_⟩
  by_cases e : b' = b
  · subst e; exact fun s' m hy => absurd hy (h s')
  · exact I.2.2.2 b' (by omega)
/-- the visit's value is stored -/
theorem sp_s (hB : fl_B St wt s0 N) (hdet : ∀ s b s1 s2, St s b s1 → St s b s2 → s1 = s2) (I : sp_I St wt s0 N g K i b B0 B) {x' n m : Nat} (hy : St i b x') (hK : ¬ K x') (hw : gw_ St wt s0 n i m) (hm : B0 i = nI m)
    (hb : B x' = -1 ∨ ∃ m', m' < 1073741824 ∧ B x' = nI m' ∧ gd_ g m' (m + wt b)) : sp_I St wt s0 N g K i (b + 1) B0 (upd B x' (nI (m + wt b))) := by
  obtain ⟨S', M', m', hm', e', d'⟩ := fl_st hB I.1 hw hy hb
  have hm0 : m < 1073741824 := by have := (hB.1 _ _ _ hw).2.2; omega
  refine ⟨S', fl_Mt I.2.1 M', fun s hs => ?_, fun b' hb' => ?_⟩
  · have hne : s ≠ x' := fun z => hK (by rw [← z]; exact hs)
    rw [pk_un hne]; exact I.2.2.1 s hs
  · by_cases e : b' = b
    · subst e
      intro s' m1 hy1 hm1 e1
      have h1 := hdet _ _ _ _ hy1 hy
      subst h1
      rw [nn_e hm1 hm0 (e1.symm.trans hm)]
      exact ⟨m', hm', e', d'⟩
    · exact fl_EM (I.2.2.2 b' (by omega)) M'
/-- the visit's value is no better than what stands there -/
theorem sp_k (hB : fl_B St wt s0 N) (hdet : ∀ s b s1 s2, St s b s1 → St s b s2 → s1 = s2) (I : sp_I St wt s0 N g K i b B0 B) {x' n m : Nat} (hy : St i b x') (hw : gw_ St wt s0 n i m) (hm : B0 i = nI m)
    (hb : ∃ m', m' < 1073741824 ∧ B x' = nI m' ∧ gd_ g (m + wt b) m') : sp_I St wt s0 N g K i (b + 1) B0 B := by
  have hm0 : m < 1073741824 := by have := (hB.1 _ _ _ hw).2.2; omega
  refine ⟨I.1, I.2.1, I.2.2.1, fun b' hb' => ?_⟩
  by_cases e : b' = b
  · subst e
    intro s' m1 hy1 hm1 e1
    have h1 := hdet _ _ _ _ hy1 hy
    subst h1
    rw [nn_e hm1 hm0 (e1.symm.trans hm)]
    exact hb
  · exact I.2.2.2 b' (by omega)
/-! Y: a pass over all states -/
theorem py_0 (S : fl_S St wt s0 N B0) : fl_P St wt s0 N g B0 0 B0 := ⟨S, fl_Mr, fun s hs => absurd hs (by omega)⟩
theorem py_n (P : fl_P St wt s0 N g B0 i B) (h : B i = -1) : fl_P St wt s0 N g B0 (i + 1) B := by
  refine ⟨P.1, P.2.1, fun s hs b hb => ?_⟩
  by_cases e : s = i
  · subst e
    intro s' m hy hm e1
    obtain ⟨m1, h1, e2, _⟩ := P.2.1 s m hm e1
    exact absurd (e2.symm.trans h) (nn_1 h1)
  · exact P.2.2 s (by omega) b hb
theorem py_s {B' : Nat → Int32} (P : fl_P St wt s0 N g B0 i B) (I : sp_I St wt s0 N g K i 6 B B') : fl_P St wt s0 N g B0 (i + 1) B' := by
  refine ⟨I.1, fl_Mt P.2.1 I.2.1, fun s hs b hb => ?_⟩
  by_cases e : s = i
  · subst e
    exact fl_ME P.2.1 (I.2.2.2 b hb)
  · exact fl_EM (P.2.2 s (by omega) b hb) I.2.1
/-! X: one pass upward -/
def px_I (St : Nat → Nat → Nat → Prop) (wt : Nat → Nat) (s0 N : Nat) (g : Bool) (i : Nat) (B : Nat → Int32) : Prop :=
  fl_S St wt s0 N B ∧ fl_C St wt s0 N g 0 B ∧ ∀ s, s < i → ∀ b, b < 6 → fl_E St wt s0 N g B B s b
theorem px_n (P : px_I St wt s0 N g i B) (h : B i = -1) : px_I St wt s0 N g (i + 1) B := by
  refine ⟨P.1, P.2.1, fun s hs b hb => ?_⟩
  by_cases e : s = i
  · subst e
    intro s' m hy hm e1
    exact absurd (e1.symm.trans h) (nn_1 hm)
  · exact P.2.2 s (by omega) b hb
theorem px_s {B' : Nat → Int32} (P : px_I St wt s0 N g i B) (I : sp_I St wt s0 N g (fun s => s ≤ i) i 6 B B') : px_I St wt s0 N g (i + 1) B' := by
  refine ⟨I.1, ?_, fun s hs b hb => ?_⟩
  · intro n s w hn hw
    obtain ⟨m, hm, e, d⟩ := P.2.1 n s w hn hw
    obtain ⟨m', hm', e', d'⟩ := I.2.1 s m hm e
    exact ⟨m', hm', e', gd_t d d'⟩
  · have key : fl_E St wt s0 N g B B' s b := by
      by_cases e : s = i
      · subst e; exact I.2.2.2 b hb
      · exact fl_EM (P.2.2 s (by omega) b hb) I.2.1
    intro s' m hy hm e1
    rw [I.2.2.1 s (by show s ≤ i; omega)] at e1
    exact key s' m hy hm e1
theorem px_A (hB : fl_B St wt s0 N) (P : px_I St wt s0 N g N B) : fl_A St wt s0 N g B := ⟨P.1, fl_C2 hB P.2.1 ⟨P.1, fl_Mr, P.2.2⟩ N⟩
/-! Y: the passes -/
def py_I (St : Nat → Nat → Nat → Prop) (wt : Nat → Nat) (s0 N : Nat) (g : Bool) (k : Nat) (more : Int32) (B : Nat → Int32) : Prop :=
  fl_S St wt s0 N B ∧ fl_C St wt s0 N g k B ∧ (more = 0 → fl_A St wt s0 N g B) ∧ (more = 0 ∨ more = 1)
theorem py_S {more : Int32} {k : Nat} (hB : fl_B St wt s0 N) (S : fl_S St wt s0 N B0) (C : fl_C St wt s0 N g k B0) (P : fl_P St wt s0 N g B0 N B) (h : more = 0 → B = B0) (hm : more = 0 ∨ more = 1) : py_I St wt s0 N g (k + 1) more B := by
  refine ⟨P.1, fl_C1 hB C P, fun z => ?_, hm⟩
  have e := h z
  subst e
  exact ⟨P.1, fl_C2 hB (fl_C3 C (by omega)) P N⟩
end
section
variable {E : Nat → Int32} {bd wt : Nat → Nat} {bA : Nat → Int32} {pl : Nat → Nat}
theorem dx_B (hE : cl_G E) (O : wk_O E bA pl) (hbd : ∀ b, b < 6 → 1 ≤ bd b ∧ bd b ≤ 3) (hwt : ∀ b, b < 6 → wt b ≤ 50) : fl_B (wk_X E bd bA pl) wt 1024 4096 := by
  refine ⟨fun n s w h => ?_, fun s b s' h => h.1, hwt⟩
  have h1 := wk_Xb hE O hbd hwt h
  have h2 := wk_Xn hE O hbd hwt n s w h
  omega
theorem dy_B (hE : cl_G E) (O : wk_O E bA pl) (hbd : ∀ b, b < 6 → 1 ≤ bd b ∧ bd b ≤ 3) (hwt : ∀ b, b < 6 → wt b ≤ 50) : fl_B (wk_Y E bd) wt 0 4374 :=
  ⟨fun n s w h => wk_Yb hE O hbd hwt h, fun s b s' h => h.1, hwt⟩
theorem dx_d {x b x1 x2 : Nat} (h1 : wk_X E bd bA pl x b x1) (h2 : wk_X E bd bA pl x b x2) : x1 = x2 := h1.2.2.2.trans h2.2.2.2.symm
theorem dy_d {x b x1 x2 : Nat} (h1 : wk_Y E bd x b x1) (h2 : wk_Y E bd x b x2) : x1 = x2 := h1.2.2.2.2.trans h2.2.2.2.2.symm
/-- the two ways of walking have the same weights -/
theorem xy_P (hE : cl_G E) (O : wk_O E bA pl) (hbd : ∀ b, b < 6 → 1 ≤ bd b ∧ bd b ≤ 3) {QX QY : Nat → Prop} (hQ : ∀ s x, wk_J E pl s x → (QX x ↔ QY s)) (w : Nat) :
    (∃ n x, wk_XW E bd wt bA pl n x w ∧ QX x) ↔ ∃ n s, wk_YW E bd wt n s w ∧ QY s := by
  constructor
  · rintro ⟨n, x, h, hq⟩
    obtain ⟨s, hs, J⟩ := wk_XY hE O hbd n x w h
    exact ⟨n, s, hs, (hQ s x J).mp hq⟩
  · rintro ⟨n, s, h, hq⟩
    obtain ⟨x, hx, J⟩ := wk_YX hE O hbd n s w h
    exact ⟨n, x, hx, (hQ s x J).mpr hq⟩
end
end
section
def lo_b (E : Nat → Int32) (h : Nat) : Nat → Int32
  | 0 => 0
  | u + 1 => if bt (E u &&& dq_M E u) h = true then lo_b E h u ||| bq_i u else lo_b E h u
def lo_s (E : Nat → Int32) (oth : Int32) (b : Nat) (body : Int32) : Int32 := if bt oth b = true ∧ ¬ (E b &&& body) = 0 then body ||| bq_i b else body
def lo_i (E : Nat → Int32) (oth : Int32) : Nat → Int32 → Int32
  | 0, r => r
  | b + 1, r => lo_s E oth b (lo_i E oth b r)
def lo_o (E : Nat → Int32) (oth : Int32) (r : Int32) : Nat → Int32
  | 0 => r
  | k + 1 => lo_i E oth 6 (lo_o E oth r k)
/-- the loop of block h, as X reckons it -/
def lo_v (E : Nat → Int32) (h : Nat) : Int32 :=
  if lo_b E h 6 = 0 then 0 else lo_o E (cl_r E 0 &&& (bq_i h ^^^ (-1))) (lo_b E h 6) 6 ||| bq_i h
def lr_b (E : Nat → Int32) (h : Nat) : Nat → Int32
  | 0 => 0
  | u + 1 => if (bt (E u) h = true ∧ ¬ dq_M E u = 0) ∧ bt (dq_M E u) h = true then (lr_b E h u ||| bq_i u) ||| bq_i h else lr_b E h u
def lr_s (E : Nat → Int32) (h a : Nat) (set : Int32) : Int32 := if ¬ dq_M E a = 0 ∧ a ≠ h ∧ ¬ ((E a &&& set) &&& (bq_i h ^^^ (-1))) = 0 then set ||| bq_i a else set
def lr_i (E : Nat → Int32) (h : Nat) : Nat → Int32 → Int32
  | 0, r => r
  | a + 1, r => lr_s E h a (lr_i E h a r)
def lr_o (E : Nat → Int32) (h : Nat) (r : Int32) : Nat → Int32
  | 0 => r
  | k + 1 => lr_i E h 6 (lr_o E h r k)
def lr_R (h : Nat) (body set : Int32) : Prop := (body = 0 ∧ set = 0) ∨ (¬ body = 0 ∧ bt body h = false ∧ set = body ||| bq_i h)
theorem lo_nz {x : Int32} {i : Nat} (h : bt x i = true) : ¬ x = 0 := fun z => by rw [z, b_0] at h; exact absurd h (by decide)
theorem lo_or {x : Int32} {u : Nat} (hu : u < 6) : ¬ (x ||| bq_i u) = 0 := lo_nz (i := u) (by rw [b_or, dq_bs hu]; cases bt x u <;> rfl)
section
variable {E : Nat → Int32} {h : Nat}
theorem lo_R0 (hE : cl_G E) (hh : h < 6) : ∀ n, n ≤ 6 → lr_R h (lo_b E h n) (lr_b E h n) := by
  intro n
  induction n with
  | zero => intro _; exact Or.inl ⟨rfl, rfl⟩
  | succ u ih =>
    intro hu
    have ih := ih (by omega)
    unfold lo_b lr_b
    by_cases c : bt (E u &&& dq_M E u) h = true
    · have c2 := c
      rw [b_and, Bool.and_eq_true] at c2
      have c3 : (bt (E u) h = true ∧ ¬ dq_M E u = 0) ∧ bt (dq_M E u) h = true := ⟨⟨c2.1, lo_nz c2.2⟩, c2.2⟩
      rw [if_pos c, if_pos c3]
      have hne : h ≠ u := (hE u (by omega) h c2.1).2
      right
      refine ⟨lo_or (by omega), ?_, ?_⟩
      · rw [b_or, dq_bi (by omega) hne]
        rcases ih with ⟨e, _⟩ | ⟨_, e, _⟩
        · rw [e, b_0]; rfl
        · rw [e]; rfl
      · rcases ih with ⟨e, e2⟩ | ⟨_, _, e⟩
        · rw [e, e2]
        · rw [e]
          apply b_ext
          intro i _
          simp only [b_or]
          cases bt (lo_b E h u) i <;> cases bt (bq_i h) i <;> cases bt (bq_i u) i <;> rfl
    · rw [if_neg c, if_neg (fun z => c (by rw [b_and, z.1.1, z.2]; rfl))]
      exact ih
theorem lo_Rs (hE : cl_G E) (hh : h < 6) {b : Nat} (hb : b < 6) {body set : Int32} (R : lr_R h body set) : lr_R h (lo_s E (cl_r E 0 &&& (bq_i h ^^^ (-1))) b body) (lr_s E h b set) := by
  unfold lo_s lr_s
  rcases R with ⟨rfl, rfl⟩ | ⟨h1, h2, rfl⟩
  · have z1 : E b &&& 0 = 0 := b_ext fun i _ => by rw [b_and, b_0]; cases bt (E b) i <;> rfl
    have z2 : (0 : Int32) &&& (bq_i h ^^^ (-1)) = 0 := b_ext fun i _ => by rw [b_and, b_0]; rfl
    rw [if_neg (fun z => z.2 z1), if_neg (fun z => z.2.2 (by rw [z1, z2]))]
    exact Or.inl ⟨rfl, rfl⟩
  · have e : (E b &&& (body ||| bq_i h)) &&& (bq_i h ^^^ (-1)) = E b &&& body := by
      apply b_ext
      intro i _
      rw [bq_an, b_and, b_or, b_and]
      by_cases z : i = h
      · subst z; rw [h2]; cases bt (E b) i <;> cases bt (bq_i i) i <;> rfl
      · rw [dq_bi hh z]; cases bt (E b) i <;> cases bt body i <;> rfl
    have e2 : bt (cl_r E 0 &&& (bq_i h ^^^ (-1))) b = true ↔ (¬ dq_M E b = 0 ∧ b ≠ h) := by
      rw [bq_an, Bool.and_eq_true, Bool.not_eq_true', bq_t (by omega), decide_eq_false_iff_not, dq_M0 hE hb]
      exact Iff.rfl
    by_cases c : bt (cl_r E 0 &&& (bq_i h ^^^ (-1))) b = true ∧ ¬ (E b &&& body) = 0
    · have c2 : ¬ dq_M E b = 0 ∧ b ≠ h ∧ ¬ ((E b &&& (body ||| bq_i h)) &&& (bq_i h ^^^ (-1))) = 0 := ⟨(e2.mp c.1).1, (e2.mp c.1).2, by rw [e]; exact c.2⟩
      rw [if_pos c, if_pos c2]
      right
      refine ⟨lo_or hb, ?_, ?_⟩
      · rw [b_or, h2, dq_bi hb (fun z => c2.2.1 z.symm)]; rfl
      · apply b_ext
        intro i _
        simp only [b_or]
        cases bt body i <;> cases bt (bq_i h) i <;> cases bt (bq_i b) i <;> rfl
    · rw [if_neg c, if_neg (fun z => c ⟨e2.mpr ⟨z.1, z.2.1⟩, by rw [← e]; exact z.2.2⟩)]
      exact Or.inr ⟨h1, h2, rfl⟩
theorem lo_Ri (hE : cl_G E) (hh : h < 6) {body set : Int32} (R : lr_R h body set) : ∀ n, n ≤ 6 → lr_R h (lo_i E (cl_r E 0 &&& (bq_i h ^^^ (-1))) n body) (lr_i E h n set) := by
  intro n
  induction n with
  | zero => intro _; exact R
  | succ n ih => intro hn; exact lo_Rs hE hh (by omega) (ih (by omega))
theorem lo_Ro (hE : cl_G E) (hh : h < 6) {body set : Int32} (R : lr_R h body set) : ∀ k, lr_R h (lo_o E (cl_r E 0 &&& (bq_i h ^^^ (-1))) body k) (lr_o E h set k) := by
  intro k
  induction k with
  | zero => exact R
  | succ k ih => exact lo_Ri hE hh ih 6 (by omega)
theorem lr_0i (hE : cl_G E) (hh : h < 6) : ∀ n, n ≤ 6 → lr_i E h n 0 = 0 := by
  intro n
  induction n with
  | zero => intro _; rfl
  | succ n ih =>
    intro hn
    show lr_s E h n (lr_i E h n 0) = 0
    rw [ih (by omega)]
    unfold lr_s
    have z1 : E n &&& 0 = 0 := b_ext fun i _ => by rw [b_and, b_0]; cases bt (E n) i <;> rfl
    have z2 : (0 : Int32) &&& (bq_i h ^^^ (-1)) = 0 := b_ext fun i _ => by rw [b_and, b_0]; rfl
    exact if_neg (fun z => z.2.2 (by rw [z1, z2]))
theorem lr_0o (hE : cl_G E) (hh : h < 6) : ∀ k, lr_o E h 0 k = 0 := by
  intro k
  induction k with
  | zero => rfl
  | succ k ih => show lr_i E h 6 (lr_o E h 0 k) = 0; rw [ih]; exact lr_0i hE hh 6 (by omega)
/-- the loop, as Y reckons it -/
theorem lo_eq (hE : cl_G E) (hh : h < 6) : lr_o E h (lr_b E h 6) 6 = lo_v E h := by
  have R0 := lo_R0 hE hh 6 (by omega)
  unfold lo_v
  by_cases c : lo_b E h 6 = 0
  · rw [if_pos c]
    rcases R0 with ⟨_, e⟩ | ⟨e, _⟩
    · rw [e]; exact lr_0o hE hh 6
    · exact absurd c e
  · rw [if_neg c]
    have up : ∀ k, ¬ lo_o E (cl_r E 0 &&& (bq_i h ^^^ (-1))) (lo_b E h 6) k = 0 := by
      obtain ⟨i, hi⟩ : ∃ i, bt (lo_b E h 6) i = true := by
        apply Classical.byContradiction
        intro hn
        exact c (bq_z.mpr fun i => bq_nt fun z => hn ⟨i, z⟩)
      have us : ∀ o b r, bt r i = true → bt (lo_s E o b r) i = true := by
        intro o b r hr
        unfold lo_s
        by_cases z : bt o b = true ∧ ¬ (E b &&& r) = 0
        · rw [if_pos z, b_or, hr]; rfl
        · rw [if_neg z]; exact hr
      have ui : ∀ o n r, bt r i = true → bt (lo_i E o n r) i = true := by
        intro o n r hr
        induction n with
        | zero => exact hr
        | succ n ih => exact us o n _ ih
      intro k
      apply lo_nz (i := i)
      induction k with
      | zero => exact hi
      | succ k ih => exact ui _ 6 _ ih
    rcases lo_Ro hE hh R0 6 with ⟨e, _⟩ | ⟨_, _, e⟩
    · exact absurd e (up 6)
    · exact e
end
end
section
theorem ge_6 {i : Nat} (h : i < 6) : ¬ (6 : Int32) ≤ nI i := nI_ge (b := 6) h (by decide)
theorem le_6 : (6 : Int32) ≤ nI 6 := nI_le (a := 6) (b := 6) (by omega) (by decide)
theorem in_6 {i : Nat} (h : i < 6) : vp_in (nI i) 6 := vp_in_nI h (by decide)
theorem cl_n {i : Nat} (h : i < 100000) : (nI i).toNatClampNeg = i := nI_clamp (by omega)
theorem no_1 : ¬ (1 : Int32) = 0 := by decide
theorem xh_ {post : Int32 → Prop} (x : Int32) {b : Nat} (hb : b < 6) (h1 : bt x b = true → post 1) (h0 : bt x b = false → post 0) : wpX_has post x (nI b) :=
  ⟨fun z => h0 ((bq_h0 x (by omega)).mp z), fun z => h1 (bq_nf fun y => z ((bq_h0 x (by omega)).mpr y))⟩
theorem xb_y {post : Int32 → Prop} {j : Nat} (hj : j < 6) (h : post 1) : wpX_isBlock post (nI j) :=
  br_f (nI_pos (by omega)) (br_f (ge_6 hj) h)
theorem xb_n {post : Int32 → Prop} {p : Int32} (hp : p < 0 ∨ nI 6 ≤ p) (h : post 0) : wpX_isBlock post p := by
  by_cases c : p < 0
  · exact br_t c h
  · exact br_f c (br_t (hp.elim (fun z => absurd z c) id) h)
theorem ix_6 (p : Int32) : (p < 0 ∨ nI 6 ≤ p) ∨ ∃ j : Nat, j < 6 ∧ p = nI j := by
  rcases pk_ix p (n := 6) (by decide) with h | h | h
  · exact Or.inl (Or.inl h)
  · exact Or.inl (Or.inr h)
  · exact Or.inr h
section
variable {co bo E ah bl pc we he li : Nat → Int32}
theorem xr_i {post : Int32 → Prop} {J : Int32 → Int32 → Prop} {m x3 r : Int32} (h : J (cl_i E m 6 r) (x3 + 1)) : ∃ n, wX_reachedWithout_17 post J m x3 co bo E ah bl pc we he li n r 0 :=
  loop_0 (fun n i s => wX_reachedWithout_17 post J m x3 co bo E ah bl pc we he li n s (nI i)) (fun i s => s = cl_i E m i r) 6 r rfl
    (fun n s hs => br_t le_6 (fun y ey => by rw [ey, hs]; exact h))
    (fun n i s hi hs k => by
      refine br_f (ge_6 hi) (xh_ s hi (fun hb => br_f no_1 ⟨in_6 hi, fun y ey z ez => ?_⟩) (fun hb => br_t rfl fun z ez => ?_))
      · subst ez; subst ey
        rw [nI_1, cl_n (by omega)]
        exact k _ (by rw [hs] at hb ⊢; exact (if_pos hb).symm)
      · subst ez
        rw [nI_1]
        exact k _ (by rw [hs] at hb ⊢; exact (if_neg (by rw [hb]; decide)).symm))
theorem xr_o {post : Int32 → Prop} {m r : Int32} (h : post (cl_o E m r 6)) : ∃ n, wX_reachedWithout_8 post m co bo E ah bl pc we he li n r 0 :=
  loop_0 (fun n i s => wX_reachedWithout_8 post m co bo E ah bl pc we he li n s (nI i)) (fun i s => s = cl_o E m r i) 6 r rfl
    (fun n s hs => br_t le_6 (by rw [hs]; exact h))
    (fun n i s hi hs k => br_f (ge_6 hi) (xr_i (by rw [nI_1]; exact k _ (by rw [hs]; rfl))))
theorem xr_ {post : Int32 → Prop} {m : Int32} (h : post (cl_r E m)) : wpX_reachedWithout post (co, bo, E, ah, bl, pc, we, he, li) m := by
  intro y ey
  rw [ey]
  exact xr_o h
theorem xl_ {post : Int32 → Prop} (h : post (cl_r E 0)) : wpX_live post (co, bo, E, ah, bl, pc, we, he, li) := by
  unfold wpX_live
  dsimp only
  exact xr_ h
theorem xd_l {post : Int32 → Prop} {j : Nat} (hj : j < 6) (h : post (dq_M E j)) : ∃ n, wX_dominators_20 post (nI j) (cl_r E 0) co bo E ah bl pc we he li n 0 0 :=
  loop_0 (fun n i s => wX_dominators_20 post (nI j) (cl_r E 0) co bo E ah bl pc we he li n s (nI i)) (fun i s => s = dq_f E j i) 6 0 rfl
    (fun n s hs => br_t le_6 (by rw [hs]; exact h))
    (fun n i s hi hs k => by
      refine br_f (ge_6 hi) (xr_ (m := bq_i i) fun y ey => ?_)
      subst ey
      refine xh_ _ hj (fun hb => br_f no_1 fun y ey z ez => ?_) (fun hb => br_t rfl fun z ez => ?_)
      · subst ez; subst ey
        rw [nI_1]
        exact k _ (by rw [hs]; exact (if_pos hb).symm)
      · subst ez
        rw [nI_1]
        exact k _ (by rw [hs]; exact (if_neg (by rw [hb]; decide)).symm))
theorem xd_ {post : Int32 → Prop} {j : Nat} (hj : j < 6) (h : post (dq_M E j)) : wpX_dominators post (co, bo, E, ah, bl, pc, we, he, li) (nI j) := by
  unfold wpX_dominators
  dsimp only
  exact xb_y hj (br_f no_1 (xr_ (xd_l hj h)))
theorem xd_n {post : Int32 → Prop} {p : Int32} (hp : p < 0 ∨ nI 6 ≤ p) (h : post 0) : wpX_dominators post (co, bo, E, ah, bl, pc, we, he, li) p := by
  unfold wpX_dominators
  dsimp only
  exact xb_n hp (br_t rfl h)
theorem xa_ {post : SX → Prop} (h : ∀ ah' : Nat → Int32, (∀ a, a < 6 → ah' a = od_A E a) → post (co, bo, E, ah', bl, pc, we, he, li)) : wpX_findEdgesAhead post (co, bo, E, ah, bl, pc, we, he, li) := by
  refine loop_0 (fun n i s => wX_findEdgesAhead_2 post n (nI i) co bo E s bl pc we he li) (fun i s => ∀ a, a < i → s a = od_A E a) 6 ah (fun a ha => absurd ha (by omega)) ?_ ?_
  · intro n s hs
    exact br_t le_6 (h s hs)
  · intro n i s hi hs k
    refine br_f (ge_6 hi) ⟨in_6 hi, xd_ hi ⟨in_6 hi, fun y ey z ez => ?_⟩⟩
    subst ez; subst ey
    rw [nI_1, cl_n (by omega)]
    refine k _ (fun a ha => ?_)
    by_cases e : a = i
    · subst e; exact pk_us
    · rw [pk_un e]; exact hs a (by omega)
theorem xf_2 {post : Int32 → Prop} {x : Int32} : ∀ d j, j + d = 6 → post (od_v (od_g x d j)) → wX_firstBlockOf_42 post x co bo E ah bl pc we he li (d + 1) (nI j) := by
  intro d
  induction d with
  | zero =>
    intro j hj h
    have e : j = 6 := by omega
    subst e
    exact br_t le_6 h
  | succ d ih =>
    intro j hj h
    refine br_f (ge_6 (by omega)) (xh_ x (by omega) (fun hb => br_f no_1 ?_) (fun hb => br_t rfl fun z ez => ?_))
    · have e : od_v (od_g x (d + 1) j) = nI j := by
        unfold od_g; rw [if_pos hb]; exact if_pos (by omega)
      rw [e] at h; exact h
    · subst ez
      rw [nI_1]
      refine ih (j + 1) (by omega) ?_
      have e : od_g x (d + 1) j = od_g x d (j + 1) := if_neg (by rw [hb]; decide)
      rw [e] at h; exact h
theorem xf_ {post : Int32 → Prop} {w v : Int32} (e : od_v (od_n (od_F ah w)) = v) (h : post v) : wpX_firstBlockOf post (co, bo, E, ah, bl, pc, we, he, li) w := by
  refine loop_0 (fun n i s => wX_firstBlockOf_4 post w co bo E ah bl pc we he li n s (nI i)) (fun i s => s = od_l ah w i) 6 0 rfl ?_ ?_
  · intro n s hs
    refine br_t le_6 fun y ey => ?_
    subst ey; subst hs
    exact ⟨7, xf_2 6 0 rfl (by rw [← e] at h; exact h)⟩
  · intro n i s hi hs k
    refine br_f (ge_6 hi) (xh_ w hi (fun hb => br_f no_1 ⟨in_6 hi, fun y ey z ez => ?_⟩) (fun hb => br_t rfl fun z ez => ?_))
    · subst ez; subst ey
      rw [nI_1, cl_n (by omega)]
      exact k _ (by rw [hs]; exact (if_pos hb).symm)
    · subst ez
      rw [nI_1]
      exact k _ (by rw [hs]; exact (if_neg (by rw [hb]; decide)).symm)
theorem xo_l {post : Int32 → SX → Prop} (hE : cl_G E) (hA : ∀ a, a < 6 → ah a = od_A E a)
    (h1 : ∀ bl' pc' : Nat → Int32, od_O E bl' pc' → rg_R E 6 = false → post 1 (co, bo, E, ah, bl', pc', we, he, li))
    (h0 : ∀ bl' pc' : Nat → Int32, rg_R E 6 = true → post 0 (co, bo, E, ah, bl', pc', we, he, li)) : ∃ n, wX_orderBlocks_11 post n (cl_r E 0) 0 co bo E ah bl pc we he li := by
  refine loop_0 (fun n i (s : Int32 × (Nat → Int32) × (Nat → Int32)) => wX_orderBlocks_11 post n s.1 (nI i) co bo E ah s.2.1 s.2.2 we he li) (fun i s => od_I (cl_r E 0) ah i s.1 s.2.1 s.2.2) 6 (cl_r E 0, bl, pc) od_I0 ?_ ?_
  · rintro n ⟨w, b', p'⟩ hs
    refine br_t le_6 (br_c (fun z => ?_) (fun z => ?_))
    · have O := od_yes hE hA hs z
      exact h1 b' p' O (od_nr hE O)
    · exact h0 b' p' (od_no hE hA hs z)
  · rintro n i ⟨w, b', p'⟩ hi hs k
    refine br_f (ge_6 hi) ?_
    by_cases c : od_n (od_F ah w) < 6
    · refine xf_ (if_pos c) (br_f (nn_1 (Nat.lt_trans c (by decide))) ⟨in_6 hi, fun y ey => ⟨in_6 c, fun y2 ey2 x ex z ez => ?_⟩⟩)
      subst ez; subst ex; subst ey2; subst ey
      rw [nI_1, cl_n (i := i) (by omega), cl_n (Nat.lt_trans c (by decide))]
      exact k (_, _, _) (od_IS hi hs c (cl_r_s hE) dq_L0 (od_A0 hE hA))
    · refine xf_ (if_neg c) (br_t rfl fun z ez => ?_)
      subst ez
      rw [nI_1]
      exact k (w, b', p') (od_I6 hs c dq_L0 (od_A0 hE hA))
theorem xo_ {post : Int32 → SX → Prop} (hE : cl_G E)
    (h1 : ∀ ah' bl' pc' : Nat → Int32, od_O E bl' pc' → rg_R E 6 = false → post 1 (co, bo, E, ah', bl', pc', we, he, li))
    (h0 : ∀ ah' bl' pc' : Nat → Int32, rg_R E 6 = true → post 0 (co, bo, E, ah', bl', pc', we, he, li)) : wpX_orderBlocks post (co, bo, E, ah, bl, pc, we, he, li) := by
  unfold wpX_orderBlocks
  dsimp only
  exact xa_ fun ah' hA => xl_ (xo_l hE hA (h1 ah') (h0 ah'))
/-! the loop of a block -/
theorem xg_ {post : Int32 → Prop} {j : Nat} (hj : j < 6) (h : post (lo_b E j 6)) : wpX_beginningsOfBackEdges post (co, bo, E, ah, bl, pc, we, he, li) (nI j) := by
  refine loop_0 (fun n i s => wX_beginningsOfBackEdges_4 post (nI j) co bo E ah bl pc we he li n s (nI i)) (fun i s => s = lo_b E j i) 6 0 rfl ?_ ?_
  · intro n s hs
    exact br_t le_6 (by rw [hs]; exact h)
  · intro n i s hi hs k
    refine br_f (ge_6 hi) ⟨in_6 hi, xd_ hi fun y ey => ?_⟩
    subst ey
    rw [cl_n (by omega)]
    refine xh_ _ hj (fun hb => br_f no_1 fun y ey z ez => ?_) (fun hb => br_t rfl fun z ez => ?_)
    · subst ez; subst ey
      rw [nI_1]
      exact k _ (by rw [hs]; exact (if_pos hb).symm)
    · subst ez
      rw [nI_1]
      exact k _ (by rw [hs]; exact (if_neg (by rw [hb]; decide)).symm)
theorem xp_i {post : Int32 → Prop} {J : Int32 → Int32 → Prop} {x1 o x4 r : Int32} (h : J (lo_i E o 6 r) (x4 + 1)) : ∃ n, wX_loop_45 post J x1 o x4 co bo E ah bl pc we he li n r 0 := by
  refine loop_0 (fun n i s => wX_loop_45 post J x1 o x4 co bo E ah bl pc we he li n s (nI i)) (fun i s => s = lo_i E o i r) 6 r rfl ?_ ?_
  · intro n s hs
    exact br_t le_6 (fun y ey => by rw [ey, hs]; exact h)
  · intro n i s hi hs k
    refine br_f (ge_6 hi) (xh_ o hi (fun hb => br_f no_1 ⟨in_6 hi, ?_⟩) (fun hb => br_t rfl fun z ez => ?_))
    · rw [cl_n (by omega)]
      refine br_c (fun c z ez => ?_) (fun c y ey z ez => ?_)
      · subst ez
        rw [nI_1]
        exact k _ (by rw [hs] at c ⊢; exact (if_neg (fun q => q.2 c)).symm)
      · subst ez; subst ey
        rw [nI_1]
        exact k _ (by rw [hs] at c ⊢; exact (if_pos ⟨hb, c⟩).symm)
    · subst ez
      rw [nI_1]
      exact k _ (by rw [hs]; exact (if_neg (fun q => by rw [hb] at q; exact absurd q.1 (by decide))).symm)
theorem xp_o {post : Int32 → Prop} {x1 o r : Int32} (h : post (lo_o E o r 6 ||| ((1 : Int32) <<< (x1 &&& 31)))) : ∃ n, wX_loop_35 post x1 o co bo E ah bl pc we he li n r 0 :=
  loop_0 (fun n i s => wX_loop_35 post x1 o co bo E ah bl pc we he li n s (nI i)) (fun i s => s = lo_o E o r i) 6 r rfl
    (fun n s hs => br_t le_6 (by rw [hs]; exact h))
    (fun n i s hi hs k => br_f (ge_6 hi) (xp_i (by rw [nI_1]; exact k _ (by rw [hs]; rfl))))
theorem xp_ {post : Int32 → Prop} {j : Nat} (hj : j < 6) (h : post (lo_v E j)) : wpX_loop post (co, bo, E, ah, bl, pc, we, he, li) (nI j) := by
  unfold wpX_loop
  dsimp only
  refine xb_y hj (br_f no_1 (xg_ hj (br_c (fun c => ?_) (fun c => xl_ fun y ey => ?_))))
  · have e : lo_v E j = 0 := if_pos c
    rw [e] at h; exact h
  · subst ey
    refine xp_o ?_
    have e : lo_v E j = lo_o E (cl_r E 0 &&& (bq_i j ^^^ (-1))) (lo_b E j 6) 6 ||| bq_i j := if_neg c
    rw [e] at h; exact h
theorem xp_n {post : Int32 → Prop} {p : Int32} (hp : p < 0 ∨ nI 6 ≤ p) (h : post 0) : wpX_loop post (co, bo, E, ah, bl, pc, we, he, li) p := by
  unfold wpX_loop
  dsimp only
  exact xb_n hp (br_t rfl h)
end
end
section
theorem ty_ {A B : Prop} (x : Int32) {b : Nat} (hb : b < 6) (f : bt x b = true → A) (g : bt x b = false → B) : (((x >>> (nI b &&& 31)) &&& 1) = 1 → A) ∧ (¬ ((x >>> (nI b &&& 31)) &&& 1) = 1 → B) :=
  ⟨fun z => f ((bq_h1 x (by omega)).mp z), fun z => g (bq_nt fun y => z ((bq_h1 x (by omega)).mpr y))⟩
theorem tz_ {A B : Prop} (x : Int32) {b : Nat} (hb : b < 6) (f : bt x b = false → A) (g : bt x b = true → B) : (((x >>> (nI b &&& 31)) &&& 1) = 0 → A) ∧ (¬ ((x >>> (nI b &&& 31)) &&& 1) = 0 → B) :=
  ⟨fun z => f ((bq_h0 x (by omega)).mp z), fun z => g (bq_nf fun y => z ((bq_h0 x (by omega)).mpr y))⟩
theorem dv_6 {i : Nat} (h : i < 100000) : nI i / (6 : Int32) = nI (i / 6) := pk_div (d := 6) (by omega) (by decide) (by decide)
theorem rm_6 {i : Nat} (h : i < 100000) : nI i - nI i / (6 : Int32) * 6 = nI (i % 6) := pk_rem (d := 6) (by omega) (by decide) (by decide)
theorem no_6 : ¬ (6 : Int32) = 0 := by decide
theorem df_p {E : Nat → Int32} {i j : Nat} (h : dq_D E i j) : dq_f E j (i + 1) = dq_f E j i ||| bq_i i := if_pos (dq_c.mpr h)
theorem df_n {E : Nat → Int32} {i j : Nat} (h : ¬ dq_D E i j) : dq_f E j (i + 1) = dq_f E j i := if_neg (fun z => h (dq_c.mp z))
section
variable {pr mo E ov wg be : Nat → Int32}
theorem yb_y {post : Int32 → Prop} {j : Nat} (hj : j < 6) (h : post 1) : wpY_block post (pr, mo, E, ov, wg, be) (nI j) :=
  br_f (nI_pos (by omega)) (br_f (ge_6 hj) h)
theorem yb_n {post : Int32 → Prop} {p : Int32} (hp : p < 0 ∨ nI 6 ≤ p) (h : post 0) : wpY_block post (pr, mo, E, ov, wg, be) p := by
  by_cases c : p < 0
  · exact br_t c h
  · exact br_f c (br_t (hp.elim (fun z => absurd z c) id) h)
theorem yr_i {post : Int32 → Prop} {J : Int32 → Int32 → Prop} {m x4 r : Int32} (h : J (cl_i E m 6 r) (x4 + 1)) : ∃ n, wY_reached_19 post J m x4 pr mo E ov wg be n r 0 := by
  refine loop_0 (fun n i s => wY_reached_19 post J m x4 pr mo E ov wg be n s (nI i)) (fun i s => s = cl_i E m i r) 6 r rfl ?_ ?_
  · intro n s hs
    exact br_t le_6 (fun y ey => by rw [ey, hs]; exact h)
  · intro n i s hi hs k
    refine br_f (ge_6 hi) (ty_ s hi (fun hb => ⟨in_6 hi, fun y ey z ez => ?_⟩) (fun hb z ez => ?_))
    · subst ez; subst ey
      rw [nI_1, cl_n (by omega)]
      exact k _ (by rw [hs] at hb ⊢; exact (if_pos hb).symm)
    · subst ez
      rw [nI_1]
      exact k _ (by rw [hs] at hb ⊢; exact (if_neg (by rw [hb]; decide)).symm)
theorem yr_o {post : Int32 → Prop} {m r : Int32} (h : post (cl_o E m r 6)) : ∃ n, wY_reached_9 post m pr mo E ov wg be n r 0 :=
  loop_0 (fun n i s => wY_reached_9 post m pr mo E ov wg be n s (nI i)) (fun i s => s = cl_o E m r i) 6 r rfl
    (fun n s hs => br_t le_6 (by rw [hs]; exact h))
    (fun n i s hi hs k => br_f (ge_6 hi) (yr_i (by rw [nI_1]; exact k _ (by rw [hs]; rfl))))
theorem yr_ {post : Int32 → Prop} {m : Int32} (h : post (cl_r E m)) : wpY_reached post (pr, mo, E, ov, wg, be) 1 m := by
  intro y ey
  rw [ey]
  exact yr_o h
theorem yl_ {post : Int32 → Prop} (h : post (cl_r E 0)) : wpY_live post (pr, mo, E, ov, wg, be) := by
  unfold wpY_live
  dsimp only
  exact yr_ h
theorem yd_l {post : Int32 → Prop} (hE : cl_G E) {j : Nat} (hj : j < 6) (h : post (dq_M E j)) : ∃ n, wY_dominators_10 post (nI j) (cl_r E 0) pr mo E ov wg be n 0 0 := by
  refine loop_0 (fun n i s => wY_dominators_10 post (nI j) (cl_r E 0) pr mo E ov wg be n s (nI i)) (fun i s => s = dq_f E j i) 6 0 rfl ?_ ?_
  · intro n s hs
    exact br_t le_6 (by rw [hs]; exact h)
  · intro n i s hi hs k
    have no : ¬ dq_D E i j → wY_dominators_64 post (wY_dominators_10 post (nI j) (cl_r E 0) pr mo E ov wg be n) (nI j) (cl_r E 0) s (nI i) pr mo E ov wg be := by
      intro hn
      refine br_t rfl fun z ez => ?_
      subst ez
      rw [nI_1]
      exact k _ (by rw [hs, df_n hn])
    refine br_f (ge_6 hi) (yb_y hj (br_f no_1 (ty_ _ hj (fun c1 => ty_ _ hi (fun c2 => yr_ (m := bq_i i) (tz_ _ hj (fun c3 => ?_) (fun c3 => no ?_))) (fun c2 => no ?_)) (fun c1 => no ?_))))
    · refine br_f no_1 fun y ey z ez => ?_
      subst ez; subst ey
      rw [nI_1]
      exact k _ (by rw [hs, df_p ⟨c1, c3⟩]; rfl)
    · intro D; rw [D.2] at c3; exact absurd c3 (by decide)
    · intro D
      have := dq_DL hE hi D
      unfold dq_L at this
      rw [c2] at this; exact absurd this (by decide)
    · intro D; rw [D.1] at c1; exact absurd c1 (by decide)
theorem yd_ {post : Int32 → Prop} (hE : cl_G E) {j : Nat} (hj : j < 6) (h : post (dq_M E j)) : wpY_dominators post (pr, mo, E, ov, wg, be) (nI j) := by
  unfold wpY_dominators
  dsimp only
  exact yl_ (yd_l hE hj h)
theorem yd_n {post : Int32 → Prop} {p : Int32} (hp : p < 0 ∨ nI 6 ≤ p) (h : post 0) : wpY_dominators post (pr, mo, E, ov, wg, be) p := by
  unfold wpY_dominators
  dsimp only
  exact yl_ ⟨1, br_f (ge_6 (i := 0) (by omega)) (yb_n hp (br_t rfl h))⟩
theorem yo_ {post : SY → Prop} (hE : cl_G E) (h : ∀ ov' : Nat → Int32, (∀ u, u < 6 → ov' u = dq_M E u) → post (pr, mo, E, ov', wg, be)) : wpY_findOver post (pr, mo, E, ov, wg, be) := by
  refine loop_0 (fun n i s => wY_findOver_2 post n (nI i) pr mo E s wg be) (fun i s => ∀ u, u < i → s u = dq_M E u) 6 ov (fun a ha => absurd ha (by omega)) ?_ ?_
  · intro n s hs
    exact br_t le_6 (h s hs)
  · intro n i s hi hs k
    refine br_f (ge_6 hi) (yd_ hE hi ⟨in_6 hi, fun y ey z ez => ?_⟩)
    subst ez; subst ey
    rw [nI_1, cl_n (by omega)]
    refine k _ (fun a ha => ?_)
    by_cases e : a = i
    · subst e; exact pk_us
    · rw [pk_un e]; exact hs a (by omega)
theorem ye_ {post : Int32 → Prop} {a b : Nat} (ha : a < 6) (hb : b < 6) (h1 : (bt (E a) b = true ∧ ¬ ov a = 0) → post 1) (h0 : ¬ (bt (E a) b = true ∧ ¬ ov a = 0) → post 0) : wpY_edge post (pr, mo, E, ov, wg, be) (nI a) (nI b) := by
  unfold wpY_edge
  dsimp only
  rw [cl_n (by omega)]
  exact ⟨in_6 ha, ty_ _ hb (fun c => ⟨in_6 ha, br_c (fun z => h0 fun q => q.2 z) (fun z => h1 ⟨c, z⟩)⟩) (fun c => h0 fun q => by rw [q.1] at c; exact absurd c (by decide))⟩
theorem yk_ {post : Int32 → Prop} {a b : Nat} (ha : a < 6) (hb : b < 6) (h1 : ((bt (E a) b = true ∧ ¬ ov a = 0) ∧ bt (ov a) b = true) → post 1) (h0 : ¬ ((bt (E a) b = true ∧ ¬ ov a = 0) ∧ bt (ov a) b = true) → post 0) : wpY_backEdge post (pr, mo, E, ov, wg, be) (nI a) (nI b) := by
  unfold wpY_backEdge
  dsimp only
  rw [cl_n (by omega)]
  exact ye_ ha hb (fun c => br_f no_1 ⟨in_6 ha, ty_ _ hb (fun d => h1 ⟨c, d⟩) (fun d => h0 fun q => by rw [q.2] at d; exact absurd d (by decide))⟩) (fun c => br_t rfl (h0 fun q => c q.1))
theorem yw_ {post : Int32 → Prop} (hO : ∀ u, u < 6 → ov u = dq_M E u) {s : Int32} (h : post (rg_o E s 36)) : wpY_onward post (pr, mo, E, ov, wg, be) s := by
  refine loop_0 (fun n i t => wY_onward_4 post s pr mo E ov wg be n t (nI i)) (fun i t => t = rg_o E s i) 36 0 rfl ?_ ?_
  · intro n t ht
    exact br_t (nI_le (a := 36) (b := 36) (by omega) (by decide)) (by rw [ht]; exact h)
  · intro n i t hi ht k
    have no : ¬ rg_c E s i → wY_onward_56 post (wY_onward_4 post s pr mo E ov wg be n) s t (nI i) pr mo E ov wg be := by
      intro hn
      refine br_t rfl fun z ez => ?_
      subst ez
      rw [nI_1]
      exact k _ (by rw [ht]; exact (if_neg hn).symm)
    have h6 : i / 6 < 6 := by omega
    have h7 : i % 6 < 6 := by omega
    refine br_f (nI_ge (b := 36) hi (by decide)) ⟨no_6, ?_⟩
    rw [rm_6 (by omega), dv_6 (by omega)]
    refine ty_ _ h6 (fun c1 => ⟨no_6, no_6, ye_ h6 h7 (fun c2 => br_f no_1 ⟨no_6, no_6, yk_ h6 h7 (fun c3 => br_f no_1 (no ?_)) (fun c3 => br_t rfl ?_)⟩) (fun c2 => br_t rfl (no ?_))⟩) (fun c1 => no ?_)
    · intro q
      have c4 := c3.2
      rw [hO _ h6, q.2.2] at c4; exact absurd c4 (by decide)
    · refine br_f no_1 ⟨no_6, fun y ey z ez => ?_⟩
      subst ez; subst ey
      rw [nI_1, rm_6 (by omega)]
      refine k _ ?_
      have hc : rg_c E s i := ⟨c1, ⟨c2.1, by rw [← hO _ h6]; exact c2.2⟩, by rw [← hO _ h6]; exact bq_nt fun z => c3 ⟨c2, z⟩⟩
      rw [ht]; exact (if_pos hc).symm
    · intro q; exact c2 ⟨q.2.1.1, by rw [hO _ h6]; exact q.2.1.2⟩
    · intro q; rw [q.1] at c1; exact absurd c1 (by decide)
noncomputable def yg_b (E : Nat → Int32) (n : Nat) : Int32 := if rg_R E n = true then 1 else 0
theorem yg_i {post : Int32 → SY → Prop} {J : Int32 → Int32 → Prop} (hO : ∀ u, u < 6 → ov u = dq_M E u) {b : Nat} (hb : b < 6) (h : J (yg_b E (b + 1)) (nI b + 1)) : ∃ n, wY_regular_25 post J (yg_b E b) (nI b) pr mo E ov wg be n (rg_t E b 0) 0 := by
  refine loop_0 (fun n i t => wY_regular_25 post J (yg_b E b) (nI b) pr mo E ov wg be n t (nI i)) (fun i t => t = rg_t E b i) 6 (rg_t E b 0) rfl ?_ ?_
  · intro n t ht
    subst ht
    refine br_t le_6 ?_
    by_cases c : rg_R E b = true
    · have e1 : yg_b E b = 1 := if_pos c
      have e2 : yg_b E (b + 1) = 1 := if_pos (by show (rg_R E b || _) = true; rw [c]; rfl)
      rw [e1]
      rw [e2] at h
      exact br_f no_1 fun y ey => by rw [ey]; exact h
    · have e1 : yg_b E b = 0 := if_neg c
      rw [e1]
      refine br_t rfl (ty_ _ hb (fun d y ey => ?_) (fun d y ey => ?_))
      · have e2 : yg_b E (b + 1) = 1 := if_pos (by show (rg_R E b || bt (rg_t E b 6) b) = true; rw [d]; cases rg_R E b <;> rfl)
        rw [e2] at h; rw [ey]; exact h
      · have e2 : yg_b E (b + 1) = 0 := if_neg (by show ¬ (rg_R E b || bt (rg_t E b 6) b) = true; rw [d, bq_nt c]; decide)
        rw [e2] at h; rw [ey]; exact h
  · intro n i t hi ht k
    refine br_f (ge_6 hi) (yw_ hO fun y ey z ez => ?_)
    subst ez; subst ey
    rw [nI_1]
    exact k _ (by rw [ht]; rfl)
theorem yg_ {post : Int32 → SY → Prop} (hE : cl_G E) (h1 : ∀ ov' : Nat → Int32, (∀ u, u < 6 → ov' u = dq_M E u) → rg_R E 6 = false → post 1 (pr, mo, E, ov', wg, be)) (h0 : ∀ ov' : Nat → Int32, rg_R E 6 = true → post 0 (pr, mo, E, ov', wg, be)) : wpY_regular post (pr, mo, E, ov, wg, be) := by
  unfold wpY_regular
  dsimp only
  refine yo_ hE fun ov' hO => ?_
  refine loop_0 (fun n i s => wY_regular_8 post pr mo E ov' wg be n s (nI i)) (fun i s => s = yg_b E i) 6 0 rfl ?_ ?_
  · intro n s hs
    subst hs
    refine br_t le_6 ?_
    by_cases c : rg_R E 6 = true
    · exact br_f (by rw [show yg_b E 6 = 1 from if_pos c]; decide) (h0 ov' c)
    · exact br_t (if_neg c) (h1 ov' hO (bq_nt c))
  · intro n i s hi hs k
    subst hs
    exact br_f (ge_6 hi) (yw_ hO (yg_i hO hi (by rw [nI_1]; exact k _ rfl)))
/-! the loop of a block -/
theorem an_7 : ∀ j, j < 6 → nI j &&& 7 = nI j := by decide +kernel
theorem yp_i {post : Int32 → SY → Prop} {J : Int32 → Int32 → Prop} (hO : ∀ u, u < 6 → ov u = dq_M E u) {j : Nat} (hj : j < 6) {x3 r : Int32} (h : J (lr_i E j 6 r) (x3 + 1)) : ∃ n, wY_loop_62 post J (nI j) x3 pr mo E ov wg be n r 0 := by
  refine loop_0 (fun n i s => wY_loop_62 post J (nI j) x3 pr mo E ov wg be n s (nI i)) (fun i s => s = lr_i E j i r) 6 r rfl ?_ ?_
  · intro n s hs
    exact br_t le_6 (fun y ey => by rw [ey, hs]; exact h)
  · intro n i s hi hs k
    have no : ¬ (¬ dq_M E i = 0 ∧ i ≠ j ∧ ¬ ((E i &&& s) &&& (bq_i j ^^^ (-1))) = 0) → wY_loop_110 post J (wY_loop_62 post J (nI j) x3 pr mo E ov wg be n) (nI j) s x3 (nI i) pr mo E ov wg be := by
      intro hn
      refine br_t rfl fun z ez => ?_
      subst ez
      rw [nI_1]
      exact k _ (by rw [hs] at hn ⊢; exact (if_neg hn).symm)
    refine br_f (ge_6 hi) ⟨in_6 hi, ?_⟩
    rw [cl_n (by omega), an_7 j hj, hO i hi]
    refine br_c (fun c => no fun q => q.1 c) (fun c1 => br_c (fun c => no fun q => q.2.1 ?_) (fun c2 => ⟨in_6 hi, br_c (fun c => no fun q => q.2.2 c) (fun c3 => ?_)⟩))
    · exact (nI_eq (by omega) (by omega)).mp c
    · refine br_f no_1 fun y ey z ez => ?_
      subst ez; subst ey
      rw [nI_1]
      have hc : ¬ dq_M E i = 0 ∧ i ≠ j ∧ ¬ ((E i &&& s) &&& (bq_i j ^^^ (-1))) = 0 := ⟨c1, fun e => c2 (by rw [e]), c3⟩
      exact k _ (by rw [hs] at hc ⊢; exact (if_pos hc).symm)
theorem yp_o {post : Int32 → SY → Prop} (hO : ∀ u, u < 6 → ov u = dq_M E u) {j : Nat} (hj : j < 6) {r : Int32} (h : post (lr_o E j r 6) (pr, mo, E, ov, wg, be)) : ∃ n, wY_loop_53 post (nI j) pr mo E ov wg be n r 0 :=
  loop_0 (fun n i s => wY_loop_53 post (nI j) pr mo E ov wg be n s (nI i)) (fun i s => s = lr_o E j r i) 6 r rfl
    (fun n s hs => br_t le_6 (by rw [hs]; exact h))
    (fun n i s hi hs k => br_f (ge_6 hi) (yp_i hO hj (by rw [nI_1]; exact k _ (by rw [hs]; rfl))))
theorem yp_ {post : Int32 → SY → Prop} (hE : cl_G E) {j : Nat} (hj : j < 6) (h : ∀ ov', post (lo_v E j) (pr, mo, E, ov', wg, be)) : wpY_loop post (pr, mo, E, ov, wg, be) (nI j) := by
  unfold wpY_loop
  dsimp only
  refine yo_ hE fun ov' hO => ?_
  refine loop_0 (fun n i s => wY_loop_8 post (nI j) pr mo E ov' wg be n s (nI i)) (fun i s => s = lr_b E j i) 6 0 rfl ?_ ?_
  · intro n s hs
    exact br_t le_6 (yp_o hO hj (by rw [hs, lo_eq hE hj]; exact h ov'))
  · intro n i s hi hs k
    refine br_f (ge_6 hi) (yb_y hj (br_f no_1 (yk_ hi hj (fun c => br_f no_1 fun y ey z ez => ?_) (fun c => br_t rfl fun z ez => ?_))))
    · subst ez; subst ey
      rw [nI_1]
      rw [hO i hi] at c
      exact k _ (by rw [hs]; exact (if_pos c).symm)
    · subst ez
      rw [nI_1]
      rw [hO i hi] at c
      exact k _ (by rw [hs]; exact (if_neg c).symm)
theorem yq_z (x y : Int32) : (x &&& 0) &&& y = 0 := b_ext fun i _ => by rw [b_and, b_and, b_0]; cases bt x i <;> cases bt y i <;> rfl
theorem yq_i {post : Int32 → SY → Prop} {J : Int32 → Int32 → Prop} {p x3 : Int32} (h : J 0 (x3 + 1)) : ∃ n, wY_loop_62 post J p x3 pr mo E ov wg be n 0 0 := by
  refine loop_0 (fun n i s => wY_loop_62 post J p x3 pr mo E ov wg be n s (nI i)) (fun i s => s = 0) 6 0 rfl ?_ ?_
  · intro n s hs
    exact br_t le_6 (fun y ey => by rw [ey, hs]; exact h)
  · intro n i s hi hs k
    subst hs
    have no : wY_loop_110 post J (wY_loop_62 post J p x3 pr mo E ov wg be n) p 0 x3 (nI i) pr mo E ov wg be := by
      refine br_t rfl fun z ez => ?_
      subst ez
      rw [nI_1]
      exact k _ rfl
    exact br_f (ge_6 hi) ⟨in_6 hi, br_c (fun _ => no) (fun _ => br_c (fun _ => no) (fun _ => ⟨in_6 hi, br_t (yq_z _ _) no⟩))⟩
theorem yq_o {post : Int32 → SY → Prop} {p : Int32} (h : post 0 (pr, mo, E, ov, wg, be)) : ∃ n, wY_loop_53 post p pr mo E ov wg be n 0 0 :=
  loop_0 (fun n i s => wY_loop_53 post p pr mo E ov wg be n s (nI i)) (fun i s => s = 0) 6 0 rfl
    (fun n s hs => br_t le_6 (by rw [hs]; exact h))
    (fun n i s hi hs k => br_f (ge_6 hi) (by rw [hs]; exact yq_i (by rw [nI_1]; exact k _ rfl)))
theorem yp_n {post : Int32 → SY → Prop} (hE : cl_G E) {p : Int32} (hp : p < 0 ∨ nI 6 ≤ p) (h : ∀ ov', post 0 (pr, mo, E, ov', wg, be)) : wpY_loop post (pr, mo, E, ov, wg, be) p := by
  unfold wpY_loop
  dsimp only
  exact yo_ hE fun ov' hO => ⟨1, br_f (ge_6 (i := 0) (by omega)) (yb_n hp (br_t rfl (yq_o (h ov'))))⟩
end
end
section
theorem sh_5 : ∀ p, p < 6 → (5 - nI p) * 2 = nI (2 * (5 - p)) := by decide +kernel
theorem sh_p : ∀ p, p < 6 → 2 ^ (2 * (5 - p)) = wk_p p := by decide +kernel
theorem sh_r {x p : Nat} (hx : x < 4096) (hp : p < 6) : nI x >>> (((5 - nI p) * 2) &&& 31) = nI (x / wk_p p) := by
  rw [sh_5 p hp, pk_shrN (by omega) _ (2 * (5 - p)) (s_l _ (by omega)), sh_p p hp]
theorem sh_3 {y : Nat} (hy : y < 4096) : nI y &&& 3 = nI (y % 4) := pk_andN (by omega) 2 (by decide)
theorem wk_pp {p : Nat} (hp : p < 6) : 1 ≤ wk_p p ∧ wk_p p ≤ 1024 := by
  rcases wk_6 hp with rfl | rfl | rfl | rfl | rfl | rfl <;> decide
theorem sh_d {x p : Nat} (hx : x < 4096) (hp : p < 6) : (nI x >>> (((5 - nI p) * 2) &&& 31)) &&& 3 = nI (wk_d x p) := by
  rw [sh_r hx hp, sh_3 (Nat.lt_of_le_of_lt (Nat.div_le_self _ _) hx)]; rfl
theorem sh_l {x p : Nat} (hx : x < 4096) (hp : p < 6) : (nI (x / wk_p p) + 1) <<< (((5 - nI p) * 2) &&& 31) = nI (wk_n x p) := by
  have h1 := wk_pp hp
  have h2 : (x / wk_p p + 1) * wk_p p ≤ 4096 + 1024 := by
    have := Nat.div_mul_le_self x (wk_p p)
    rw [Nat.add_mul]; omega
  rw [nI_1, sh_5 p hp, pk_shlN _ (2 * (5 - p)) (s_l _ (by omega)) (by rw [sh_p p hp]; omega), sh_p p hp]; rfl
def wk_y (x : Nat) : Nat → Nat
  | 0 => 0
  | p + 1 => if wk_d x (p + 1) ≠ 0 then p + 1 else wk_y x p
theorem wk_zy (x : Nat) : wk_y x 5 = wk_z x := rfl
theorem mm_le {m : Nat} (h : m < 1073741824) : ¬ nI m ≤ -1 := by
  intro z
  rw [Int32.le_iff_toInt_le, nI_toInt (by omega), show (-1 : Int32).toInt = -1 from by decide] at z
  omega
theorem le_mm {m : Nat} (h : m < 1073741824) : (-1 : Int32) ≤ nI m := by
  rw [Int32.le_iff_toInt_le, nI_toInt (by omega), show (-1 : Int32).toInt = -1 from by decide]
  omega
theorem le_b {a b : Nat} (ha : a < 1073741824) (hb : b < 1073741824) : nI a ≤ nI b ↔ a ≤ b := nI_leI (by omega) (by omega)
theorem fl_Vv {g : Bool} {Q : Nat → Prop} {B : Nat → Int32} {i : Nat} {v : Int32} (V : fl_V g Q B i v) : v = -1 ∨ ∃ m, m < 1073741824 ∧ v = nI m := by
  rcases V with ⟨e, _⟩ | ⟨s, m, h1, h2, h3, h4, h5, h6⟩
  · exact Or.inl e
  · exact Or.inr ⟨m, h3, h5⟩
theorem fl_Sv {St : Nat → Nat → Nat → Prop} {wt : Nat → Nat} {s0 N : Nat} (hB : fl_B St wt s0 N) {B : Nat → Int32} (S : fl_S St wt s0 N B) {s : Nat} (hs : s < N) : B s = -1 ∨ ∃ m, m < 1073741824 ∧ B s = nI m := by
  by_cases c : B s = -1
  · exact Or.inl c
  · obtain ⟨n, w, _, e, h⟩ := fl_v hB S hs c
    exact Or.inr ⟨w, by omega, e⟩
section
variable {co bo E ah bl pc we he li : Nat → Int32} {bd wt pl : Nat → Nat}
theorem xz_l {post : Int32 → Prop} {x : Nat} (hx : x < 4096) : ∀ p, p < 6 → post (bl (wk_y x p)) → wX_blockOf_2 post (nI x) co bo E ah bl pc we he li (p + 1) (nI p) := by
  intro p
  induction p with
  | zero => intro _ h; exact br_t (by decide) h
  | succ p ih =>
    intro hp h
    refine br_f (nI_nle (by omega) (by omega)) ?_
    unfold wpX_shiftOf
    dsimp only
    rw [sh_d hx hp, cl_n (by omega)]
    refine br_c (fun c z ez => ?_) (fun c => ⟨in_6 hp, ?_⟩)
    · subst ez
      rw [pk_m1]
      refine ih (by omega) ?_
      have h0 : wk_d x (p + 1) = 0 := by
        have : wk_d x (p + 1) < 4 := Nat.mod_lt _ (by decide)
        exact (nI_eq (b := 0) (by omega) (by omega)).mp c
      have e : wk_y x (p + 1) = wk_y x p := if_neg (fun z => z h0)
      rw [e] at h; exact h
    · have e : wk_y x (p + 1) = p + 1 := if_pos (fun z => c (by rw [z]; rfl))
      rw [e] at h; exact h
theorem xz_ {post : Int32 → Prop} {x : Nat} (hx : x < 4096) (h : post (bl (wk_z x))) : wpX_blockOf post (co, bo, E, ah, bl, pc, we, he, li) (nI x) := ⟨6, xz_l hx 5 (by omega) h⟩
theorem xv_ {post : Int32 → Prop} {x b p d : Nat} (hx : x < 4096) (hb : b < 6) (hp : p < 6) (hpc : pc b = nI p) (hd : d < 100) (hbo : bo b = nI d)
    (h1 : wk_d x p + 1 ≤ d → post (nI (wk_n x p))) (h0 : ¬ wk_d x p + 1 ≤ d → post (-1)) : wpX_stateAfterVisit post (co, bo, E, ah, bl, pc, we, he, li) (nI x) (nI b) := by
  unfold wpX_stateAfterVisit
  dsimp only
  rw [cl_n (by omega), hpc, hbo]
  refine ⟨in_6 hb, ?_⟩
  unfold wpX_shiftOf
  dsimp only
  intro y ey
  have h4 : wk_d x p < 4 := Nat.mod_lt _ (by decide)
  rw [sh_d hx hp, nI_1] at ey
  rw [sh_r hx hp, sh_l hx hp]
  subst ey
  exact ⟨in_6 hb, pk_le _ _ h1 (fun z => h0 (by omega))⟩
theorem xn_17 {post : SX → Prop} {x : Nat} (hx : x < 4096) {b : Int32}
    (h1 : (li x = -1 ∨ ¬ li x ≤ b) → post (co, bo, E, ah, bl, pc, we, he, upd li x b)) (h2 : ¬ li x = -1 → li x ≤ b → post (co, bo, E, ah, bl, pc, we, he, li)) : wX_noteWeights_17 post (nI x) b co bo E ah bl pc we he li := by
  unfold wX_noteWeights_17
  rw [cl_n (by omega)]
  have hv : vp_in (nI x) 4096 := vp_in_nI hx (by decide)
  exact ⟨hv, br_c (fun c => ⟨hv, fun y ey => by rw [ey]; exact h1 (Or.inl c)⟩) (fun c => ⟨hv, br_c (fun d => h2 c d) (fun d => ⟨hv, fun y ey => by rw [ey]; exact h1 (Or.inr d)⟩)⟩)⟩
theorem xn_ {post : SX → Prop} {x : Nat} (hx : x < 4096) {a b : Int32}
    (h : ∀ he' li' : Nat → Int32, ((¬ a ≤ he x ∧ he' = upd he x a) ∨ (a ≤ he x ∧ he' = he)) → (((li x = -1 ∨ ¬ li x ≤ b) ∧ li' = upd li x b) ∨ (¬ li x = -1 ∧ li x ≤ b ∧ li' = li)) → post (co, bo, E, ah, bl, pc, we, he', li')) : wpX_noteWeights post (co, bo, E, ah, bl, pc, we, he, li) (nI x) a b := by
  unfold wpX_noteWeights
  dsimp only
  rw [cl_n (by omega)]
  have hv : vp_in (nI x) 4096 := vp_in_nI hx (by decide)
  refine ⟨hv, br_c (fun c => ?_) (fun c => ⟨hv, fun y ey => ?_⟩)⟩
  · exact xn_17 hx (fun d => h he _ (Or.inr ⟨c, rfl⟩) (Or.inl ⟨d, rfl⟩)) (fun d e => h he li (Or.inr ⟨c, rfl⟩) (Or.inr ⟨d, e, rfl⟩))
  · subst ey
    exact xn_17 hx (fun d => h _ _ (Or.inl ⟨c, rfl⟩) (Or.inl ⟨d, rfl⟩)) (fun d e => h _ li (Or.inl ⟨c, rfl⟩) (Or.inr ⟨d, e, rfl⟩))
/-- what the walk's loops rest on -/
def xW_ (E bo bl pc we : Nat → Int32) (bd wt pl : Nat → Nat) : Prop :=
  cl_G E ∧ wk_O E bl pl ∧ (∀ b, dq_L E b → pc b = nI (pl b)) ∧ (∀ b, b < 6 → bo b = nI (bd b)) ∧ (∀ b, b < 6 → 1 ≤ bd b ∧ bd b ≤ 3) ∧ (∀ b, b < 6 → we b = nI (wt b)) ∧ (∀ b, b < 6 → wt b ≤ 50)
theorem xW_B (H : xW_ E bo bl pc we bd wt pl) : fl_B (wk_X E bd bl pl) wt 1024 4096 := dx_B H.1 H.2.1 H.2.2.2.2.1 H.2.2.2.2.2.2
abbrev xs_S (E : Nat → Int32) (bd : Nat → Nat) (bl : Nat → Int32) (pl wt : Nat → Nat) (g : Bool) (i b : Nat) (B0 B : Nat → Int32) : Prop := sp_I (wk_X E bd bl pl) wt 1024 4096 g (fun s => s ≤ i) i b B0 B
/-- both arrays, in a step from state i -/
def xs_I (E : Nat → Int32) (bd : Nat → Nat) (bl : Nat → Int32) (pl wt : Nat → Nat) (i b : Nat) (H0 G0 H G : Nat → Int32) : Prop :=
  xs_S E bd bl pl wt true i b H0 H ∧ xs_S E bd bl pl wt false i b G0 G ∧ ∀ x, x < 4096 → (H x = -1 ↔ G x = -1)
theorem xs_h (W : xW_ E bo bl pc we bd wt pl) {i b x' n m : Nat} {B0 B B' : Nat → Int32} (I : xs_S E bd bl pl wt true i b B0 B) (hy : wk_X E bd bl pl i b x') (hx : i < x') (hx4 : x' < 4096) (hw : gw_ (wk_X E bd bl pl) wt 1024 n i m) (hm : B0 i = nI m)
    (hc : (¬ nI (m + wt b) ≤ B x' ∧ B' = upd B x' (nI (m + wt b))) ∨ (nI (m + wt b) ≤ B x' ∧ B' = B)) : xs_S E bd bl pl wt true i (b + 1) B0 B' := by
  have hB := xW_B W
  have hm0 : m + wt b < 1073741824 := by
    have := (hB.1 _ _ _ hw).2.2
    have := hB.2.2 b hy.1
    omega
  rcases hc with ⟨c, rfl⟩ | ⟨c, rfl⟩
  · refine sp_s hB (fun _ _ _ _ => dx_d) I hy (by omega) hw hm ?_
    rcases fl_Sv hB I.1 hx4 with e | ⟨m', hm', e⟩
    · exact Or.inl e
    · refine Or.inr ⟨m', hm', e, fun _ => ?_, fun z => absurd z (by decide)⟩
      rw [e, le_b hm0 hm'] at c; omega
  · refine sp_k hB (fun _ _ _ _ => dx_d) I hy hw hm ?_
    rcases fl_Sv hB I.1 hx4 with e | ⟨m', hm', e⟩
    · rw [e] at c; exact absurd c (mm_le hm0)
    · refine ⟨m', hm', e, fun _ => ?_, fun z => absurd z (by decide)⟩
      rw [e, le_b hm0 hm'] at c; exact c
theorem xs_g (W : xW_ E bo bl pc we bd wt pl) {i b x' n m : Nat} {B0 B B' : Nat → Int32} (I : xs_S E bd bl pl wt false i b B0 B) (hy : wk_X E bd bl pl i b x') (hx : i < x') (hx4 : x' < 4096) (hw : gw_ (wk_X E bd bl pl) wt 1024 n i m) (hm : B0 i = nI m)
    (hc : ((B x' = -1 ∨ ¬ B x' ≤ nI (m + wt b)) ∧ B' = upd B x' (nI (m + wt b))) ∨ (¬ B x' = -1 ∧ B x' ≤ nI (m + wt b) ∧ B' = B)) : xs_S E bd bl pl wt false i (b + 1) B0 B' := by
  have hB := xW_B W
  have hm0 : m + wt b < 1073741824 := by
    have := (hB.1 _ _ _ hw).2.2
    have := hB.2.2 b hy.1
    omega
  rcases hc with ⟨c, rfl⟩ | ⟨c0, c, rfl⟩
  · refine sp_s hB (fun _ _ _ _ => dx_d) I hy (by omega) hw hm ?_
    rcases fl_Sv hB I.1 hx4 with e | ⟨m', hm', e⟩
    · exact Or.inl e
    · refine Or.inr ⟨m', hm', e, fun z => absurd z (by decide), fun _ => ?_⟩
      rcases c with c | c
      · exact absurd (e.symm.trans c) (nn_1 hm')
      · rw [e, le_b hm' hm0] at c; omega
  · refine sp_k hB (fun _ _ _ _ => dx_d) I hy hw hm ?_
    rcases fl_Sv hB I.1 hx4 with e | ⟨m', hm', e⟩
    · exact absurd e c0
    · refine ⟨m', hm', e, fun z => absurd z (by decide), fun _ => ?_⟩
      rw [e, le_b hm' hm0] at c; exact c
theorem xs_e {H G H' G' : Nat → Int32} {x' a b : Nat} (ha : a < 1073741824) (hb : b < 1073741824) (h : ∀ x, x < 4096 → (H x = -1 ↔ G x = -1)) (hx4 : x' < 4096)
    (hc : (¬ nI a ≤ H x' ∧ H' = upd H x' (nI a)) ∨ (nI a ≤ H x' ∧ H' = H))
    (hd : ((G x' = -1 ∨ ¬ G x' ≤ nI b) ∧ G' = upd G x' (nI b)) ∨ (¬ G x' = -1 ∧ G x' ≤ nI b ∧ G' = G)) : ∀ x, x < 4096 → (H' x = -1 ↔ G' x = -1) := by
  intro x hx
  by_cases e : x = x'
  · subst e
    have a1 : ¬ H' x = -1 := by
      rcases hc with ⟨_, rfl⟩ | ⟨c, rfl⟩
      · rw [pk_us]; exact nn_1 ha
      · intro z; rw [z] at c; exact mm_le ha c
    have a2 : ¬ G' x = -1 := by
      rcases hd with ⟨_, rfl⟩ | ⟨c, _, rfl⟩
      · rw [pk_us]; exact nn_1 hb
      · exact c
    exact ⟨fun z => absurd z a1, fun z => absurd z a2⟩
  · have e1 : H' x = H x := by
      rcases hc with ⟨_, rfl⟩ | ⟨_, rfl⟩
      · rw [pk_un e]
      · rfl
    have e2 : G' x = G x := by
      rcases hd with ⟨_, rfl⟩ | ⟨_, _, rfl⟩
      · rw [pk_un e]
      · rfl
    rw [e1, e2]; exact h x hx
theorem xs_ {post : SX → Prop} (W : xW_ E bo bl pc we bd wt pl) {i : Nat} (hi : i < 4096) (Sh : fl_S (wk_X E bd bl pl) wt 1024 4096 he) (Sl : fl_S (wk_X E bd bl pl) wt 1024 4096 li) (hs : ∀ x, x < 4096 → (he x = -1 ↔ li x = -1)) (hn : ¬ he i = -1)
    (h : ∀ he' li' : Nat → Int32, xs_I E bd bl pl wt i 6 he li he' li' → post (co, bo, E, ah, bl, pc, we, he', li')) : wpX_stepOnFrom post (co, bo, E, ah, bl, pc, we, he, li) (nI i) := by
  have hB := xW_B W
  obtain ⟨hE, O, hpc, hbo, hbd, hwe, hwt⟩ := W
  obtain ⟨n1, m, hw1, em, lm⟩ := fl_v hB Sh hi hn
  obtain ⟨n2, l, hw2, el, ll⟩ := fl_v hB Sl hi (fun z => hn ((hs i hi).mpr z))
  obtain ⟨s, hsY, J⟩ := wk_XY hE O hbd n1 i m hw1
  obtain ⟨eb, ek⟩ := wk_jk hE O J
  have ha : s % 6 < 6 := by omega
  have hL := J.2.2.2.1
  unfold wpX_stepOnFrom
  dsimp only
  refine xz_ hi ?_
  rw [eb]
  refine ⟨in_6 ha, fun y ey => ?_⟩
  rw [cl_n (by omega)] at ey
  subst ey
  refine loop_0 (fun n b (t : (Nat → Int32) × (Nat → Int32)) => wX_stepOnFrom_13 post (nI i) (E (s % 6)) n (nI b) co bo E ah bl pc we t.1 t.2) (fun b t => xs_I E bd bl pl wt i b he li t.1 t.2) 6 (he, li) ⟨sp_0 Sh, sp_0 Sl, hs⟩ ?_ ?_
  · rintro n ⟨H, G⟩ I
    exact br_t le_6 (h H G I)
  · rintro n b ⟨H, G⟩ hb I k
    have no : (∀ x', ¬ wk_X E bd bl pl i b x') → wX_stepOnFrom_37 post (wX_stepOnFrom_13 post (nI i) (E (s % 6)) n) (nI i) (E (s % 6)) (nI b) (-1) co bo E ah bl pc we H G := by
      intro hno
      refine br_t rfl fun z ez => ?_
      subst ez
      rw [nI_1]
      exact k (H, G) ⟨sp_n I.1 hno, sp_n I.2.1 hno, I.2.2⟩
    refine br_f (ge_6 hb) (xh_ _ hb (fun c => br_f no_1 ?_) (fun c => br_t rfl (no fun x' q => ?_)))
    · have hLb := dq_Lc hE hL c
      have hpl := (O.2.1 b hLb).1
      refine xv_ hi hb hpl (hpc b hLb) (by have := hbd b hb; omega) (hbo b hb) (fun d => ?_) (fun d => no fun x' q => d q.2.2.1)
      have hy : wk_X E bd bl pl i b (wk_n i (pl b)) := ⟨hb, by rw [ek]; exact c, d, rfl⟩
      have hw' : gw_ (wk_X E bd bl pl) wt 1024 (n1 + 1) (wk_n i (pl b)) (m + wt b) := ⟨i, m, b, hw1, hy, rfl⟩
      have hx4 := (hB.1 _ _ _ hw').1
      have hxi := wk_nx (x := i) hpl
      have hwb := hwt b hb
      have v1 : vp_in (nI i) 4096 := vp_in_nI hi (by decide)
      refine br_f (nn_1 (by omega)) ⟨v1, in_6 hb, v1, in_6 hb, ?_⟩
      rw [cl_n (by omega), cl_n (by omega), I.1.2.2.1 i (Nat.le_refl i), I.2.1.2.2.1 i (Nat.le_refl i), em, el, hwe b hb, nI_add, nI_add]
      refine xn_ hx4 fun he' li' hc hd z ez => ?_
      subst ez
      rw [nI_1]
      exact k (he', li') ⟨xs_h ⟨hE, O, hpc, hbo, hbd, hwe, hwt⟩ I.1 hy hxi hx4 hw1 em hc, xs_g ⟨hE, O, hpc, hbo, hbd, hwe, hwt⟩ I.2.1 hy hxi hx4 hw2 el hd, xs_e (by omega) (by omega) I.2.2 hx4 hc hd⟩
    · have q2 := q.2.1
      rw [ek, c] at q2; exact absurd q2 (by decide)
end
end
section
theorem ge_4 {i : Nat} (h : i < 4096) : ¬ (4096 : Int32) ≤ nI i := nI_ge (b := 4096) h (by decide)
theorem le_4 : (4096 : Int32) ≤ nI 4096 := nI_le (a := 4096) (b := 4096) (by omega) (by decide)
theorem in_4 {i : Nat} (h : i < 4096) : vp_in (nI i) 4096 := vp_in_nI h (by decide)
section
variable {co bo E ah bl pc we he li : Nat → Int32} {bd wt pl : Nat → Nat}
def xw_I (E : Nat → Int32) (bd : Nat → Nat) (bl : Nat → Int32) (pl wt : Nat → Nat) (i : Nat) (H G : Nat → Int32) : Prop :=
  px_I (wk_X E bd bl pl) wt 1024 4096 true i H ∧ px_I (wk_X E bd bl pl) wt 1024 4096 false i G ∧ ∀ x, x < 4096 → (H x = -1 ↔ G x = -1)
theorem xw_2 {post : SX → Prop} (W : xW_ E bo bl pc we bd wt pl) (I0 : xw_I E bd bl pl wt 1024 he li)
    (h : ∀ he' li' : Nat → Int32, fl_A (wk_X E bd bl pl) wt 1024 4096 true he' → fl_A (wk_X E bd bl pl) wt 1024 4096 false li' → post (co, bo, E, ah, bl, pc, we, he', li')) : ∃ n, wX_weighWalks_61 post n 1024 co bo E ah bl pc we he li := by
  have hB := xW_B W
  refine pk_loop (fun n i (t : (Nat → Int32) × (Nat → Int32)) => wX_weighWalks_61 post n (nI i) co bo E ah bl pc we t.1 t.2) (fun i t => xw_I E bd bl pl wt i t.1 t.2) 4096 1024 (he, li) (by omega) I0 ?_ ?_
  · rintro n ⟨H, G⟩ I
    exact br_t le_4 (h H G (px_A hB I.1) (px_A hB I.2.1))
  · rintro n i ⟨H, G⟩ hi I k
    refine br_f (ge_4 hi) ⟨in_4 hi, ?_⟩
    rw [cl_n (by omega)]
    refine br_c (fun c z ez => ?_) (fun c => xs_ W hi I.1.1 I.2.1.1 I.2.2 c fun he' li' J z ez => ?_)
    · subst ez
      rw [nI_1]
      exact k (H, G) ⟨px_n I.1 c, px_n I.2.1 ((I.2.2 i hi).mp c), I.2.2⟩
    · subst ez
      rw [nI_1]
      exact k (he', li') ⟨px_s I.1 J.1, px_s I.2.1 J.2.1, J.2.2⟩
theorem xw_1 (W : xW_ E bo bl pc we bd wt pl) {g : Bool} {B : Nat → Int32} (h : ∀ x, x < 4096 → B x = -1) : px_I (wk_X E bd bl pl) wt 1024 4096 g 1024 (upd B 1024 (nI (wt 0))) := by
  obtain ⟨S, C⟩ := fl_b0 (g := g) (xW_B W) (B := upd B 1024 (nI (wt 0))) pk_us (fun s hs hn => by rw [pk_un hn]; exact h s hs)
  refine ⟨S, C, fun s hs b hb s' m hy hm e => ?_⟩
  rw [pk_un (by omega), h s (by omega)] at e
  exact absurd e.symm (nn_1 hm)
theorem xw_ {post : SX → Prop} (W : xW_ E bo bl pc we bd wt pl)
    (h : ∀ he' li' : Nat → Int32, fl_A (wk_X E bd bl pl) wt 1024 4096 true he' → fl_A (wk_X E bd bl pl) wt 1024 4096 false li' → post (co, bo, E, ah, bl, pc, we, he', li')) : wpX_weighWalks post (co, bo, E, ah, bl, pc, we, he, li) := by
  refine loop_0 (fun n i (t : (Nat → Int32) × (Nat → Int32)) => wX_weighWalks_2 post n (nI i) co bo E ah bl pc we t.1 t.2) (fun i t => ∀ x, x < i → t.1 x = -1 ∧ t.2 x = -1) 4096 (he, li) (fun x hx => absurd hx (by omega)) ?_ ?_
  · rintro n ⟨H, G⟩ I
    have I : ∀ x, x < 4096 → H x = -1 ∧ G x = -1 := I
    refine br_t le_4 fun y ey z ez => ?_
    have e0 := W.2.2.2.2.2.1 0 (by omega)
    rw [e0] at ey ez
    subst ez; subst ey
    refine xw_2 W ⟨xw_1 W (fun x hx => (I x hx).1), xw_1 W (fun x hx => (I x hx).2), fun x hx => ?_⟩ h
    by_cases e : x = 1024
    · subst e; rw [pk_us, pk_us]
    · rw [pk_un e, pk_un e]; exact ⟨fun _ => (I x hx).2, fun _ => (I x hx).1⟩
  · rintro n i ⟨H, G⟩ hi I k
    have I : ∀ x, x < i → H x = -1 ∧ G x = -1 := I
    refine br_f (ge_4 hi) ⟨in_4 hi, fun y ey => ⟨in_4 hi, fun y2 ey2 z ez => ?_⟩⟩
    subst ez; subst ey2; subst ey
    rw [nI_1, cl_n (by omega)]
    refine k (_, _) (fun x hx => ?_)
    show upd H i (-1) x = -1 ∧ upd G i (-1) x = -1
    by_cases e : x = i
    · subst e; exact ⟨pk_us, pk_us⟩
    · rw [pk_un e, pk_un e]; exact I x (by omega)
/-! the values -/
theorem xm_0 (W : xW_ E bo bl pc we bd wt pl) {g : Bool} {Q : Nat → Prop} {B : Nat → Int32} (A : fl_A (wk_X E bd bl pl) wt 1024 4096 g B) : fl_V g Q B 1024 (-1) := by
  refine Or.inl ⟨rfl, fun s hs _ => ?_⟩
  rcases A.1 s (by omega) with e | ⟨n, w, hw, e⟩
  · exact e
  · have := (wk_Xb W.1 W.2.1 W.2.2.2.2.1 W.2.2.2.2.2.2 hw).1
    omega
theorem xm_k {Q : Nat → Prop} {B : Nat → Int32} {i : Nat} {v : Int32} (hv : B i = -1 ∨ ∃ m, m < 1073741824 ∧ B i = nI m) (V : fl_V true Q B i v) (c : B i ≤ v) : fl_V true Q B (i + 1) v := by
  rcases hv with e | ⟨m, hm, e⟩
  · exact fl_Vn V (fun _ => e)
  · rcases fl_Vv V with e1 | ⟨m1, hm1, e1⟩
    · rw [e, e1] at c; exact absurd c (mm_le hm)
    · refine fl_Vk V hm1 e1 hm e ⟨fun _ => ?_, fun z => absurd z (by decide)⟩
      rw [e, e1, le_b hm hm1] at c; exact c
theorem xm_s {Q : Nat → Prop} {B : Nat → Int32} {i : Nat} {v : Int32} (hv : B i = -1 ∨ ∃ m, m < 1073741824 ∧ B i = nI m) (V : fl_V true Q B i v) (c : ¬ B i ≤ v) (hq : Q i) : fl_V true Q B (i + 1) (B i) := by
  rcases hv with e | ⟨m, hm, e⟩
  · exfalso
    apply c
    rw [e]
    rcases fl_Vv V with e1 | ⟨m1, hm1, e1⟩
    · rw [e1]; exact Int32.le_refl _
    · rw [e1]; exact le_mm hm1
  · rw [e] at c ⊢
    refine fl_Vs V hq hm e ?_
    rcases fl_Vv V with e1 | ⟨m1, hm1, e1⟩
    · exact Or.inl e1
    · refine Or.inr ⟨m1, hm1, e1, fun _ => ?_, fun z => absurd z (by decide)⟩
      rw [e1, le_b hm hm1] at c; omega
theorem xm_ {post : Int32 → Prop} (W : xW_ E bo bl pc we bd wt pl) (A : fl_A (wk_X E bd bl pl) wt 1024 4096 true he)
    (h : ∀ v, an_s true (fun w => ∃ n s, wk_XW E bd wt bl pl n s w ∧ True) v → post v) : wpX_heaviestOfAll post (co, bo, E, ah, bl, pc, we, he, li) := by
  have hB := xW_B W
  refine pk_loop (fun n i v => wX_heaviestOfAll_6 post co bo E ah bl pc we he li n v (nI i)) (fun i v => fl_V true (fun _ => True) he i v) 4096 1024 (-1) (by omega) (xm_0 W A) ?_ ?_
  · intro n v V
    exact br_t le_4 (h v (fl_an hB A V))
  · intro n i v hi V k
    have hv := fl_Sv hB A.1 hi
    refine br_f (ge_4 hi) ⟨in_4 hi, ?_⟩
    rw [cl_n (by omega)]
    refine br_c (fun c z ez => ?_) (fun c => ⟨in_4 hi, fun y ey z ez => ?_⟩)
    · subst ez
      rw [nI_1]
      exact k _ (xm_k hv V c)
    · subst ez; subst ey
      rw [nI_1]
      exact k _ (xm_s hv V c trivial)
theorem xe_ {post : Int32 → Prop} (W : xW_ E bo bl pc we bd wt pl) (A : fl_A (wk_X E bd bl pl) wt 1024 4096 true he) {p : Int32}
    (h : ∀ v, an_s true (fun w => ∃ n s, wk_XW E bd wt bl pl n s w ∧ bl (wk_z s) = p) v → post v) : wpX_heaviestEndingAt post (co, bo, E, ah, bl, pc, we, he, li) p := by
  have hB := xW_B W
  refine pk_loop (fun n i v => wX_heaviestEndingAt_6 post p co bo E ah bl pc we he li n v (nI i)) (fun i v => fl_V true (fun s => bl (wk_z s) = p) he i v) 4096 1024 (-1) (by omega) (xm_0 W A) ?_ ?_
  · intro n v V
    exact br_t le_4 (h v (fl_an hB A V))
  · intro n i v hi V k
    have hv := fl_Sv hB A.1 hi
    refine br_f (ge_4 hi) ⟨in_4 hi, ?_⟩
    rw [cl_n (by omega)]
    refine br_c (fun c z ez => ?_) (fun c => xz_ hi (br_c (fun d => ⟨in_4 hi, fun y ey z ez => ?_⟩) (fun d z ez => ?_)))
    · subst ez
      rw [nI_1]
      exact k _ (xm_k hv V c)
    · subst ez; subst ey
      rw [nI_1]
      exact k _ (xm_s hv V c d)
    · subst ez
      rw [nI_1]
      exact k _ (fl_Vn V (fun q => absurd q d))
theorem xq_ {post : Int32 → Prop} (W : xW_ E bo bl pc we bd wt pl) (A : fl_A (wk_X E bd bl pl) wt 1024 4096 false li) {p : Int32}
    (h : ∀ v, an_s false (fun w => ∃ n s, wk_XW E bd wt bl pl n s w ∧ bl (wk_z s) = p) v → post v) : wpX_lightestEndingAt post (co, bo, E, ah, bl, pc, we, he, li) p := by
  have hB := xW_B W
  refine pk_loop (fun n i v => wX_lightestEndingAt_6 post p co bo E ah bl pc we he li n v (nI i)) (fun i v => fl_V false (fun s => bl (wk_z s) = p) li i v) 4096 1024 (-1) (by omega) (xm_0 W A) ?_ ?_
  · intro n v V
    exact br_t le_4 (h v (fl_an hB A V))
  · intro n i v hi V k
    have hv := fl_Sv hB A.1 hi
    refine br_f (ge_4 hi) ⟨in_4 hi, ?_⟩
    rw [cl_n (by omega)]
    refine br_c (fun c z ez => ?_) (fun c => xz_ hi (br_c (fun d => br_c (fun f => ⟨in_4 hi, fun y ey z ez => ?_⟩) (fun f => ⟨in_4 hi, br_c (fun f2 z ez => ?_) (fun f2 => ⟨in_4 hi, fun y ey z ez => ?_⟩)⟩)) (fun d z ez => ?_)))
    · subst ez
      rw [nI_1]
      exact k _ (fl_Vn V (fun _ => c))
    · subst ez; subst ey
      rw [nI_1]
      rcases hv with e | ⟨m, hm, e⟩
      · exact absurd e c
      · refine k _ ?_
        rw [e]
        exact fl_Vs V d hm e (Or.inl f)
    · subst ez
      rw [nI_1]
      rcases hv with e | ⟨m, hm, e⟩
      · exact absurd e c
      · rcases fl_Vv V with e1 | ⟨m1, hm1, e1⟩
        · exact absurd e1 f
        · refine k _ (fl_Vk V hm1 e1 hm e ⟨fun z => absurd z (by decide), fun _ => ?_⟩)
          rw [e, e1, le_b hm1 hm] at f2; exact f2
    · subst ez; subst ey
      rw [nI_1]
      rcases hv with e | ⟨m, hm, e⟩
      · exact absurd e c
      · rcases fl_Vv V with e1 | ⟨m1, hm1, e1⟩
        · exact absurd e1 f
        · refine k _ ?_
          rw [e] at f2 ⊢
          refine fl_Vs V d hm e (Or.inr ⟨m1, hm1, e1, fun z => absurd z (by decide), fun _ => ?_⟩)
          rw [e1, le_b hm1 hm] at f2; omega
    · subst ez
      rw [nI_1]
      exact k _ (fl_Vn V (fun q => absurd q d))
/-! the weights -/
theorem xc_ {post : SX → Prop} (h : ∀ we' : Nat → Int32, (∀ b, b < 6 → we' b = co b) → post (co, bo, E, ah, bl, pc, we', he, li)) : wpX_weighByCost post (co, bo, E, ah, bl, pc, we, he, li) := by
  refine loop_0 (fun n i s => wX_weighByCost_2 post n (nI i) co bo E ah bl pc s he li) (fun i s => ∀ b, b < i → s b = co b) 6 we (fun a ha => absurd ha (by omega)) ?_ ?_
  · intro n s hs
    exact br_t le_6 (h s hs)
  · intro n i s hi hs k
    refine br_f (ge_6 hi) ⟨in_6 hi, in_6 hi, fun y ey z ez => ?_⟩
    subst ez; subst ey
    rw [nI_1, cl_n (by omega)]
    refine k _ (fun a ha => ?_)
    by_cases e : a = i
    · subst e; exact pk_us
    · rw [pk_un e]; exact hs a (by omega)
theorem xi_ {post : SX → Prop} {j : Nat} (hj : j < 6) (h : ∀ we' : Nat → Int32, (∀ b, b < 6 → we' b = if b = j then 1 else 0) → post (co, bo, E, ah, bl, pc, we', he, li)) : wpX_weighByVisitsOf post (co, bo, E, ah, bl, pc, we, he, li) (nI j) := by
  refine loop_0 (fun n i s => wX_weighByVisitsOf_2 post (nI j) n (nI i) co bo E ah bl pc s he li) (fun i s => ∀ b, b < i → s b = if b = j then 1 else 0) 6 we (fun a ha => absurd ha (by omega)) ?_ ?_
  · intro n s hs
    exact br_t le_6 (h s hs)
  · intro n i s hi hs k
    refine br_f (ge_6 hi) (pk_eq i j (fun c => ⟨in_6 hi, fun y ey z ez => ?_⟩) (fun c => ⟨in_6 hi, fun y ey z ez => ?_⟩))
    · subst ez; subst ey
      rw [nI_1, cl_n (by omega)]
      refine k _ (fun a ha => ?_)
      by_cases e : a = i
      · subst e; rw [pk_us, if_pos c]
      · rw [pk_un e]; exact hs a (by omega)
    · subst ez; subst ey
      rw [nI_1, cl_n (by omega)]
      refine k _ (fun a ha => ?_)
      by_cases e : a = i
      · subst e; rw [pk_us, if_neg c]
      · rw [pk_un e]; exact hs a (by omega)
end
end
section
def gi_ (g : Bool) : Int32 := if g = true then 1 else 0
theorem ge_7 {i : Nat} (h : i < 4374) : ¬ (4374 : Int32) ≤ nI i := nI_ge (b := 4374) h (by decide)
theorem le_7 : (4374 : Int32) ≤ nI 4374 := nI_le (a := 4374) (b := 4374) (by omega) (by decide)
theorem in_7 {i : Nat} (h : i < 4374) : vp_in (nI i) 4374 := vp_in_nI h (by decide)
theorem mm_n : (-1 : Int32) < 0 := by decide
theorem pw_t : ∀ b, b < 6 → 3 ^ b = wk_t b := by decide +kernel
theorem wk_tb {b : Nat} (hb : b < 6) : 1 ≤ wk_t b ∧ wk_t b ≤ 243 := by
  rcases wk_6 hb with rfl | rfl | rfl | rfl | rfl | rfl <;> decide
section
variable {pr mo E ov wg be : Nat → Int32} {bd wt : Nat → Nat}
def yW_ (E ov mo wg : Nat → Int32) (bd wt : Nat → Nat) : Prop :=
  cl_G E ∧ (∀ u, u < 6 → ov u = dq_M E u) ∧ (∀ b, b < 6 → mo b = nI (bd b)) ∧ (∀ b, b < 6 → 1 ≤ bd b ∧ bd b ≤ 3) ∧ (∀ b, b < 6 → wg b = nI (wt b)) ∧ fl_B (wk_Y E bd) wt 0 4374
theorem yP_ {post : Int32 → Prop} {b : Nat} (hb : b < 6) (h : post (nI (wk_t b))) : wpY_power post (pr, mo, E, ov, wg, be) (nI b) := by
  refine loop_0 (fun n i s => wY_power_4 post (nI b) pr mo E ov wg be n s (nI i)) (fun i s => s = nI (3 ^ i)) b 1 rfl ?_ ?_
  · intro n s hs
    exact br_t (Int32.le_refl _) (by rw [hs, pw_t b hb]; exact h)
  · intro n i s hi hs k
    refine br_f (nI_ge hi (by omega)) fun y ey z ez => ?_
    subst ez; subst ey
    rw [nI_1]
    exact k _ (by rw [hs]; exact pk_mul _ 3)
theorem yG_4 {post : Int32 → Prop} {s b t : Nat} (hs : s < 4374) (hb : b < 6) (ht : t < 4) (hm : mo b = nI (bd b)) (hd : bd b ≤ 3)
    (h1 : t < bd b → post (nI (wk_g s b t))) (h0 : ¬ t < bd b → post (-1)) : wY_go_40 post (nI b) (nI (wk_t b)) (nI (s / 6)) (nI (wk_c s b)) (nI t) pr mo E ov wg be := by
  unfold wY_go_40
  rw [cl_n (by omega), hm]
  refine ⟨in_6 hb, pk_lt t (bd b) (fun c => ?_) (fun c => h0 (by omega))⟩
  have hle : wk_c s b * wk_t b ≤ s / 6 := by
    have a1 : wk_c s b ≤ s / 6 / wk_t b := Nat.mod_le _ _
    exact Nat.le_trans (Nat.mul_le_mul_right _ a1) (Nat.div_mul_le_self _ _)
  have e : (6 : Int32) * (nI (s / 6) - nI (wk_c s b) * nI (wk_t b) + nI t * nI (wk_t b)) + nI b = nI (wk_g s b t) := by
    rw [pk_mul, pk_mul, pk_sub hle, nI_add]
    show nI 6 * _ + _ = _
    rw [pk_mul, nI_add]
    rfl
  rw [e]
  exact h1 c
theorem yG_ {post : Int32 → Prop} (W : yW_ E ov mo wg bd wt) {s b : Nat} (hs : s < 4374) (hb : b < 6) (he : bt (E (s % 6)) b = true ∧ ¬ ov (s % 6) = 0)
    (h1 : wk_T E s b < bd b → post (nI (wk_g s b (wk_T E s b)))) (h0 : ¬ wk_T E s b < bd b → post (-1)) : wpY_go post (pr, mo, E, ov, wg, be) (nI s) (nI b) := by
  obtain ⟨hE, hO, hmo, hbd, hwg, hB⟩ := W
  have ha : s % 6 < 6 := by omega
  have hc := wk_c3 s b
  have ht := wk_tb hb
  have hd := (hbd b hb).2
  unfold wpY_go
  dsimp only
  refine yP_ hb ⟨no_6, fun x4 e4 => ⟨nI_ne0 (by omega) (by omega), by decide, fun x5 e5 => ⟨no_6, ?_⟩⟩⟩
  rw [dv_6 (by omega)] at e4
  subst e4
  have e6 : nI (s / 6) / nI (wk_t b) = nI (s / 6 / wk_t b) := pk_div (by omega) (by omega) (by omega)
  have e7 : nI (s / 6 / wk_t b) - nI (s / 6 / wk_t b) / 3 * 3 = nI (wk_c s b) :=
    pk_rem (d := 3) (Nat.lt_of_le_of_lt (Nat.div_le_self _ _) (by omega)) (by decide) (by decide)
  rw [e6, e7] at e5
  subst e5
  rw [rm_6 (by omega)]
  refine yk_ ha hb (fun c => br_f no_1 ?_) (fun c => br_t rfl ?_)
  · rw [nI_1]
    have e : wk_T E s b = wk_c s b + 1 := if_pos (by rw [← hO _ ha]; exact c.2)
    rw [e] at h1 h0
    exact yG_4 hs hb (by omega) (hmo b hb) hd h1 h0
  · have e : wk_T E s b = 0 := if_neg (fun z => c ⟨he, by rw [hO _ ha]; exact z⟩)
    rw [e] at h1 h0
    exact yG_4 (t := 0) hs hb (by omega) (hmo b hb) hd h1 h0
abbrev ys_S (E : Nat → Int32) (bd wt : Nat → Nat) (g : Bool) (s b : Nat) (B0 B : Nat → Int32) : Prop := sp_I (wk_Y E bd) wt 0 4374 g (fun x => x = s) s b B0 B
theorem ys_ {post : Int32 → SY → Prop} (W : yW_ E ov mo wg bd wt) {g : Bool} {s : Nat} (hs : s < 4374) (S : fl_S (wk_Y E bd) wt 0 4374 be) (hn : ¬ be s = -1)
    (h : ∀ (r : Int32) (be' : Nat → Int32), ys_S E bd wt g s 6 be be' → (r = 0 → be' = be) → (r = 0 ∨ r = 1) → post r (pr, mo, E, ov, wg, be')) : wpY_spread post (pr, mo, E, ov, wg, be) (nI s) (gi_ g) := by
  have W' := W
  obtain ⟨hE, hO, hmo, hbd, hwg, hB⟩ := W'
  obtain ⟨n1, m, hw, em, lm⟩ := fl_v hB S hs hn
  have ha : s % 6 < 6 := by omega
  refine loop_0 (fun n b (t : Int32 × (Nat → Int32)) => wY_spread_5 post (nI s) (gi_ g) n t.1 (nI b) pr mo E ov wg t.2) (fun b t => ys_S E bd wt g s b be t.2 ∧ (t.1 = 0 → t.2 = be) ∧ (t.1 = 0 ∨ t.1 = 1)) 6 (0, be) ⟨sp_0 S, fun _ => rfl, Or.inl rfl⟩ ?_ ?_
  · rintro n ⟨r, B⟩ ⟨I, I2, I3⟩
    refine br_t le_6 ⟨?_, h r B I I2 I3⟩
    have I3 : r = 0 ∨ r = 1 := I3
    rcases I3 with z | z
    · show narrow .boolean (.int r) = .int r
      rw [z]; rfl
    · show narrow .boolean (.int r) = .int r
      rw [z]; rfl
  · rintro n b ⟨r, B⟩ hb ⟨I, I2, I3⟩ k
    have I : ys_S E bd wt g s b be B := I
    have no : (∀ s', ¬ wk_Y E bd s b s') → wY_spread_36 post (wY_spread_5 post (nI s) (gi_ g) n) (nI s) (gi_ g) r (nI b) (-1) pr mo E ov wg B := by
      intro hno
      refine br_t mm_n fun z ez => ?_
      subst ez
      rw [nI_1]
      exact k (r, B) ⟨sp_n I hno, I2, I3⟩
    refine br_f (ge_6 hb) ⟨no_6, ?_⟩
    rw [rm_6 (by omega)]
    refine ye_ ha hb (fun c => br_f no_1 (yG_ W hs hb c (fun d => ?_) (fun d => no fun s' q => d q.2.2.2.1))) (fun c => br_t rfl (no fun s' q => c ⟨q.2.2.1, ?_⟩))
    · have hL : dq_L E (s % 6) := (dq_M0 hE ha).mp (by rw [← hO _ ha]; exact c.2)
      have hy : wk_Y E bd s b (wk_g s b (wk_T E s b)) := ⟨hb, hL, c.1, d, rfl⟩
      have hw' : gw_ (wk_Y E bd) wt 0 (n1 + 1) (wk_g s b (wk_T E s b)) (m + wt b) := ⟨s, m, b, hw, hy, rfl⟩
      have hl := (hB.1 _ _ _ hw')
      have hx : wk_g s b (wk_T E s b) ≠ s := by
        intro z
        have e1 : wk_g s b (wk_T E s b) % 6 = b := wk_gm hb
        rw [z] at e1
        exact (hE (s % 6) ha b c.1).2 e1.symm
      generalize wk_g s b (wk_T E s b) = x' at hy hw' hl hx
      have hx7 := hl.1
      have hm0 : m + wt b < 1073741824 := by omega
      have eB : B s = nI m := by rw [I.2.2.1 s rfl]; exact em
      have kp : (∃ m', m' < 1073741824 ∧ B x' = nI m' ∧ gd_ g (m + wt b) m') → wY_spread_5 post (nI s) (gi_ g) n r (nI b + 1) pr mo E ov wg B := by
        intro hk
        rw [nI_1]
        exact k (r, B) ⟨sp_k hB (fun _ _ _ _ => dy_d) I hy hw em hk, I2, I3⟩
      have stt : (B x' = -1 ∨ ∃ m', m' < 1073741824 ∧ B x' = nI m' ∧ gd_ g m' (m + wt b)) → wY_spread_100 post (wY_spread_5 post (nI s) (gi_ g) n) (nI s) (gi_ g) (nI b) (nI x') (nI (m + wt b)) pr mo E ov wg B := by
        intro hk
        refine ⟨in_7 hx7, fun y ey z ez => ?_⟩
        subst ez; subst ey
        rw [nI_1, cl_n (by omega)]
        exact k (1, _) ⟨sp_s hB (fun _ _ _ _ => dy_d) I hy hx hw em hk, fun z => absurd z no_1, Or.inr rfl⟩
      refine br_f (nI_pos (by omega)) ⟨in_7 hs, in_6 hb, ?_⟩
      rw [cl_n (by omega), cl_n (by omega), cl_n (by omega)]
      intro w ew
      have ew : w = B s + wg b := ew
      rw [eB, hwg b hb, nI_add] at ew
      subst ew
      refine ⟨in_7 hx7, ?_⟩
      rcases fl_Sv hB I.1 hx7 with e | ⟨m', hm', e⟩
      · refine br_t ?_ (stt (Or.inl e))
        show B x' < 0
        rw [e]; exact mm_n
      · refine br_f ?_ ?_
        · show ¬ B x' < 0
          rw [e]; exact nI_pos (by omega)
        cases g
        · refine br_t rfl ⟨in_7 hx7, br_c (fun f z ez => ?_) (fun f => ?_)⟩
          · subst ez
            have f : B x' ≤ nI (m + wt b) := f
            rw [e, le_b hm' hm0] at f
            exact kp ⟨m', hm', e, fun z => absurd z (by decide), fun _ => f⟩
          · have f : ¬ B x' ≤ nI (m + wt b) := f
            rw [e, le_b hm' hm0] at f
            exact stt (Or.inr ⟨m', hm', e, fun z => absurd z (by decide), fun _ => by omega⟩)
        · refine br_f no_1 ⟨in_7 hx7, br_c (fun f z ez => ?_) (fun f => ?_)⟩
          · subst ez
            have f : nI (m + wt b) ≤ B x' := f
            rw [e, le_b hm0 hm'] at f
            exact kp ⟨m', hm', e, fun _ => f, fun z => absurd z (by decide)⟩
          · have f : ¬ nI (m + wt b) ≤ B x' := f
            rw [e, le_b hm0 hm'] at f
            exact stt (Or.inr ⟨m', hm', e, fun _ => by omega, fun z => absurd z (by decide)⟩)
    · rw [hO _ ha]; exact (dq_M0 hE ha).mpr q.2.1
theorem yf_i {post : SY → Prop} (W : yW_ E ov mo wg bd wt) {g : Bool} {J : Int32 → Int32 → (Nat → Int32) → (Nat → Int32) → (Nat → Int32) → (Nat → Int32) → (Nat → Int32) → (Nat → Int32) → Prop} {k : Nat} (S : fl_S (wk_Y E bd) wt 0 4374 be)
    (h : ∀ (more : Int32) (be' : Nat → Int32), fl_P (wk_Y E bd) wt 0 4374 g be 4374 be' → (more = 0 → be' = be) → (more = 0 ∨ more = 1) → J more (nI (k + 1)) pr mo E ov wg be') : ∃ n, wY_follow_54 post J (gi_ g) (nI k) n 0 0 pr mo E ov wg be := by
  have hB := W.2.2.2.2.2
  refine loop_0 (fun n i (t : Int32 × (Nat → Int32)) => wY_follow_54 post J (gi_ g) (nI k) n t.1 (nI i) pr mo E ov wg t.2) (fun i t => fl_P (wk_Y E bd) wt 0 4374 g be i t.2 ∧ (t.1 = 0 → t.2 = be) ∧ (t.1 = 0 ∨ t.1 = 1)) 4374 (0, be) ⟨py_0 S, fun _ => rfl, Or.inl rfl⟩ ?_ ?_
  · rintro n ⟨r, B⟩ ⟨I, I2, I3⟩
    refine br_t le_7 fun z ez => ?_
    subst ez
    rw [nI_1]
    exact h r B I I2 I3
  · rintro n i ⟨r, B⟩ hi ⟨I, I2, I3⟩ kk
    have I : fl_P (wk_Y E bd) wt 0 4374 g be i B := I
    have I2 : r = 0 → B = be := I2
    refine br_f (ge_7 hi) ⟨in_7 hi, ?_⟩
    rw [cl_n (by omega)]
    rcases fl_Sv hB I.1 hi with e | ⟨m', hm', e⟩
    · refine br_t ?_ fun z ez => ?_
      · show B i < 0
        rw [e]; exact mm_n
      · subst ez
        rw [nI_1]
        exact kk (r, B) ⟨py_n I e, I2, I3⟩
    · refine br_f ?_ (ys_ W hi I.1 (by show ¬ B i = -1; rw [e]; exact nn_1 hm') fun q be' Q Q2 Q3 => ?_)
      · show ¬ B i < 0
        rw [e]; exact nI_pos (by omega)
      · refine br_c (fun c => br_c (fun d z ez => ?_) (fun d z ez => ?_)) (fun c z ez => ?_)
        · subst ez
          rw [nI_1]
          exact kk (0, be') ⟨py_s I Q, fun _ => (Q2 c).trans (I2 d), Or.inl rfl⟩
        · subst ez
          rw [nI_1]
          exact kk (1, be') ⟨py_s I Q, fun z => absurd z no_1, Or.inr rfl⟩
        · subst ez
          rw [nI_1]
          exact kk (1, be') ⟨py_s I Q, fun z => absurd z no_1, Or.inr rfl⟩
theorem yf_o {post : SY → Prop} (W : yW_ E ov mo wg bd wt) {g : Bool} (I0 : py_I (wk_Y E bd) wt 0 4374 g 0 1 be)
    (h : ∀ be' : Nat → Int32, fl_A (wk_Y E bd) wt 0 4374 g be' → post (pr, mo, E, ov, wg, be')) : ∃ n, wY_follow_38 post (gi_ g) n 1 0 pr mo E ov wg be := by
  have hB := W.2.2.2.2.2
  refine loop_0 (fun n i (t : Int32 × (Nat → Int32)) => wY_follow_38 post (gi_ g) n t.1 (nI i) pr mo E ov wg t.2) (fun i t => py_I (wk_Y E bd) wt 0 4374 g i t.1 t.2) 4374 (1, be) I0 ?_ ?_
  · rintro n ⟨r, B⟩ I
    exact br_t le_7 (h B ⟨I.1, I.2.1⟩)
  · rintro n i ⟨r, B⟩ hi I k
    refine br_f (ge_7 hi) (br_c (fun c => h B (I.2.2.1 c)) (fun c => ?_))
    exact yf_i W I.1 fun more be' P P2 P3 => k (more, be') (py_S hB I.1 I.2.1 P P2 P3)
theorem yf_ {post : SY → Prop} (W : yW_ E ov mo wg bd wt) {g : Bool}
    (h : ∀ be' : Nat → Int32, fl_A (wk_Y E bd) wt 0 4374 g be' → post (pr, mo, E, ov, wg, be')) : wpY_follow post (pr, mo, E, ov, wg, be) (gi_ g) := by
  have hB := W.2.2.2.2.2
  refine loop_0 (fun n i B => wY_follow_2 post (gi_ g) n (nI i) pr mo E ov wg B) (fun i B => ∀ x, x < i → B x = -1) 4374 be (fun x hx => absurd hx (by omega)) ?_ ?_
  · intro n B I
    refine br_t le_7 fun y ey => ?_
    have ey : y = upd B 0 (wg 0) := ey
    rw [W.2.2.2.2.1 0 (by omega)] at ey
    subst ey
    obtain ⟨S, C⟩ := fl_b0 (g := g) hB (B := upd B 0 (nI (wt 0))) pk_us (fun s hs hn => by rw [pk_un hn]; exact I s hs)
    exact yf_o W ⟨S, C, fun z => absurd z no_1, Or.inr rfl⟩ h
  · intro n i B hi I k
    refine br_f (ge_7 hi) ⟨in_7 hi, fun y ey z ez => ?_⟩
    subst ez; subst ey
    rw [nI_1, cl_n (by omega)]
    refine k _ (fun x hx => ?_)
    by_cases e : x = i
    · subst e; exact pk_us
    · rw [pk_un e]; exact I x (by omega)
theorem yv_ {post : Int32 → Prop} (hB : fl_B (wk_Y E bd) wt 0 4374) {g : Bool} (A : fl_A (wk_Y E bd) wt 0 4374 g be) {p : Int32} {Q : Nat → Prop} (hQ1 : p < 0 → ∀ s, Q s) (hQ2 : ¬ p < 0 → ∀ s, s < 4374 → (nI (s % 6) = p ↔ Q s))
    (h : ∀ v, an_s g (fun w => ∃ n s, wk_YW E bd wt n s w ∧ Q s) v → post v) : wpY_value post (pr, mo, E, ov, wg, be) p (gi_ g) := by
  refine loop_0 (fun n i v => wY_value_5 post p (gi_ g) pr mo E ov wg be n v (nI i)) (fun i v => fl_V g Q be i v) 4374 (-1) fl_V0 ?_ ?_
  · intro n v V
    exact br_t le_7 (h v (fl_an hB A V))
  · intro n i v hi V k
    refine br_f (ge_7 hi) ⟨in_7 hi, ?_⟩
    rw [cl_n (by omega)]
    rcases fl_Sv hB A.1 hi with e | ⟨m, hm, e⟩
    · refine br_t (by rw [e]; exact mm_n) fun z ez => ?_
      subst ez
      rw [nI_1]
      exact k _ (fl_Vn V (fun _ => e))
    · have take : Q i → (v = -1 ∨ ∃ m1, m1 < 1073741824 ∧ v = nI m1 ∧ gd_ g m1 m) → wY_value_69 post (wY_value_5 post p (gi_ g) pr mo E ov wg be n) p (gi_ g) (nI i) pr mo E ov wg be := by
        intro hq hd
        refine ⟨in_7 hi, fun y ey z ez => ?_⟩
        rw [cl_n (by omega)] at ey
        subst ez; subst ey
        rw [nI_1]
        refine k _ ?_
        rw [e]
        exact fl_Vs V hq hm e hd
      have goes : Q i → wY_value_36 post (wY_value_5 post p (gi_ g) pr mo E ov wg be n) p (gi_ g) v (nI i) pr mo E ov wg be := by
        intro hq
        unfold wY_value_36
        rw [cl_n (by omega), e]
        rcases fl_Vv V with e1 | ⟨m1, hm1, e1⟩
        · exact br_t (by rw [e1]; exact mm_n) (take hq (Or.inl e1))
        · refine br_f (by rw [e1]; exact nI_pos (by omega)) ?_
          have kp : gd_ g m m1 → wY_value_5 post p (gi_ g) pr mo E ov wg be n v (nI i + 1) := by
            intro hd
            rw [nI_1]
            exact k _ (fl_Vk V hm1 e1 hm e hd)
          cases g
          · refine br_t rfl ⟨in_7 hi, br_c (fun f z ez => ?_) (fun f => ?_)⟩
            · subst ez
              rw [e1, le_b hm1 hm] at f
              exact kp ⟨fun z => absurd z (by decide), fun _ => f⟩
            · rw [e1, le_b hm1 hm] at f
              exact take hq (Or.inr ⟨m1, hm1, e1, fun z => absurd z (by decide), fun _ => by omega⟩)
          · refine br_f no_1 ⟨in_7 hi, br_c (fun f z ez => ?_) (fun f => ?_)⟩
            · subst ez
              rw [e1, le_b hm hm1] at f
              exact kp ⟨fun _ => f, fun z => absurd z (by decide)⟩
            · rw [e1, le_b hm hm1] at f
              exact take hq (Or.inr ⟨m1, hm1, e1, fun _ => by omega, fun z => absurd z (by decide)⟩)
      refine br_f (by rw [e]; exact nI_pos (by omega)) (br_c (fun c => goes (hQ1 c i)) (fun c => ⟨no_6, ?_⟩))
      rw [rm_6 (by omega)]
      refine br_c (fun d => goes ((hQ2 c i hi).mp d)) (fun d z ez => ?_)
      subst ez
      rw [nI_1]
      exact k _ (fl_Vn V (fun q => absurd ((hQ2 c i hi).mpr q) d))
theorem yc_ {post : SY → Prop} (h : ∀ wg' : Nat → Int32, (∀ b, b < 6 → wg' b = pr b) → post (pr, mo, E, ov, wg', be)) : wpY_weigh post (pr, mo, E, ov, wg, be) := by
  refine loop_0 (fun n i s => wY_weigh_2 post n (nI i) pr mo E ov s be) (fun i s => ∀ b, b < i → s b = pr b) 6 wg (fun a ha => absurd ha (by omega)) ?_ ?_
  · intro n s hs
    exact br_t le_6 (h s hs)
  · intro n i s hi hs k
    refine br_f (ge_6 hi) ⟨in_6 hi, in_6 hi, fun y ey z ez => ?_⟩
    subst ez; subst ey
    rw [nI_1, cl_n (by omega)]
    refine k _ (fun a ha => ?_)
    by_cases e : a = i
    · subst e; exact pk_us
    · rw [pk_un e]; exact hs a (by omega)
/-- asked, in a program that is regular -/
theorem yA_f {post : Int32 → SY → Prop} (hE : cl_G E) (hR : rg_R E 6 = false) (hmo : ∀ b, b < 6 → mo b = nI (bd b)) (hbd : ∀ b, b < 6 → 1 ≤ bd b ∧ bd b ≤ 3) (hpr : ∀ b, b < 6 → pr b = nI (wt b)) (hB : fl_B (wk_Y E bd) wt 0 4374) {g : Bool}
    {p : Int32} {Q : Nat → Prop} (hQ1 : p < 0 → ∀ s, Q s) (hQ2 : ¬ p < 0 → ∀ s, s < 4374 → (nI (s % 6) = p ↔ Q s))
    (h : ∀ v (ov' wg' be' : Nat → Int32), an_s g (fun w => ∃ n s, wk_YW E bd wt n s w ∧ Q s) v → post v (pr, mo, E, ov', wg', be')) : wpY_asked post (pr, mo, E, ov, wg, be) p (gi_ g) := by
  unfold wpY_asked
  dsimp only
  refine yg_ hE (fun ov' hO _ => br_f no_1 (yc_ fun wg' hw => yf_ (wt := wt) (bd := bd) ⟨hE, hO, hmo, hbd, fun b hb => (hw b hb).trans (hpr b hb), hB⟩ fun be' A => yv_ hB A hQ1 hQ2 fun v hv => h v ov' wg' be' hv)) (fun ov' z => ?_)
  rw [hR] at z; exact absurd z (by decide)
theorem yA_t {post : Int32 → SY → Prop} (hE : cl_G E) (hR : rg_R E 6 = true) {p g : Int32} (h : ∀ ov' : Nat → Int32, post (-1) (pr, mo, E, ov', wg, be)) : wpY_asked post (pr, mo, E, ov, wg, be) p g := by
  unfold wpY_asked
  dsimp only
  refine yg_ hE (fun ov' hO z => ?_) (fun ov' _ => br_t rfl (h ov'))
  rw [hR] at z; exact absurd z (by decide)
end
end
section
def rl_G (co bo E : Nat → Int32) : Prop := cl_G E ∧ (∀ b, b < 6 → ∃ n, 1 ≤ n ∧ n ≤ 3 ∧ bo b = nI n) ∧ (∀ b, b < 6 → ∃ n, n ≤ 50 ∧ co b = nI n)
/-- the same costs, bounds and edges on both sides; all else is worked out anew -/
def i_Rel (_ : Nat) (u : SX) (v : SY) : Prop :=
  ∃ co bo E ah bl pc we he li ov wg be : Nat → Int32, u = (co, bo, E, ah, bl, pc, we, he, li) ∧ v = (co, bo, E, ov, wg, be) ∧ rl_G co bo E
theorem i_up {k : Nat} {u : SX} {v : SY} (h : i_Rel k u v) : i_Rel (k + 3) u v := h
def rl_b (a : Nat → Int32) (b : Nat) : Nat := (a b).toNatClampNeg
theorem rl_bb {bo : Nat → Int32} (h : ∀ b, b < 6 → ∃ n, 1 ≤ n ∧ n ≤ 3 ∧ bo b = nI n) : (∀ b, b < 6 → bo b = nI (rl_b bo b)) ∧ (∀ b, b < 6 → 1 ≤ rl_b bo b ∧ rl_b bo b ≤ 3) := by
  constructor
  · intro b hb
    obtain ⟨n, h1, h2, e⟩ := h b hb
    unfold rl_b
    rw [e, nI_clamp (by omega)]
  · intro b hb
    obtain ⟨n, h1, h2, e⟩ := h b hb
    unfold rl_b
    rw [e, nI_clamp (by omega)]
    exact ⟨h1, h2⟩
theorem rl_bc {co : Nat → Int32} (h : ∀ b, b < 6 → ∃ n, n ≤ 50 ∧ co b = nI n) : (∀ b, b < 6 → co b = nI (rl_b co b)) ∧ (∀ b, b < 6 → rl_b co b ≤ 50) := by
  constructor
  · intro b hb
    obtain ⟨n, h2, e⟩ := h b hb
    unfold rl_b
    rw [e, nI_clamp (by omega)]
  · intro b hb
    obtain ⟨n, h2, e⟩ := h b hb
    unfold rl_b
    rw [e, nI_clamp (by omega)]
    exact h2
def rl_i : Nat → Nat → Int32
  | 0 => fun _ => 0
  | i + 1 => upd (rl_i i) i 1
theorem rl_i1 : ∀ n b, b < n → rl_i n b = 1 := by
  intro n
  induction n with
  | zero => intro b hb; omega
  | succ n ih =>
    intro b hb
    show upd (rl_i n) n 1 b = 1
    by_cases e : b = n
    · subst e; exact pk_us
    · rw [pk_un e]; exact ih b (by omega)
theorem rl_x0 {post : SX → Prop} (h : post (fun _ => 0, rl_i 6, fun _ => 0, fun _ => 0, fun _ => 0, fun _ => 0, fun _ => 0, fun _ => 0, fun _ => 0)) : wpX_init post := by
  refine loop_0 (fun n i s => wX_init_80 post n (nI i) (fun _ => 0) s (fun _ => 0) (fun _ => 0) (fun _ => 0) (fun _ => 0) (fun _ => 0) (fun _ => 0) (fun _ => 0)) (fun i s => s = rl_i i) 6 (fun _ => 0) rfl ?_ ?_
  · intro n s hs
    exact br_t le_6 (by rw [hs]; exact h)
  · intro n i s hi hs k
    refine br_f (ge_6 hi) ⟨in_6 hi, fun y ey z ez => ?_⟩
    subst ez; subst ey
    rw [nI_1, cl_n (by omega)]
    exact k _ (by rw [hs]; rfl)
theorem rl_y0 {post : SY → Prop} (h : post (fun _ => 0, rl_i 6, fun _ => 0, fun _ => 0, fun _ => 0, fun _ => 0)) : wpY_init post := by
  refine loop_0 (fun n i s => wY_init_55 post n (nI i) (fun _ => 0) s (fun _ => 0) (fun _ => 0) (fun _ => 0) (fun _ => 0)) (fun i s => s = rl_i i) 6 (fun _ => 0) rfl ?_ ?_
  · intro n s hs
    exact br_t le_6 (by rw [hs]; exact h)
  · intro n i s hi hs k
    refine br_f (ge_6 hi) ⟨in_6 hi, fun y ey z ez => ?_⟩
    subst ez; subst ey
    rw [nI_1, cl_n (by omega)]
    exact k _ (by rw [hs]; rfl)
theorem i_vc0 : wpX_init (fun u => wpY_init (fun v => i_Rel 0 u v)) := by
  refine rl_x0 (rl_y0 ⟨_, _, _, _, _, _, _, _, _, _, _, _, rfl, rfl, ?_, ?_, ?_⟩)
  · intro a ha i hi
    rw [b_0] at hi; exact absurd hi (by decide)
  · intro b hb
    exact ⟨1, by omega, by omega, rl_i1 6 b hb⟩
  · intro b hb
    exact ⟨0, by omega, rfl⟩
section
variable {co bo E ah bl pc we he li ov wg be : Nat → Int32}
theorem rl_ {k : Nat} (R : rl_G co bo E) : i_Rel k (co, bo, E, ah, bl, pc, we, he, li) (co, bo, E, ov, wg, be) := ⟨_, _, _, _, _, _, _, _, _, _, _, _, rfl, rfl, R⟩
theorem rl_co (R : rl_G co bo E) {j c : Nat} (hc : c ≤ 50) : rl_G (upd co j (nI c)) bo E := by
  refine ⟨R.1, R.2.1, fun b hb => ?_⟩
  by_cases e : b = j
  · subst e; exact ⟨c, hc, pk_us⟩
  · rw [pk_un e]; exact R.2.2 b hb
theorem rl_bo (R : rl_G co bo E) {j c : Nat} (h1 : 1 ≤ c) (hc : c ≤ 3) : rl_G co (upd bo j (nI c)) E := by
  refine ⟨R.1, fun b hb => ?_, R.2.2⟩
  by_cases e : b = j
  · subst e; exact ⟨c, h1, hc, pk_us⟩
  · rw [pk_un e]; exact R.2.1 b hb
theorem rl_jo (R : rl_G co bo E) {a j : Nat} (hj : j < 6) (hn : a ≠ j) : rl_G co bo (upd E a (E a ||| bq_i j)) := by
  refine ⟨fun b hb i hi => ?_, R.2⟩
  by_cases e : b = a
  · subst e
    rw [pk_us, b_or, Bool.or_eq_true] at hi
    rcases hi with hi | hi
    · exact R.1 b hb i hi
    · rw [bq_t (by omega), decide_eq_true_eq] at hi
      exact ⟨by omega, fun z => hn (by omega)⟩
  · rw [pk_un e] at hi; exact R.1 b hb i hi
theorem rl_cu (R : rl_G co bo E) {a j : Nat} : rl_G co bo (upd E a (E a &&& (bq_i j ^^^ (-1)))) := by
  refine ⟨fun b hb i hi => ?_, R.2⟩
  by_cases e : b = a
  · subst e
    rw [pk_us, bq_an, Bool.and_eq_true] at hi
    exact R.1 b hb i hi.1
  · rw [pk_un e] at hi; exact R.1 b hb i hi
end
theorem i_vc_cost {k : Nat} {u : SX} {v : SY} (I : i_Rel k u v) (hk : k + 3 ≤ 1536) (v1 : Int32) (v2 : Int32) : wpX_cost (fun r u' => wpY_cost (fun r' v' => r' = r ∧ i_Rel (k + 3) u' v') v v1 v2) u v1 v2 := by
  obtain ⟨co, bo, E, ah, bl, pc, we, he, li, ov, wg, be, rfl, rfl, R⟩ := I
  unfold wpX_cost
  dsimp only
  unfold wpY_cost
  dsimp only
  rcases ix_6 v1 with hb | ⟨j, hj, rfl⟩
  · exact xb_n hb (br_t rfl (yb_n hb (br_t rfl ⟨rfl, rl_ R⟩)))
  · refine xb_y hj (br_f no_1 (br_c (fun c => yb_y hj (br_f no_1 (br_t c ⟨rfl, rl_ R⟩))) (fun c => br_c (fun d => ⟨in_6 hj, fun y ey => ?_⟩) (fun d => yb_y hj (br_f no_1 (br_f c (br_f d ⟨rfl, rl_ R⟩)))))))
    obtain ⟨q, hq, rfl⟩ := nI_of2 (M := 50) (n := 50) (by decide) c d
    refine yb_y hj (br_f no_1 (br_f c (br_t d ⟨in_6 hj, fun y2 ey2 => ⟨rfl, ?_⟩⟩)))
    subst ey; subst ey2
    exact rl_ (rl_co R hq)
theorem i_vc_bound {k : Nat} {u : SX} {v : SY} (I : i_Rel k u v) (hk : k + 3 ≤ 1536) (v1 : Int32) (v2 : Int32) : wpX_bound (fun r u' => wpY_bound (fun r' v' => r' = r ∧ i_Rel (k + 3) u' v') v v1 v2) u v1 v2 := by
  obtain ⟨co, bo, E, ah, bl, pc, we, he, li, ov, wg, be, rfl, rfl, R⟩ := I
  unfold wpX_bound
  dsimp only
  unfold wpY_bound
  dsimp only
  rcases ix_6 v1 with hb | ⟨j, hj, rfl⟩
  · exact xb_n hb (br_t rfl (yb_n hb (br_t rfl ⟨rfl, rl_ R⟩)))
  · refine xb_y hj (br_f no_1 (br_c (fun c => yb_y hj (br_f no_1 (br_t c ⟨rfl, rl_ R⟩))) (fun c => br_c (fun d => ⟨in_6 hj, fun y ey => ?_⟩) (fun d => yb_y hj (br_f no_1 (br_f c (br_f d ⟨rfl, rl_ R⟩)))))))
    have c0 : ¬ v2 < 0 := by
      intro z
      apply c
      rw [Int32.lt_iff_toInt_lt] at z ⊢
      have h0 : (0 : Int32).toInt = 0 := by decide
      have h1 : (1 : Int32).toInt = 1 := by decide
      omega
    obtain ⟨q, hq, rfl⟩ := nI_of2 (M := 3) (n := 3) (by decide) c0 d
    have h1 : 1 ≤ q := by
      rcases Nat.eq_zero_or_pos q with z | z
      · subst z; exact absurd (by decide) c
      · exact z
    refine yb_y hj (br_f no_1 (br_f c (br_t d ⟨in_6 hj, fun y2 ey2 => ⟨rfl, ?_⟩⟩)))
    subst ey; subst ey2
    exact rl_ (rl_bo R h1 hq)
theorem i_vc_join {k : Nat} {u : SX} {v : SY} (I : i_Rel k u v) (hk : k + 3 ≤ 1536) (v1 : Int32) (v2 : Int32) : wpX_join (fun r u' => wpY_join (fun r' v' => r' = r ∧ i_Rel (k + 3) u' v') v v1 v2) u v1 v2 := by
  obtain ⟨co, bo, E, ah, bl, pc, we, he, li, ov, wg, be, rfl, rfl, R⟩ := I
  unfold wpX_join
  dsimp only
  unfold wpY_join
  dsimp only
  rcases ix_6 v1 with hb | ⟨j, hj, rfl⟩
  · exact xb_n hb (br_t rfl (yb_n hb (br_t rfl ⟨rfl, rl_ R⟩)))
  · rcases ix_6 v2 with hb | ⟨i, hi, rfl⟩
    · exact xb_y hj (br_f no_1 (xb_n hb (br_t rfl (yb_y hj (br_f no_1 (yb_n hb (br_t rfl ⟨rfl, rl_ R⟩)))))))
    · refine xb_y hj (br_f no_1 (xb_y hi (br_f no_1 (br_c (fun c => yb_y hj (br_f no_1 (yb_y hi (br_f no_1 (br_t c ⟨rfl, rl_ R⟩))))) (fun c => ⟨in_6 hj, in_6 hj, fun y ey => ?_⟩)))))
      refine yb_y hj (br_f no_1 (yb_y hi (br_f no_1 (br_f c ⟨in_6 hj, in_6 hj, fun y2 ey2 => ⟨rfl, ?_⟩⟩))))
      subst ey; subst ey2
      rw [cl_n (by omega)]
      exact rl_ (rl_jo R hi (fun z => c (by rw [z])))
theorem i_vc_cut {k : Nat} {u : SX} {v : SY} (I : i_Rel k u v) (hk : k + 3 ≤ 1536) (v1 : Int32) (v2 : Int32) : wpX_cut (fun r u' => wpY_cut (fun r' v' => r' = r ∧ i_Rel (k + 3) u' v') v v1 v2) u v1 v2 := by
  obtain ⟨co, bo, E, ah, bl, pc, we, he, li, ov, wg, be, rfl, rfl, R⟩ := I
  unfold wpX_cut
  dsimp only
  unfold wpY_cut
  dsimp only
  rcases ix_6 v1 with hb | ⟨j, hj, rfl⟩
  · exact xb_n hb (br_t rfl (yb_n hb (br_t rfl ⟨rfl, rl_ R⟩)))
  · rcases ix_6 v2 with hb | ⟨i, hi, rfl⟩
    · exact xb_y hj (br_f no_1 (xb_n hb (br_t rfl (yb_y hj (br_f no_1 (yb_n hb (br_t rfl ⟨rfl, rl_ R⟩)))))))
    · refine xb_y hj (br_f no_1 (xb_y hi (br_f no_1 ⟨in_6 hj, ?_⟩)))
      rw [cl_n (by omega)]
      refine xh_ _ hi (fun c => br_f no_1 ⟨in_6 hj, in_6 hj, fun y ey => ?_⟩) (fun c => br_t rfl ?_)
      · refine yb_y hj (br_f no_1 (yb_y hi (br_f no_1 ⟨in_6 hj, tz_ _ hi (fun d => ?_) (fun d => ⟨in_6 hj, in_6 hj, fun y2 ey2 => ⟨rfl, ?_⟩⟩)⟩)))
        · rw [c] at d; exact absurd d (by decide)
        · subst ey; subst ey2
          exact rl_ (rl_cu R)
      · refine yb_y hj (br_f no_1 (yb_y hi (br_f no_1 ⟨in_6 hj, tz_ _ hi (fun d => ⟨rfl, rl_ R⟩) (fun d => ?_)⟩)))
        rw [c] at d; exact absurd d (by decide)
theorem i_vc_live {k : Nat} {u : SX} {v : SY} (I : i_Rel k u v) (hk : k + 3 ≤ 1536) : wpX_live (fun r => wpY_live (fun r' => r' = r ∧ i_Rel (k + 3) u v) v) u := by
  obtain ⟨co, bo, E, ah, bl, pc, we, he, li, ov, wg, be, rfl, rfl, R⟩ := I
  exact xl_ (yl_ ⟨rfl, rl_ R⟩)
theorem i_vc_dominators {k : Nat} {u : SX} {v : SY} (I : i_Rel k u v) (hk : k + 3 ≤ 1536) (v1 : Int32) : wpX_dominators (fun r => wpY_dominators (fun r' => r' = r ∧ i_Rel (k + 3) u v) v v1) u v1 := by
  obtain ⟨co, bo, E, ah, bl, pc, we, he, li, ov, wg, be, rfl, rfl, R⟩ := I
  rcases ix_6 v1 with hb | ⟨j, hj, rfl⟩
  · exact xd_n hb (yd_n hb ⟨rfl, rl_ R⟩)
  · exact xd_ hj (yd_ R.1 hj ⟨rfl, rl_ R⟩)
theorem i_vc_loop {k : Nat} {u : SX} {v : SY} (I : i_Rel k u v) (hk : k + 3 ≤ 1536) (v1 : Int32) : wpX_loop (fun r => wpY_loop (fun r' v' => r' = r ∧ i_Rel (k + 3) u v') v v1) u v1 := by
  obtain ⟨co, bo, E, ah, bl, pc, we, he, li, ov, wg, be, rfl, rfl, R⟩ := I
  rcases ix_6 v1 with hb | ⟨j, hj, rfl⟩
  · exact xp_n hb (yp_n R.1 hb fun ov' => ⟨rfl, rl_ R⟩)
  · exact xp_ hj (yp_ R.1 hj fun ov' => ⟨rfl, rl_ R⟩)
theorem i_vc_regular {k : Nat} {u : SX} {v : SY} (I : i_Rel k u v) (hk : k + 3 ≤ 1536) : wpX_regular (fun r u' => wpY_regular (fun r' v' => r' = r ∧ i_Rel (k + 3) u' v') v) u := by
  obtain ⟨co, bo, E, ah, bl, pc, we, he, li, ov, wg, be, rfl, rfl, R⟩ := I
  unfold wpX_regular
  dsimp only
  refine xo_ R.1 (fun ah' bl' pc' O hR => ⟨rfl, yg_ R.1 (fun ov' hO _ => ⟨rfl, rl_ R⟩) (fun ov' z => ?_)⟩) (fun ah' bl' pc' hR => ⟨rfl, yg_ R.1 (fun ov' hO z => ?_) (fun ov' _ => ⟨rfl, rl_ R⟩)⟩)
  · rw [hR] at z; exact absurd z (by decide)
  · rw [hR] at z; exact absurd z (by decide)
end
section
theorem an_c {g : Bool} {P Q : Nat → Prop} {r : Int32} (hPQ : ∀ w, P w ↔ Q w) (h : an_s g P r) : an_s g Q r := by
  rcases h with ⟨e, h⟩ | ⟨m, hm, e, hP, h⟩
  · exact Or.inl ⟨e, fun w q => h w ((hPQ w).mpr q)⟩
  · exact Or.inr ⟨m, hm, e, (hPQ m).mp hP, fun w q => h w ((hPQ w).mpr q)⟩
theorem an_0 {g : Bool} {P : Nat → Prop} {r : Int32} (hP : ∀ w, ¬ P w) (h : an_s g P r) : r = -1 := by
  rcases h with ⟨e, _⟩ | ⟨m, _, _, q, _⟩
  · exact e
  · exact absurd q (hP m)
section
variable {co bo E ah bl pc we he li ov wg be : Nat → Int32} {wt : Nat → Nat}
abbrev ak_p (pc : Nat → Int32) : Nat → Nat := fun b => (pc b).toNatClampNeg
theorem ak_W (R : rl_G co bo E) (O : od_O E bl pc) (hwe : ∀ b, b < 6 → we b = nI (wt b)) (hwt : ∀ b, b < 6 → wt b ≤ 50) : xW_ E bo bl pc we (rl_b bo) wt (ak_p pc) := by
  have h := wk_of R.1 O
  have hb := rl_bb R.2.1
  exact ⟨R.1, h.1, h.2, hb.1, hb.2, hwe, hwt⟩
theorem ak_B (R : rl_G co bo E) (O : od_O E bl pc) (hwt : ∀ b, b < 6 → wt b ≤ 50) : fl_B (wk_Y E (rl_b bo)) wt 0 4374 :=
  dy_B R.1 (wk_of R.1 O).1 (rl_bb R.2.1).2 hwt
/-- the walks of both sides that end at block j -/
theorem ak_e (R : rl_G co bo E) (O : od_O E bl pc) {j : Nat} (hj : j < 6) (w : Nat) :
    (∃ n s, wk_XW E (rl_b bo) wt bl (ak_p pc) n s w ∧ bl (wk_z s) = nI j) ↔ ∃ n s, wk_YW E (rl_b bo) wt n s w ∧ s % 6 = j := by
  have O' := (wk_of R.1 O).1
  refine xy_P R.1 O' (rl_bb R.2.1).2 (fun s x J => ?_) w
  rw [(wk_jk R.1 O' J).1, nI_eq (by omega) (by omega)]
theorem ak_t (R : rl_G co bo E) (O : od_O E bl pc) (w : Nat) :
    (∃ n s, wk_XW E (rl_b bo) wt bl (ak_p pc) n s w ∧ True) ↔ ∃ n s, wk_YW E (rl_b bo) wt n s w ∧ True :=
  xy_P (QX := fun _ => True) (QY := fun _ => True) R.1 (wk_of R.1 O).1 (rl_bb R.2.1).2 (fun s x J => Iff.rfl) w
theorem ak_n (R : rl_G co bo E) (O : od_O E bl pc) {p : Int32} (hp : p < 0 ∨ nI 6 ≤ p) (w : Nat) :
    ¬ ∃ n s, wk_XW E (rl_b bo) wt bl (ak_p pc) n s w ∧ bl (wk_z s) = p := by
  rintro ⟨n, x, h, e⟩
  have O' := (wk_of R.1 O).1
  obtain ⟨s, _, J⟩ := wk_XY R.1 O' (rl_bb R.2.1).2 n x w h
  rw [(wk_jk R.1 O' J).1] at e
  rw [← e] at hp
  rcases hp with z | z
  · exact nI_pos (by omega) z
  · exact nI_ge (a := s % 6) (b := 6) (by omega) (by decide) z
theorem ak_Q2 {j : Nat} (hj : j < 6) : ∀ s, s < 4374 → (nI (s % 6) = nI j ↔ s % 6 = j) := fun s _ => nI_eq (by omega) (by omega)
end
theorem i_vc_worst {k : Nat} {u : SX} {v : SY} (I : i_Rel k u v) (hk : k + 3 ≤ 1536) (v1 : Int32) : wpX_worst (fun r u' => wpY_worst (fun r' v' => r' = r ∧ i_Rel (k + 3) u' v') v v1) u v1 := by
  obtain ⟨co, bo, E, ah, bl, pc, we, he, li, ov, wg, be, rfl, rfl, R⟩ := I
  have hb := rl_bb R.2.1
  have hc := rl_bc R.2.2
  unfold wpX_worst
  dsimp only
  unfold wpY_worst
  dsimp only
  refine xo_ R.1 (fun ah' bl' pc' O hR => br_f no_1 (xc_ fun we' hw => ?_)) (fun ah' bl' pc' hR => br_t rfl ?_)
  · have W : xW_ E bo bl' pc' we' (rl_b bo) (rl_b co) (ak_p pc') := ak_W R O (fun b hb => (hw b hb).trans (hc.1 b hb)) hc.2
    refine xw_ W fun he' li' Ah Al => xe_ W Ah fun v hv => ?_
    rcases ix_6 v1 with hn | ⟨j, hj, rfl⟩
    · have e := an_0 (ak_n R O hn) hv
      subst e
      exact yb_n hn (br_t rfl ⟨rfl, rl_ R⟩)
    · exact yb_y hj (br_f no_1 (yA_f (g := true) (Q := fun s => s % 6 = j) R.1 hR hb.1 hb.2 hc.1 (ak_B R O hc.2) (fun z => absurd z (nI_pos (by omega))) (fun _ => ak_Q2 hj) fun v' ov' wg' be' hv' => ⟨(an_u (ak_e R O hj) hv hv').symm, rl_ R⟩))
  · rcases ix_6 v1 with hn | ⟨j, hj, rfl⟩
    · exact yb_n hn (br_t rfl ⟨rfl, rl_ R⟩)
    · exact yb_y hj (br_f no_1 (yA_t R.1 hR fun ov' => ⟨rfl, rl_ R⟩))
theorem i_vc_least {k : Nat} {u : SX} {v : SY} (I : i_Rel k u v) (hk : k + 3 ≤ 1536) (v1 : Int32) : wpX_least (fun r u' => wpY_least (fun r' v' => r' = r ∧ i_Rel (k + 3) u' v') v v1) u v1 := by
  obtain ⟨co, bo, E, ah, bl, pc, we, he, li, ov, wg, be, rfl, rfl, R⟩ := I
  have hb := rl_bb R.2.1
  have hc := rl_bc R.2.2
  unfold wpX_least
  dsimp only
  unfold wpY_least
  dsimp only
  refine xo_ R.1 (fun ah' bl' pc' O hR => br_f no_1 (xc_ fun we' hw => ?_)) (fun ah' bl' pc' hR => br_t rfl ?_)
  · have W : xW_ E bo bl' pc' we' (rl_b bo) (rl_b co) (ak_p pc') := ak_W R O (fun b hb => (hw b hb).trans (hc.1 b hb)) hc.2
    refine xw_ W fun he' li' Ah Al => xq_ W Al fun v hv => ?_
    rcases ix_6 v1 with hn | ⟨j, hj, rfl⟩
    · have e := an_0 (ak_n R O hn) hv
      subst e
      exact yb_n hn (br_t rfl ⟨rfl, rl_ R⟩)
    · exact yb_y hj (br_f no_1 (yA_f (g := false) (Q := fun s => s % 6 = j) R.1 hR hb.1 hb.2 hc.1 (ak_B R O hc.2) (fun z => absurd z (nI_pos (by omega))) (fun _ => ak_Q2 hj) fun v' ov' wg' be' hv' => ⟨(an_u (ak_e R O hj) hv hv').symm, rl_ R⟩))
  · rcases ix_6 v1 with hn | ⟨j, hj, rfl⟩
    · exact yb_n hn (br_t rfl ⟨rfl, rl_ R⟩)
    · exact yb_y hj (br_f no_1 (yA_t R.1 hR fun ov' => ⟨rfl, rl_ R⟩))
theorem i_vc_worstOfAll {k : Nat} {u : SX} {v : SY} (I : i_Rel k u v) (hk : k + 3 ≤ 1536) : wpX_worstOfAll (fun r u' => wpY_worstOfAll (fun r' v' => r' = r ∧ i_Rel (k + 3) u' v') v) u := by
  obtain ⟨co, bo, E, ah, bl, pc, we, he, li, ov, wg, be, rfl, rfl, R⟩ := I
  have hb := rl_bb R.2.1
  have hc := rl_bc R.2.2
  unfold wpX_worstOfAll
  dsimp only
  unfold wpY_worstOfAll
  dsimp only
  refine xo_ R.1 (fun ah' bl' pc' O hR => br_f no_1 (xc_ fun we' hw => ?_)) (fun ah' bl' pc' hR => br_t rfl (yA_t R.1 hR fun ov' => ⟨rfl, rl_ R⟩))
  have W : xW_ E bo bl' pc' we' (rl_b bo) (rl_b co) (ak_p pc') := ak_W R O (fun b hb => (hw b hb).trans (hc.1 b hb)) hc.2
  refine xw_ W fun he' li' Ah Al => xm_ W Ah fun v hv => ?_
  exact yA_f (g := true) (Q := fun _ => True) R.1 hR hb.1 hb.2 hc.1 (ak_B R O hc.2) (fun _ _ => trivial) (fun z => absurd mm_n z) fun v' ov' wg' be' hv' => ⟨(an_u (ak_t R O) hv hv').symm, rl_ R⟩
/-! visits -/
def vs_w (j b : Nat) : Nat := if b = j then 1 else 0
theorem vs_50 (j b : Nat) : vs_w j b ≤ 50 := by
  unfold vs_w
  by_cases e : b = j
  · rw [if_pos e]; omega
  · rw [if_neg e]; omega
theorem vs_e {j b : Nat} {x : Int32} (h : x = if b = j then 1 else 0) : x = nI (vs_w j b) := by
  unfold vs_w
  by_cases e : b = j
  · rw [if_pos e] at h ⊢; exact h
  · rw [if_neg e] at h ⊢; exact h
theorem vs_y {pr mo E ov wg be : Nat → Int32} {post : Int32 → SY → Prop} {j : Nat} (hj : j < 6) (h : ∀ wg' : Nat → Int32, (∀ b, b < 6 → wg' b = nI (vs_w j b)) → wpY_follow (fun u => match u with | (p1, p2, p3, p4, p5, p6) => wpY_value (fun r => post r (p1, p2, p3, p4, p5, p6)) (p1, p2, p3, p4, p5, p6) (-1) 1) (pr, mo, E, ov, wg', be) 1) : ∃ n, wY_visits_32 post (nI j) n 0 pr mo E ov wg be := by
  refine loop_0 (fun n i s => wY_visits_32 post (nI j) n (nI i) pr mo E ov s be) (fun i s => ∀ b, b < i → s b = nI (vs_w j b)) 6 wg (fun a ha => absurd ha (by omega)) ?_ ?_
  · intro n s hs
    exact br_t le_6 (h s hs)
  · intro n i s hi hs k
    refine br_f (ge_6 hi) (pk_eq i j (fun c => ⟨in_6 hi, fun y ey z ez => ?_⟩) (fun c => ⟨in_6 hi, fun y ey z ez => ?_⟩))
    · subst ez; subst ey
      rw [nI_1, cl_n (by omega)]
      refine k _ (fun a ha => ?_)
      by_cases e : a = i
      · subst e; exact vs_e (by rw [pk_us, if_pos c])
      · rw [pk_un e]; exact hs a (by omega)
    · subst ez; subst ey
      rw [nI_1, cl_n (by omega)]
      refine k _ (fun a ha => ?_)
      by_cases e : a = i
      · subst e; exact vs_e (by rw [pk_us, if_neg c])
      · rw [pk_un e]; exact hs a (by omega)
theorem i_vc_visits {k : Nat} {u : SX} {v : SY} (I : i_Rel k u v) (hk : k + 3 ≤ 1536) (v1 : Int32) : wpX_visits (fun r u' => wpY_visits (fun r' v' => r' = r ∧ i_Rel (k + 3) u' v') v v1) u v1 := by
  obtain ⟨co, bo, E, ah, bl, pc, we, he, li, ov, wg, be, rfl, rfl, R⟩ := I
  have hb := rl_bb R.2.1
  unfold wpX_visits
  dsimp only
  unfold wpY_visits
  dsimp only
  unfold wpX_isLive
  dsimp only
  rcases ix_6 v1 with hn | ⟨j, hj, rfl⟩
  · exact xb_n hn (br_t rfl (br_t rfl (yb_n hn (br_t rfl ⟨rfl, rl_ R⟩))))
  · refine xb_y hj (br_f no_1 (xl_ (xh_ _ hj (fun c => ⟨rfl, br_f no_1 ?_⟩) (fun c => ⟨rfl, br_t rfl (yb_y hj (br_f no_1 (yl_ (tz_ _ hj (fun d => ⟨rfl, rl_ R⟩) (fun d => ?_)))))⟩))))
    · refine xo_ R.1 (fun ah' bl' pc' O hR => br_f no_1 (xi_ hj fun we' hw => ?_)) (fun ah' bl' pc' hR => br_t rfl ?_)
      · have W : xW_ E bo bl' pc' we' (rl_b bo) (vs_w j) (ak_p pc') := ak_W R O (fun b hb => vs_e (hw b hb)) (fun b _ => vs_50 j b)
        refine xw_ W fun he' li' Ah Al => xm_ W Ah fun v hv => ?_
        refine yb_y hj (br_f no_1 (yl_ (tz_ _ hj (fun d => ?_) (fun d => yg_ R.1 (fun ov' hO _ => br_f no_1 (vs_y hj fun wg' hg => ?_)) (fun ov' z => ?_)))))
        · rw [c] at d; exact absurd d (by decide)
        · have hB := ak_B (wt := vs_w j) R O (fun b _ => vs_50 j b)
          exact yf_ (g := true) (bd := rl_b bo) (wt := vs_w j) ⟨R.1, hO, hb.1, hb.2, hg, hB⟩ fun be' A => yv_ (Q := fun _ => True) hB A (fun _ _ => trivial) (fun z => absurd mm_n z) fun v' hv' => ⟨(an_u (ak_t R O) hv hv').symm, rl_ R⟩
        · rw [hR] at z; exact absurd z (by decide)
      · refine yb_y hj (br_f no_1 (yl_ (tz_ _ hj (fun d => ?_) (fun d => yg_ R.1 (fun ov' hO z => ?_) (fun ov' z => br_t rfl ⟨rfl, rl_ R⟩)))))
        · rw [c] at d; exact absurd d (by decide)
        · rw [hR] at z; exact absurd z (by decide)
    · rw [c] at d; exact absurd d (by decide)
end
section
def cf_w (wt : Nat → Nat) (j c b : Nat) : Nat := if b = j then c else wt b
noncomputable def cf_f (E : Nat → Int32) (bd wt : Nat → Nat) (j c : Nat) : Int32 := Classical.epsilon (fun v => an_s true (fun w => ∃ n s, wk_YW E bd (cf_w wt j c) n s w ∧ True) v)
noncomputable def cf_R (E : Nat → Int32) (bd wt : Nat → Nat) (j : Nat) (q : Int32) : Nat → Int32
  | 0 => -1
  | c + 1 => if q < cf_f E bd wt j c then cf_R E bd wt j q c else nI c
def cf_x : Nat → Int32
  | 0 => -1
  | c + 1 => nI c
theorem cf_x1 (c : Nat) : nI c + (-1) = cf_x c := by
  cases c with
  | zero => decide
  | succ c => exact pk_m1 c
theorem cf_u {E : Nat → Int32} {bd wt : Nat → Nat} {j c : Nat} {v : Int32} (h : an_s true (fun w => ∃ n s, wk_YW E bd (cf_w wt j c) n s w ∧ True) v) : v = cf_f E bd wt j c :=
  an_u (fun _ => Iff.rfl) h (Classical.epsilon_spec (p := fun v => an_s true (fun w => ∃ n s, wk_YW E bd (cf_w wt j c) n s w ∧ True) v) ⟨v, h⟩)
theorem cf_50 {wt : Nat → Nat} {j c : Nat} (hc : c ≤ 50) (h : ∀ b, b < 6 → wt b ≤ 50) : ∀ b, b < 6 → cf_w wt j c b ≤ 50 := by
  intro b hb
  unfold cf_w
  by_cases e : b = j
  · rw [if_pos e]; exact hc
  · rw [if_neg e]; exact h b hb
theorem cf_e {a : Nat → Int32} {wt : Nat → Nat} {j c : Nat} (h : ∀ b, b < 6 → b ≠ j → a b = nI (wt b)) : ∀ b, b < 6 → upd a j (nI c) b = nI (cf_w wt j c b) := by
  intro b hb
  unfold cf_w
  by_cases e : b = j
  · rw [if_pos e, e]; exact pk_us
  · rw [if_neg e, pk_un e]; exact h b hb e
theorem cf_uu (a : Nat → Int32) (j : Nat) (x y : Int32) : upd (upd a j x) j y = upd a j y := by
  funext b
  by_cases e : b = j
  · rw [e, pk_us, pk_us]
  · rw [pk_un e, pk_un e, pk_un e]
theorem cf_us (a : Nat → Int32) (j : Nat) : upd a j (a j) = a := by
  funext b
  by_cases e : b = j
  · rw [e, pk_us]
  · rw [pk_un e]
section
variable {co bo E ah bl pc : Nat → Int32} {wt : Nat → Nat}
theorem cx_ {post : Int32 → SX → Prop} (R : rl_G co bo E) (O : od_O E bl pc) {j : Nat} (hj : j < 6) {q : Int32} (hwt : ∀ b, b < 6 → wt b ≤ 50) :
    ∀ c, c ≤ 51 → ∀ we he li : Nat → Int32, (∀ b, b < 6 → b ≠ j → we b = nI (wt b)) → (∀ we' he' li' : Nat → Int32, post (cf_R E (rl_b bo) wt j q c) (co, bo, E, ah, bl, pc, we', he', li')) → wX_costFor_23 post (nI j) q (c + 1) (cf_x c) co bo E ah bl pc we he li := by
  intro c
  induction c with
  | zero => intro _ we he li _ h; exact br_t mm_n (h we he li)
  | succ c ih =>
    intro hc we he li hw h
    refine br_f (nI_pos (n := c) (by omega)) ⟨in_6 hj, fun y ey => ?_⟩
    rw [cl_n (by omega)] at ey
    subst ey
    have W : xW_ E bo bl pc (upd we j (nI c)) (rl_b bo) (cf_w wt j c) (ak_p pc) := ak_W R O (cf_e hw) (cf_50 (by omega) hwt)
    refine xw_ W fun he' li' Ah Al => xm_ W Ah fun v hv => ?_
    have ev : v = cf_f E (rl_b bo) wt j c := cf_u (an_c (ak_t R O) hv)
    subst ev
    refine br_c (fun d z ez => ?_) (fun d => ?_)
    · have ez : z = nI c + (-1) := ez
      rw [cf_x1] at ez
      subst ez
      have e : cf_R E (rl_b bo) wt j q (c + 1) = cf_R E (rl_b bo) wt j q c := if_pos d
      rw [e] at h
      exact ih (by omega) _ _ _ (fun b hb hn => by rw [pk_un hn]; exact hw b hb hn) h
    · have e : cf_R E (rl_b bo) wt j q (c + 1) = nI c := if_neg d
      rw [e] at h
      exact h _ _ _
theorem cy_ {post : Int32 → SY → Prop} (R : rl_G co bo E) (hR : rg_R E 6 = false) (O : od_O E bl pc) {j : Nat} (hj : j < 6) {q : Int32} :
    ∀ c, c ≤ 51 → ∀ pr ov wg be : Nat → Int32, upd pr j (co j) = co → (∀ ov' wg' be' : Nat → Int32, post (cf_R E (rl_b bo) (rl_b co) j q c) (co, bo, E, ov', wg', be')) → wY_costFor_31 post (nI j) q (co j) (c + 2) (-1) (cf_x c) pr bo E ov wg be := by
  have hb := rl_bb R.2.1
  have hc0 := rl_bc R.2.2
  intro c
  induction c with
  | zero =>
    intro _ pr ov wg be hp h
    refine br_t mm_n ⟨in_6 hj, fun y ey => ?_⟩
    rw [cl_n (by omega), hp] at ey
    subst ey
    exact h ov wg be
  | succ c ih =>
    intro hc pr ov wg be hp h
    refine br_f (nI_pos (n := c) (by omega)) (br_f (by decide) ⟨in_6 hj, fun y ey => ?_⟩)
    rw [cl_n (by omega)] at ey
    have ey : y = upd pr j (nI c) := ey
    subst ey
    have hp2 : ∀ b, b < 6 → b ≠ j → pr b = nI (rl_b co b) := by
      intro b hb hn
      have := congrFun hp b
      rw [pk_un hn] at this
      rw [this]; exact hc0.1 b hb
    unfold wpY_worstOfAll
    dsimp only
    refine yA_f (g := true) (Q := fun _ => True) (wt := cf_w (rl_b co) j c) R.1 hR hb.1 hb.2 (cf_e hp2) (ak_B R O (cf_50 (by omega) hc0.2)) (fun _ _ => trivial) (fun z => absurd mm_n z) fun v ov' wg' be' hv => ?_
    have ev : v = cf_f E (rl_b bo) (rl_b co) j c := cf_u hv
    subst ev
    refine br_c (fun d z ez => ?_) (fun d z ez => ?_)
    · have ez : z = nI c + (-1) := ez
      rw [cf_x1] at ez
      subst ez
      have e : cf_R E (rl_b bo) (rl_b co) j q (c + 1) = cf_R E (rl_b bo) (rl_b co) j q c := if_pos d
      rw [e] at h
      exact ih (by omega) _ _ _ _ (by rw [cf_uu]; exact hp) h
    · have ez : z = nI c + (-1) := ez
      rw [cf_x1] at ez
      subst ez
      have e : cf_R E (rl_b bo) (rl_b co) j q (c + 1) = nI c := if_neg d
      rw [e] at h
      have fin : vp_in (nI j) 6 ∧ ∀ y : Nat → Int32, y = upd (upd pr j (nI c)) (nI j).toNatClampNeg (co j) → post (nI c) (y, bo, E, ov', wg', be') := by
        refine ⟨in_6 hj, fun y ey => ?_⟩
        rw [cl_n (by omega), cf_uu, hp] at ey
        subst ey
        exact h ov' wg' be'
      exact br_c (fun _ => fin) (fun _ => br_t (nI_pos' (by omega)) fin)
end
theorem i_vc_costFor {k : Nat} {u : SX} {v : SY} (I : i_Rel k u v) (hk : k + 3 ≤ 1536) (v1 : Int32) (v2 : Int32) : wpX_costFor (fun r u' => wpY_costFor (fun r' v' => r' = r ∧ i_Rel (k + 3) u' v') v v1 v2) u v1 v2 := by
  obtain ⟨co, bo, E, ah, bl, pc, we, he, li, ov, wg, be, rfl, rfl, R⟩ := I
  have hc := rl_bc R.2.2
  unfold wpX_costFor
  dsimp only
  unfold wpY_costFor
  dsimp only
  rcases ix_6 v1 with hn | ⟨j, hj, rfl⟩
  · exact xb_n hn (br_t rfl (yb_n hn (br_t rfl ⟨rfl, rl_ R⟩)))
  · refine xb_y hj (br_f no_1 (xo_ R.1 (fun ah' bl' pc' O hR => br_f no_1 (xc_ fun we' hw => ⟨52, cx_ (wt := rl_b co) R O hj hc.2 51 (by omega) _ _ _ (fun b hb _ => (hw b hb).trans (hc.1 b hb)) fun we2 he2 li2 => ?_⟩)) (fun ah' bl' pc' hR => br_t rfl ?_)))
    · refine yb_y hj (br_f no_1 (yg_ R.1 (fun ov' hO _ => br_f no_1 ⟨in_6 hj, fun x ex => ?_⟩) (fun ov' z => ?_)))
      · rw [cl_n (by omega)] at ex
        subst ex
        exact ⟨53, cy_ R hR O hj 51 (by omega) _ _ _ _ (cf_us co j) fun ov2 wg2 be2 => ⟨rfl, rl_ R⟩⟩
      · rw [hR] at z; exact absurd z (by decide)
    · refine yb_y hj (br_f no_1 (yg_ R.1 (fun ov' hO z => ?_) (fun ov' _ => br_t rfl ⟨rfl, rl_ R⟩)))
      rw [hR] at z; exact absurd z (by decide)
end
