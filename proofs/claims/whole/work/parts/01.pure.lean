/-! rows of kit/rows/PURE-ROWS, pasted -/
theorem pk_us {f : Nat → Int32} {k : Nat} {x : Int32} : upd f k x k = x := if_pos rfl
theorem pk_un {f : Nat → Int32} {k j : Nat} {x : Int32} (h : j ≠ k) : upd f k x j = f j := if_neg h
theorem pk_sub {a b : Nat} (h : b ≤ a) : nI a - nI b = nI (a - b) := by
  obtain ⟨c, rfl⟩ : ∃ c, a = c + b := ⟨a - b, by omega⟩
  rw [← nI_add, Int32.add_sub_cancel, Nat.add_sub_cancel]
theorem pk_m1 (n : Nat) : nI (n + 1) + (-1) = nI n := by
  rw [← nI_1, Int32.add_assoc, show (1 : Int32) + (-1) = 0 from rfl, Int32.add_zero]
theorem pk_mul (a b : Nat) : nI a * nI b = nI (a * b) := (Int32.ofNat_mul a b).symm
theorem pk_div {a d : Nat} (ha : a < 2 ^ 31) (h0 : 0 < d) (hd : d < 2 ^ 31) : nI a / nI d = nI (a / d) := by
  apply Int32.toInt_inj.mp
  rw [lg_idiv_nonneg (by rw [nI_toInt ha]; omega) (by rw [nI_toInt hd]; omega), nI_toInt ha, nI_toInt hd, nI_toInt (Nat.lt_of_le_of_lt (Nat.div_le_self a d) ha)]
  first | rfl | exact (Int.natCast_ediv _ _).symm
theorem pk_rem {a d : Nat} (ha : a < 2 ^ 31) (h0 : 0 < d) (hd : d < 2 ^ 31) : nI a - nI a / nI d * nI d = nI (a % d) := by
  rw [pk_div ha h0 hd, pk_mul, pk_sub (Nat.div_mul_le_self a d)]
  exact congrArg nI (by have := Nat.div_add_mod' a d; omega)
theorem pk_ix (x : Int32) {n : Nat} (hn : n < 2 ^ 31) : x < 0 ∨ nI n ≤ x ∨ ∃ j : Nat, j < n ∧ x = nI j := by
  by_cases h : x < 0
  · exact Or.inl h
  · obtain ⟨j, hj, rfl⟩ := nI_of h
    by_cases h2 : j < n
    · exact Or.inr (Or.inr ⟨j, h2, rfl⟩)
    · exact Or.inr (Or.inl (nI_le (by omega) hj))
theorem pk_le {x y : Int32} {A B : Prop} (a b : Nat) (f : a ≤ b → A) (g : b < a → B) (hx : x = nI a := by rfl) (hy : y = nI b := by rfl) (ha : a < 2 ^ 31 := by omega) (hb : b < 2 ^ 31 := by omega) : (x ≤ y → A) ∧ (¬ x ≤ y → B) := by
  subst hx hy
  rw [nI_leI ha hb]
  exact ⟨f, fun z => g (by omega)⟩
theorem pk_lt {x y : Int32} {A B : Prop} (a b : Nat) (f : a < b → A) (g : b ≤ a → B) (hx : x = nI a := by rfl) (hy : y = nI b := by rfl) (ha : a < 2 ^ 31 := by omega) (hb : b < 2 ^ 31 := by omega) : (x < y → A) ∧ (¬ x < y → B) := by
  subst hx hy
  rw [nI_ltI ha hb]
  exact ⟨f, fun z => g (by omega)⟩
theorem pk_eq {x y : Int32} {A B : Prop} (a b : Nat) (f : a = b → A) (g : a ≠ b → B) (hx : x = nI a := by rfl) (hy : y = nI b := by rfl) (ha : a < 2 ^ 31 := by omega) (hb : b < 2 ^ 31 := by omega) : (x = y → A) ∧ (¬ x = y → B) := by
  subst hx hy
  rw [nI_eq ha hb]
  exact ⟨f, g⟩
theorem pk_in {x : Int32} (n N : Nat) (h : n < N) (hx : x = nI n := by rfl) (hN : N < 2 ^ 31 := by omega) : vp_in x N := by
  subst hx
  exact vp_in_nI h hN
theorem pk_cl {x : Int32} (n : Nat) (hx : x = nI n := by rfl) (h : n < 2 ^ 31 := by omega) : x.toNatClampNeg = n := by
  subst hx
  exact nI_clamp h
theorem pk_loop {σ : Type} (W : Nat → Nat → σ → Prop) (I : Nat → σ → Prop) (e i0 : Nat) (s : σ) (hi : i0 ≤ e) (h0 : I i0 s) (hx : ∀ n s, I e s → W (n + 1) e s)
    (hs : ∀ n i s, i < e → I i s → (∀ s', I (i + 1) s' → W n (i + 1) s') → W (n + 1) i s) : ∃ n, W n i0 s :=
  ⟨e + 1, loop_i W I e hx hs (e + 1) i0 s hi (by omega) h0⟩
/-! the sum of the amounts of an account's entries below n, up to a day, that aren't cancelled -/
def bb_w (ac dy am off : Nat → Int32) (a d : Int32) : Nat → Int32
  | 0 => 0
  | n + 1 => if ac n = a ∧ dy n ≤ d ∧ off n = 0 then bb_w ac dy am off a d n + am n else bb_w ac dy am off a d n
theorem bb_w_in {ac dy am off : Nat → Int32} {a d : Int32} {n : Nat} (h1 : ac n = a) (h2 : dy n ≤ d) (h3 : off n = 0) : bb_w ac dy am off a d (n + 1) = bb_w ac dy am off a d n + am n := by
  rw [bb_w, if_pos ⟨h1, h2, h3⟩]
theorem bb_w_out {ac dy am off : Nat → Int32} {a d : Int32} {n : Nat} (h : ¬ (ac n = a ∧ dy n ≤ d ∧ off n = 0)) : bb_w ac dy am off a d (n + 1) = bb_w ac dy am off a d n := by
  rw [bb_w, if_neg h]
theorem bb_w_off {ac dy am off off' : Nat → Int32} {a d : Int32} : ∀ n : Nat, (∀ j, j < n → off j = off' j) → bb_w ac dy am off a d n = bb_w ac dy am off' a d n := by
  intro n
  induction n with
  | zero => intro _; rfl
  | succ n ih =>
    intro h
    rw [bb_w, bb_w, ih (fun j hj => h j (by omega)), h n (by omega)]
/-- within -10000 .. 10000 -/
def bb_B (x : Int32) : Prop := -10000 ≤ x.toInt ∧ x.toInt ≤ 10000
theorem bb_w_bd {ac dy am off : Nat → Int32} {a d : Int32} (hb : ∀ j, bb_B (am j)) : ∀ n : Nat, n ≤ 60 → -(10000 * (n : Int)) ≤ (bb_w ac dy am off a d n).toInt ∧ (bb_w ac dy am off a d n).toInt ≤ 10000 * (n : Int) := by
  intro n
  induction n with
  | zero =>
    intro _
    have e : (bb_w ac dy am off a d 0).toInt = 0 := by rw [bb_w]; decide
    rw [e]
    decide
  | succ n ih =>
    intro hn
    have h := ih (by omega)
    have hm := hb n
    unfold bb_B at hm
    by_cases c : ac n = a ∧ dy n ≤ d ∧ off n = 0
    · rw [bb_w_in c.1 c.2.1 c.2.2, Int32.toInt_add, Int.bmod_eq_of_le (by omega) (by omega)]
      omega
    · rw [bb_w_out c]
      omega
/-! the least of f i .. f (i + n) -/
def bb_m (f : Nat → Int32) (i : Nat) : Nat → Int32
  | 0 => f i
  | n + 1 => if f (i + (n + 1)) < bb_m f i n then f (i + (n + 1)) else bb_m f i n
theorem bb_m_t {f : Nat → Int32} {i n : Nat} (h : f (i + (n + 1)) < bb_m f i n) : bb_m f i (n + 1) = f (i + (n + 1)) := by
  rw [bb_m, if_pos h]
theorem bb_m_f {f : Nat → Int32} {i n : Nat} (h : ¬ f (i + (n + 1)) < bb_m f i n) : bb_m f i (n + 1) = bb_m f i n := by
  rw [bb_m, if_neg h]
theorem bb_m_lt {f : Nat → Int32} {i : Nat} {c : Int32} : ∀ n : Nat, bb_m f i n < c ↔ ∃ k, k ≤ n ∧ f (i + k) < c := by
  intro n
  induction n with
  | zero =>
    rw [bb_m]
    constructor
    · intro h; exact ⟨0, Nat.le_refl _, h⟩
    · intro ⟨k, hk, h⟩
      have e : k = 0 := by omega
      subst e
      exact h
  | succ n ih =>
    by_cases h : f (i + (n + 1)) < bb_m f i n
    · rw [bb_m_t h]
      constructor
      · intro h2; exact ⟨n + 1, Nat.le_refl _, h2⟩
      · intro ⟨k, hk, h2⟩
        by_cases e : k = n + 1
        · subst e; exact h2
        · have h3 := ih.mpr ⟨k, by omega, h2⟩
          exact Int32.lt_trans h h3
    · rw [bb_m_f h]
      constructor
      · intro h2
        obtain ⟨k, hk, h3⟩ := ih.mp h2
        exact ⟨k, by omega, h3⟩
      · intro ⟨k, hk, h2⟩
        by_cases e : k = n + 1
        · subst e
          rw [Int32.lt_iff_toInt_lt] at h h2 ⊢
          omega
        · exact ih.mpr ⟨k, by omega, h2⟩
theorem bb_sub {x c : Int32} (hx : -600000 ≤ x.toInt ∧ x.toInt ≤ 600000) (hc : bb_B c) : (x - c).toInt = x.toInt - c.toInt := by
  unfold bb_B at hc
  rw [Int32.toInt_sub]
  exact Int.bmod_eq_of_le (by omega) (by omega)
theorem bb_m_bd {f : Nat → Int32} {i : Nat} : ∀ n : Nat, (∀ k, k ≤ n → -600000 ≤ (f (i + k)).toInt ∧ (f (i + k)).toInt ≤ 600000) → -600000 ≤ (bb_m f i n).toInt ∧ (bb_m f i n).toInt ≤ 600000 := by
  intro n
  induction n with
  | zero => intro h; exact h 0 (Nat.le_refl _)
  | succ n ih =>
    intro h
    by_cases c : f (i + (n + 1)) < bb_m f i n
    · rw [bb_m_t c]; exact h (n + 1) (Nat.le_refl _)
    · rw [bb_m_f c]; exact ih (fun k hk => h k (by omega))
theorem bb_m_sub {f : Nat → Int32} {i : Nat} {c : Int32} (hc : bb_B c) : ∀ n : Nat, (∀ k, k ≤ n → -600000 ≤ (f (i + k)).toInt ∧ (f (i + k)).toInt ≤ 600000) → bb_m (fun d => f d - c) i n = bb_m f i n - c := by
  intro n
  induction n with
  | zero => intro _; rfl
  | succ n ih =>
    intro h
    have e := ih (fun k hk => h k (by omega))
    have hm := bb_m_bd n (fun k hk => h k (by omega))
    have hf := h (n + 1) (Nat.le_refl _)
    have q : (f (i + (n + 1)) - c < bb_m f i n - c) ↔ f (i + (n + 1)) < bb_m f i n := by
      rw [Int32.lt_iff_toInt_lt, Int32.lt_iff_toInt_lt, bb_sub hf hc, bb_sub hm hc]
      omega
    by_cases z : f (i + (n + 1)) < bb_m f i n
    · rw [bb_m_t z]
      exact bb_m_t (f := fun d => f d - c) (by rw [e]; exact q.mpr z)
    · rw [bb_m_f z, ← e]
      exact bb_m_f (f := fun d => f d - c) (by rw [e]; exact fun w => z (q.mp w))
