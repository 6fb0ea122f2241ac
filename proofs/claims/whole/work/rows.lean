section
/-! rows of kit/rows/PURE-ROWS, pasted -/
theorem pk_us {f : Nat → Int32} {k : Nat} {x : Int32} : upd f k x k = x := if_pos rfl
theorem pk_un {f : Nat → Int32} {k j : Nat} {x : Int32} (h : j ≠ k) : upd f k x j = f j := if_neg h
theorem pk_sub {a b : Nat} (h : b ≤ a) : nI a - nI b = nI (a - b) := by
  obtain ⟨c, rfl⟩ : ∃ c, a = c + b := ⟨a - b, by omega⟩
  rw [← nI_add, Int32.add_sub_cancel, Nat.add_sub_cancel]
theorem pk_m1 (n : Nat) : nI (n + 1) + (-1) = nI n := by
  rw [← nI_1, Int32.add_assoc, show (1 : Int32) + (-1) = 0 from rfl, Int32.add_zero]
theorem pk_mul (a b : Nat) : nI a * nI b = nI (a * b) := (Int32.ofNat_mul a b).symm
theorem pk_div {a d : Nat} (ha : a < 2 ^ 31) (h0 : 0 < d) (hd : d < 2 ^ 31) : nI a / nI d = nI (a / d) := by
  apply Int32.toInt_inj.mp
  rw [lg_idiv_nonneg (by rw [nI_toInt ha]; omega) (by rw [nI_toInt hd]; omega), nI_toInt ha, nI_toInt hd, nI_toInt (Nat.lt_of_le_of_lt (Nat.div_le_self a d) ha)]
  first | rfl | exact (Int.natCast_ediv _ _).symm
theorem pk_rem {a d : Nat} (ha : a < 2 ^ 31) (h0 : 0 < d) (hd : d < 2 ^ 31) : nI a - nI a / nI d * nI d = nI (a % d) := by
  rw [pk_div ha h0 hd, pk_mul, pk_sub (Nat.div_mul_le_self a d)]
  exact congrArg nI (by have := Nat.div_add_mod' a d; omega)
theorem pk_ix (x : Int32) {n : Nat} (hn : n < 2 ^ 31) : x < 0 ∨ nI n ≤ x ∨ ∃ j : Nat, j < n ∧ x = nI j := by
  by_cases h : x < 0
  · exact Or.inl h
  · obtain ⟨j, hj, rfl⟩ := nI_of h
    by_cases h2 : j < n
    · exact Or.inr (Or.inr ⟨j, h2, rfl⟩)
    · exact Or.inr (Or.inl (nI_le (by omega) hj))
theorem pk_le {x y : Int32} {A B : Prop} (a b : Nat) (f : a ≤ b → A) (g : b < a → B) (hx : x = nI a := by rfl) (hy : y = nI b := by rfl) (ha : a < 2 ^ 31 := by omega) (hb : b < 2 ^ 31 := by omega) : (x ≤ y → A) ∧ (¬ x ≤ y → B) := by
  subst hx hy
  rw [nI_leI ha hb]
  exact ⟨f, fun z => g (by omega)⟩
theorem pk_lt {x y : Int32} {A B : Prop} (a b : Nat) (f : a < b → A) (g : b ≤ a → B) (hx : x = nI a := by rfl) (hy : y = nI b := by rfl) (ha : a < 2 ^ 31 := by omega) (hb : b < 2 ^ 31 := by omega) : (x < y → A) ∧ (¬ x < y → B) := by
  subst hx hy
  rw [nI_ltI ha hb]
  exact ⟨f, fun z => g (by omega)⟩
theorem pk_eq {x y : Int32} {A B : Prop} (a b : Nat) (f : a = b → A) (g : a ≠ b → B) (hx : x = nI a := by rfl) (hy : y = nI b := by rfl) (ha : a < 2 ^ 31 := by omega) (hb : b < 2 ^ 31 := by omega) : (x = y → A) ∧ (¬ x = y → B) := by
  subst hx hy
  rw [nI_eq ha hb]
  exact ⟨f, g⟩
theorem pk_in {x : Int32} (n N : Nat) (h : n < N) (hx : x = nI n := by rfl) (hN : N < 2 ^ 31 := by omega) : vp_in x N := by
  subst hx
  exact vp_in_nI h hN
theorem pk_cl {x : Int32} (n : Nat) (hx : x = nI n := by rfl) (h : n < 2 ^ 31 := by omega) : x.toNatClampNeg = n := by
  subst hx
  exact nI_clamp h
theorem pk_loop {σ : Type} (W : Nat → Nat → σ → Prop) (I : Nat → σ → Prop) (e i0 : Nat) (s : σ) (hi : i0 ≤ e) (h0 : I i0 s) (hx : ∀ n s, I e s → W (n + 1) e s)
    (hs : ∀ n i s, i < e → I i s → (∀ s', I (i + 1) s' → W n (i + 1) s') → W (n + 1) i s) : ∃ n, W n i0 s :=
  ⟨e + 1, loop_i W I e hx hs (e + 1) i0 s hi (by omega) h0⟩
/-! the sum of the amounts of an account's entries below n, up to a day, that aren't cancelled -/
def bb_w (ac dy am off : Nat → Int32) (a d : Int32) : Nat → Int32
  | 0 => 0
  | n + 1 => if ac n = a ∧ dy n ≤ d ∧ off n = 0 then bb_w ac dy am off a d n + am n else bb_w ac dy am off a d n
theorem bb_w_in {ac dy am off : Nat → Int32} {a d : Int32} {n : Nat} (h1 : ac n = a) (h2 : dy n ≤ d) (h3 : off n = 0) : bb_w ac dy am off a d (n + 1) = bb_w ac dy am off a d n + am n := by
  rw [bb_w, if_pos ⟨h1, h2, h3⟩]
theorem bb_w_out {ac dy am off : Nat → Int32} {a d : Int32} {n : Nat} (h : ¬ (ac n = a ∧ dy n ≤ d ∧ off n = 0)) : bb_w ac dy am off a d (n + 1) = bb_w ac dy am off a d n := by
  rw [bb_w, if_neg h]
theorem bb_w_off {ac dy am off off' : Nat → Int32} {a d : Int32} : ∀ n : Nat, (∀ j, j < n → off j = off' j) → bb_w ac dy am off a d n = bb_w ac dy am off' a d n := by
  intro n
  induction n with
  | zero => intro _; rfl
  | succ n ih =>
    intro h
    rw [bb_w, bb_w, ih (fun j hj => h j (by omega)), h n (by omega)]
/-- within -10000 .. 10000 -/
def bb_B (x : Int32) : Prop := -10000 ≤ x.toInt ∧ x.toInt ≤ 10000
theorem bb_w_bd {ac dy am off : Nat → Int32} {a d : Int32} (hb : ∀ j, bb_B (am j)) : ∀ n : Nat, n ≤ 60 → -(10000 * (n : Int)) ≤ (bb_w ac dy am off a d n).toInt ∧ (bb_w ac dy am off a d n).toInt ≤ 10000 * (n : Int) := by
  intro n
  induction n with
  | zero =>
    intro _
    have e : (bb_w ac dy am off a d 0).toInt = 0 := by rw [bb_w]; decide
    rw [e]
    decide
  | succ n ih =>
    intro hn
    have h := ih (by omega)
    have hm := hb n
    unfold bb_B at hm
    by_cases c : ac n = a ∧ dy n ≤ d ∧ off n = 0
    · rw [bb_w_in c.1 c.2.1 c.2.2, Int32.toInt_add, Int.bmod_eq_of_le (by omega) (by omega)]
      omega
    · rw [bb_w_out c]
      omega
/-! the least of f i .. f (i + n) -/
def bb_m (f : Nat → Int32) (i : Nat) : Nat → Int32
  | 0 => f i
  | n + 1 => if f (i + (n + 1)) < bb_m f i n then f (i + (n + 1)) else bb_m f i n
theorem bb_m_t {f : Nat → Int32} {i n : Nat} (h : f (i + (n + 1)) < bb_m f i n) : bb_m f i (n + 1) = f (i + (n + 1)) := by
  rw [bb_m, if_pos h]
theorem bb_m_f {f : Nat → Int32} {i n : Nat} (h : ¬ f (i + (n + 1)) < bb_m f i n) : bb_m f i (n + 1) = bb_m f i n := by
  rw [bb_m, if_neg h]
theorem bb_m_lt {f : Nat → Int32} {i : Nat} {c : Int32} : ∀ n : Nat, bb_m f i n < c ↔ ∃ k, k ≤ n ∧ f (i + k) < c := by
  intro n
  induction n with
  | zero =>
    rw [bb_m]
    constructor
    · intro h; exact ⟨0, Nat.le_refl _, h⟩
    · intro ⟨k, hk, h⟩
      have e : k = 0 := by omega
      subst e
      exact h
  | succ n ih =>
    by_cases h : f (i + (n + 1)) < bb_m f i n
    · rw [bb_m_t h]
      constructor
      · intro h2; exact ⟨n + 1, Nat.le_refl _, h2⟩
      · intro ⟨k, hk, h2⟩
        by_cases e : k = n + 1
        · subst e; exact h2
        · have h3 := ih.mpr ⟨k, by omega, h2⟩
          exact Int32.lt_trans h h3
    · rw [bb_m_f h]
      constructor
      · intro h2
        obtain ⟨k, hk, h3⟩ := ih.mp h2
        exact ⟨k, by omega, h3⟩
      · intro ⟨k, hk, h2⟩
        by_cases e : k = n + 1
        · subst e
          rw [Int32.lt_iff_toInt_lt] at h h2 ⊢
          omega
        · exact ih.mpr ⟨k, by omega, h2⟩
theorem bb_sub {x c : Int32} (hx : -600000 ≤ x.toInt ∧ x.toInt ≤ 600000) (hc : bb_B c) : (x - c).toInt = x.toInt - c.toInt := by
  unfold bb_B at hc
  rw [Int32.toInt_sub]
  exact Int.bmod_eq_of_le (by omega) (by omega)
theorem bb_m_bd {f : Nat → Int32} {i : Nat} : ∀ n : Nat, (∀ k, k ≤ n → -600000 ≤ (f (i + k)).toInt ∧ (f (i + k)).toInt ≤ 600000) → -600000 ≤ (bb_m f i n).toInt ∧ (bb_m f i n).toInt ≤ 600000 := by
  intro n
  induction n with
  | zero => intro h; exact h 0 (Nat.le_refl _)
  | succ n ih =>
    intro h
    by_cases c : f (i + (n + 1)) < bb_m f i n
    · rw [bb_m_t c]; exact h (n + 1) (Nat.le_refl _)
    · rw [bb_m_f c]; exact ih (fun k hk => h k (by omega))
theorem bb_m_sub {f : Nat → Int32} {i : Nat} {c : Int32} (hc : bb_B c) : ∀ n : Nat, (∀ k, k ≤ n → -600000 ≤ (f (i + k)).toInt ∧ (f (i + k)).toInt ≤ 600000) → bb_m (fun d => f d - c) i n = bb_m f i n - c := by
  intro n
  induction n with
  | zero => intro _; rfl
  | succ n ih =>
    intro h
    have e := ih (fun k hk => h k (by omega))
    have hm := bb_m_bd n (fun k hk => h k (by omega))
    have hf := h (n + 1) (Nat.le_refl _)
    have q : (f (i + (n + 1)) - c < bb_m f i n - c) ↔ f (i + (n + 1)) < bb_m f i n := by
      rw [Int32.lt_iff_toInt_lt, Int32.lt_iff_toInt_lt, bb_sub hf hc, bb_sub hm hc]
      omega
    by_cases z : f (i + (n + 1)) < bb_m f i n
    · rw [bb_m_t z]
      exact bb_m_t (f := fun d => f d - c) (by rw [e]; exact q.mpr z)
    · rw [bb_m_f z, ← e]
      exact bb_m_f (f := fun d => f d - c) (by rw [e]; exact fun w => z (q.mp w))
end
section
/-! the component's private methods, each with a general post -/
theorem bb_n0 : vp_nar .boolean 0 = 0 := by decide
theorem bb_n1 : vp_nar .boolean 1 = 1 := by decide
theorem bb_nz {x : Int32} (h : x = 0 ∨ x = 1) : vp_nar .boolean x = x := by
  cases h with
  | inl h => rw [h, bb_n0]
  | inr h => rw [h, bb_n1]
theorem bb_nle {x : Int32} {n : Int32} (h : n < x) : ¬ x ≤ n := Int32.not_le.mpr h
def bb_Sa (ac dy am o fl : Nat → Int32) (c a : Nat) : Prop := ∀ d, d < 48 → ¬ bb_w ac dy am o (nI a) (nI d) c < fl a
def bb_Sd (ac dy am o fl : Nat → Int32) (c : Nat) : Prop := ∀ a, a < 4 → bb_Sa ac dy am o fl c a
def bb_fr (x : Int32) : Int32 := if 0 ≤ x then x else 0
section
variable {c : Nat} {b cb : Int32} {ac dy am ox mk fl : Nat → Int32}
theorem bx_ga0 {post : Int32 → Prop} {a : Int32} (h : a < 0 ∨ nI 4 ≤ a) (hp : post 0) : wpX_goodAccount post (nI c, b, cb, ac, dy, am, ox, mk, fl) a := by
  unfold wpX_goodAccount
  exact br_c (fun _ => hp) (fun h0 => br_t (h.resolve_left h0) hp)
theorem bx_ga1 {post : Int32 → Prop} {a : Nat} (h : a < 4) (hp : post 1) : wpX_goodAccount post (nI c, b, cb, ac, dy, am, ox, mk, fl) (nI a) := by
  unfold wpX_goodAccount
  exact br_f (nI_pos (by omega)) (br_f (nI_ge (b := 4) h (by omega)) hp)
theorem bx_gd0 {post : Int32 → Prop} {a : Int32} (h : a < 0 ∨ nI 48 ≤ a) (hp : post 0) : wpX_goodDay post (nI c, b, cb, ac, dy, am, ox, mk, fl) a := by
  unfold wpX_goodDay
  exact br_c (fun _ => hp) (fun h0 => br_t (h.resolve_left h0) hp)
theorem bx_gd1 {post : Int32 → Prop} {a : Nat} (h : a < 48) (hp : post 1) : wpX_goodDay post (nI c, b, cb, ac, dy, am, ox, mk, fl) (nI a) := by
  unfold wpX_goodDay
  exact br_f (nI_pos (by omega)) (br_f (nI_ge (b := 48) h (by omega)) hp)
theorem bx_ge0 {post : Int32 → Prop} {a : Int32} (h : a < 0 ∨ nI c ≤ a) (hp : post 0) : wpX_goodEntry post (nI c, b, cb, ac, dy, am, ox, mk, fl) a := by
  unfold wpX_goodEntry
  exact br_c (fun _ => hp) (fun h0 => br_t (h.resolve_left h0) hp)
theorem bx_ge1 {post : Int32 → Prop} {a : Nat} (hc : c ≤ 60) (h : a < c) (hp : post 1) : wpX_goodEntry post (nI c, b, cb, ac, dy, am, ox, mk, fl) (nI a) := by
  unfold wpX_goodEntry
  exact br_f (nI_pos (by omega)) (br_f (nI_ge h (by omega)) hp)
theorem bx_gs0 {post : Int32 → Prop} {i l : Int32} (h : i < 0 ∨ l < i ∨ nI 48 ≤ l) (hp : post 0) : wpX_goodSpan post (nI c, b, cb, ac, dy, am, ox, mk, fl) i l := by
  unfold wpX_goodSpan
  exact br_c (fun _ => hp) (fun h0 => br_c (fun _ => hp) (fun h1 => br_t ((h.resolve_left h0).resolve_left h1) hp))
theorem bx_gs1 {post : Int32 → Prop} {i n : Nat} (h : i + n < 48) (hp : post 1) : wpX_goodSpan post (nI c, b, cb, ac, dy, am, ox, mk, fl) (nI i) (nI (i + n)) := by
  unfold wpX_goodSpan
  exact br_f (nI_pos (by omega)) (br_f (nI_nlt (by omega) (by omega)) (br_f (nI_ge (b := 48) h (by omega)) hp))
theorem bx_app {post : SX → Prop} {p0 p1 p2 : Int32} (hc : c < 60) (hp : post (nI (c + 1), b, cb, upd ac c p0, upd dy c p1, upd am c p2, upd ox c 0, mk, fl)) : wpX_append post (nI c, b, cb, ac, dy, am, ox, mk, fl) p0 p1 p2 := by
  have hi : vp_in (nI c) 60 := vp_in_nI hc (by omega)
  have ec : (nI c).toNatClampNeg = c := nI_clamp (by omega)
  unfold wpX_append
  exact ⟨hi, nm_r (by rw [ec]) ⟨hi, nm_r (by rw [ec]) ⟨hi, nm_r (by rw [ec]) ⟨hi, nm_r (by rw [ec, bb_n0]) (nm_r (nI_1 c) hp)⟩⟩⟩⟩
theorem bx_bal5 (hc : c ≤ 60) {post : Int32 → Prop} {a d : Int32} (h : post (bb_w ac dy am ox a d c)) : ∀ e j : Nat, j + e = c → wX_balanceOn_5 post a d (nI c) b cb ac dy am ox mk fl (e + 1) (bb_w ac dy am ox a d j) (nI j) := by
  intro e
  induction e with
  | zero =>
    intro j hj
    have hj' : j = c := by omega
    subst hj'
    exact br_t (nI_le (Nat.le_refl _) (by omega)) h
  | succ e ih =>
    intro j hj
    have h1 : ¬ nI c ≤ nI j := nI_ge (by omega) (by omega)
    have hi : vp_in (nI j) 60 := vp_in_nI (by omega) (by omega)
    have ec : (nI j).toNatClampNeg = j := nI_clamp (by omega)
    have hn := ih (j + 1) (by omega)
    refine br_f h1 ⟨hi, ?_⟩
    by_cases z1 : ac j = a
    · refine br_t (by rw [ec]; exact z1) ⟨hi, ?_⟩
      by_cases z2 : d < dy j
      · refine br_t (by rw [ec]; exact z2) (nm_r (nI_1 j) ?_)
        rw [bb_w_out (fun z => bb_nle z2 z.2.1)] at hn
        exact hn
      · refine br_f (by rw [ec]; exact z2) ⟨hi, ?_⟩
        by_cases z3 : ox j = 0
        · exact br_t (by rw [ec]; exact z3) ⟨hi, nm_r (by rw [ec, bb_w_in z1 (Int32.not_lt.mp z2) z3]) (nm_r (nI_1 j) hn)⟩
        · refine br_f (by rw [ec]; exact z3) (nm_r (nI_1 j) ?_)
          rw [bb_w_out (fun z => z3 z.2.2)] at hn
          exact hn
    · refine br_f (by rw [ec]; exact z1) (nm_r (nI_1 j) ?_)
      rw [bb_w_out (fun z => z1 z.1)] at hn
      exact hn
theorem bx_bal (hc : c ≤ 60) {post : Int32 → Prop} {a d : Int32} (h : post (bb_w ac dy am ox a d c)) : wpX_balanceOn post (nI c, b, cb, ac, dy, am, ox, mk, fl) a d := by
  unfold wpX_balanceOn
  exact ⟨c + 1, bx_bal5 hc h c 0 (by omega)⟩
theorem bx_lb13 (hc : c ≤ 60) {post : Int32 → Prop} {a : Int32} {i n : Nat} (hin : i + n < 48) (h : post (bb_m (fun d => bb_w ac dy am ox a (nI d) c) i n)) : ∀ e k : Nat, k + e = n → wX_leastBalance_13 post a (nI (i + n)) (nI c) b cb ac dy am ox mk fl (e + 1) (bb_m (fun d => bb_w ac dy am ox a (nI d) c) i k) (nI (i + (k + 1))) := by
  intro e
  induction e with
  | zero =>
    intro k hk
    have hk' : k = n := by omega
    subst hk'
    exact br_t (nI_lt (by omega) (by omega)) h
  | succ e ih =>
    intro k hk
    have hn := ih (k + 1) (by omega)
    refine br_f (nI_nlt (by omega) (by omega)) (bx_bal hc ?_)
    by_cases z : bb_w ac dy am ox a (nI (i + (k + 1))) c < bb_m (fun d => bb_w ac dy am ox a (nI d) c) i k
    · rw [bb_m_t (f := fun d => bb_w ac dy am ox a (nI d) c) z] at hn
      exact br_f (bb_nle z) (nm_r (nI_1 _) hn)
    · rw [bb_m_f (f := fun d => bb_w ac dy am ox a (nI d) c) z] at hn
      exact br_t (Int32.not_lt.mp z) (nm_r (nI_1 _) hn)
theorem bx_lb (hc : c ≤ 60) {post : Int32 → Prop} {a l : Int32} {i n : Nat} (hin : i + n < 48) (hl : l = nI (i + n)) (h : post (bb_m (fun d => bb_w ac dy am ox a (nI d) c) i n)) : wpX_leastBalance post (nI c, b, cb, ac, dy, am, ox, mk, fl) a (nI i) l := by
  subst hl
  unfold wpX_leastBalance
  exact bx_bal hc (nm_r (nI_1 i) ⟨n + 1, bx_lb13 hc hin h n 0 (by omega)⟩)
theorem bx_snd2 (hc : c ≤ 60) {post : Int32 → Prop} (h1 : bb_Sd ac dy am ox fl c → post 1) (h0 : ¬ bb_Sd ac dy am ox fl c → post 0) : ∀ e j : Nat, j + e = 4 → (∀ a, a < j → bb_Sa ac dy am ox fl c a) → wX_bookIsSound_2 post (nI c) b cb ac dy am ox mk fl (e + 1) (nI j) := by
  intro e
  induction e with
  | zero =>
    intro j hj hs
    have hj' : j = 4 := by omega
    subst hj'
    exact br_t (nI_le (a := 4) (b := 4) (by omega) (by omega)) (h1 hs)
  | succ e ih =>
    intro j hj hs
    have ec : (nI j).toNatClampNeg = j := nI_clamp (by omega)
    refine br_f (nI_ge (b := 4) (by omega) (by omega)) (bx_lb (i := 0) (n := 47) hc (by omega) rfl ⟨vp_in_nI (by omega) (by omega), ?_⟩)
    by_cases z : bb_m (fun d => bb_w ac dy am ox (nI j) (nI d) c) 0 47 < fl j
    · refine br_f (by rw [ec]; exact bb_nle z) (h0 fun H => ?_)
      obtain ⟨k, hk, w⟩ := (bb_m_lt 47).mp z
      rw [Nat.zero_add] at w
      exact H j (by omega) k (by omega) w
    · refine br_t (by rw [ec]; exact Int32.not_lt.mp z) (nm_r (nI_1 j) (ih (j + 1) (by omega) (fun a ha => ?_)))
      by_cases e1 : a = j
      · subst e1
        intro d hd w
        exact z ((bb_m_lt 47).mpr ⟨d, by omega, by rw [Nat.zero_add]; exact w⟩)
      · exact hs a (by omega)
theorem bx_snd (hc : c ≤ 60) {post : Int32 → Prop} (h1 : bb_Sd ac dy am ox fl c → post 1) (h0 : ¬ bb_Sd ac dy am ox fl c → post 0) : wpX_bookIsSound post (nI c, b, cb, ac, dy, am, ox, mk, fl) := by
  unfold wpX_bookIsSound
  exact ⟨5, bx_snd2 hc h1 h0 4 0 (by omega) (fun a ha => absurd ha (Nat.not_lt_zero a))⟩
theorem bx_mr0 (hc : c ≤ 60) (hb : b = 0) {post : Int32 → Prop} (h1 : bb_Sd ac dy am ox fl c → post 0) (h0 : ¬ bb_Sd ac dy am ox fl c → post 1) : wpX_mustRefuse post (nI c, b, cb, ac, dy, am, ox, mk, fl) := by
  unfold wpX_mustRefuse
  exact br_t hb (bx_snd hc (fun s => br_f (by decide) (h1 s)) (fun s => br_t rfl (h0 s)))
theorem bx_mr1 (hb : ¬ b = 0) {post : Int32 → Prop} (h : post 0) : wpX_mustRefuse post (nI c, b, cb, ac, dy, am, ox, mk, fl) := by
  unfold wpX_mustRefuse
  exact br_f hb h
theorem bx_ff (hc : c ≤ 60) {post : Int32 → Prop} {a i n : Nat} (ha : a < 4) (hin : i + n = 47) (h : post (bb_fr (bb_m (fun d => bb_w ac dy am ox (nI a) (nI d) c) i n - fl a))) : wpX_freeFrom post (nI c, b, cb, ac, dy, am, ox, mk, fl) (nI a) (nI i) := by
  have ec : (nI a).toNatClampNeg = a := nI_clamp (by omega)
  unfold wpX_freeFrom
  refine bx_lb (n := n) hc (by omega) (by rw [hin]; rfl) ⟨vp_in_nI ha (by omega), nm_r (by rw [ec]) ?_⟩
  unfold bb_fr at h
  by_cases z : 0 ≤ bb_m (fun d => bb_w ac dy am ox (nI a) (nI d) c) i n - fl a
  · rw [if_pos z] at h
    exact br_t z h
  · rw [if_neg z] at h
    exact br_f z h
end
end
section
/-! the reference's private methods, told in the component's list of cancelled entries (ox), which agrees with oy below c -/
theorem bb_l4 {x : Int32} (h : nI 4 ≤ x) : ¬ x ≤ 3 := fun g => absurd (Int32.le_trans h g) (by decide)
theorem bb_l48 {x : Int32} (h : nI 48 ≤ x) : ¬ x ≤ 47 := fun g => absurd (Int32.le_trans h g) (by decide)
section
variable {c : Nat} {b cb : Int32} {ac dy am ox oy fl ob : Nat → Int32}
theorem by_ba0 {post : Int32 → Prop} {a : Int32} (h : a < 0 ∨ nI 4 ≤ a) (hp : post 1) : wpY_bad post (nI c, b, cb, ac, dy, am, oy, fl, ob) a := by
  unfold wpY_bad
  exact br_c (fun _ => hp) (fun h0 => br_f (bb_l4 (h.resolve_left h0)) hp)
theorem by_ba1 {post : Int32 → Prop} {a : Nat} (h : a < 4) (hp : post 0) : wpY_bad post (nI c, b, cb, ac, dy, am, oy, fl, ob) (nI a) := by
  unfold wpY_bad
  exact br_f (nI_pos (by omega)) (br_t (nI_le (b := 3) (by omega) (by omega)) hp)
theorem by_bd0 {post : Int32 → Prop} {a : Int32} (h : a < 0 ∨ nI 48 ≤ a) (hp : post 1) : wpY_badDay post (nI c, b, cb, ac, dy, am, oy, fl, ob) a := by
  unfold wpY_badDay
  exact br_c (fun _ => hp) (fun h0 => br_f (bb_l48 (h.resolve_left h0)) hp)
theorem by_bd1 {post : Int32 → Prop} {a : Nat} (h : a < 48) (hp : post 0) : wpY_badDay post (nI c, b, cb, ac, dy, am, oy, fl, ob) (nI a) := by
  unfold wpY_badDay
  exact br_f (nI_pos (by omega)) (br_t (nI_le (b := 47) (by omega) (by omega)) hp)
theorem by_be0 {post : Int32 → Prop} {a : Int32} (h : a < 0 ∨ nI c ≤ a) (hp : post 1) : wpY_badEntry post (nI c, b, cb, ac, dy, am, oy, fl, ob) a := by
  unfold wpY_badEntry
  exact br_c (fun _ => hp) (fun h0 => br_t (h.resolve_left h0) hp)
theorem by_be1 {post : Int32 → Prop} {a : Nat} (hc : c ≤ 60) (h : a < c) (hp : post 0) : wpY_badEntry post (nI c, b, cb, ac, dy, am, oy, fl, ob) (nI a) := by
  unfold wpY_badEntry
  exact br_f (nI_pos (by omega)) (br_f (nI_ge h (by omega)) (br_t (nI_lt (b := 60) (by omega) (by omega)) hp))
theorem by_bs0 {post : Int32 → Prop} {i l : Int32} (h : i < 0 ∨ l < i ∨ nI 48 ≤ l) (hp : post 1) : wpY_badStretch post (nI c, b, cb, ac, dy, am, oy, fl, ob) i l := by
  unfold wpY_badStretch
  exact br_c (fun _ => hp) (fun h0 => br_c (fun _ => hp) (fun h1 => br_f (bb_l48 ((h.resolve_left h0).resolve_left h1)) hp))
theorem by_bs1 {post : Int32 → Prop} {i n : Nat} (h : i + n < 48) (hp : post 0) : wpY_badStretch post (nI c, b, cb, ac, dy, am, oy, fl, ob) (nI i) (nI (i + n)) := by
  unfold wpY_badStretch
  exact br_f (nI_pos (by omega)) (br_f (nI_nlt (by omega) (by omega)) (br_t (nI_le (b := 47) (by omega) (by omega)) hp))
theorem by_put {post : SY → Prop} {p0 p1 p2 : Int32} (hc : c < 60) (hp : post (nI (c + 1), b, cb, upd ac c p0, upd dy c p1, upd am c p2, upd oy c 0, fl, ob)) : wpY_put post (nI c, b, cb, ac, dy, am, oy, fl, ob) p0 p1 p2 := by
  have hi : vp_in (nI c) 60 := vp_in_nI hc (by omega)
  have ec : (nI c).toNatClampNeg = c := nI_clamp (by omega)
  unfold wpY_put
  exact br_t (nI_lt (b := 60) hc (by omega)) ⟨hi, nm_r (by rw [ec]) ⟨hi, nm_r (by rw [ec]) ⟨hi, nm_r (by rw [ec]) ⟨hi, nm_r (by rw [ec, bb_n0]) (nm_r (nI_1 c) hp)⟩⟩⟩⟩
theorem by_w5 (hc : c ≤ 60) (ho : ∀ j, j < c → ox j = oy j) {post : Int32 → Prop} {a d : Int32} (h : post (bb_w ac dy am ox a d c)) : ∀ e j : Nat, j + e = c → wY_worth_5 post a d (nI c) b cb ac dy am oy fl ob (e + 1) (bb_w ac dy am ox a d j) (nI j) := by
  intro e
  induction e with
  | zero =>
    intro j hj
    have hj' : j = c := by omega
    subst hj'
    exact br_t (nI_le (Nat.le_refl _) (by omega)) h
  | succ e ih =>
    intro j hj
    have h1 : ¬ nI c ≤ nI j := nI_ge (by omega) (by omega)
    have h2 : ¬ (60 : Int32) ≤ nI j := nI_ge (b := 60) (by omega) (by omega)
    have hi : vp_in (nI j) 60 := vp_in_nI (by omega) (by omega)
    have ec : (nI j).toNatClampNeg = j := nI_clamp (by omega)
    have hn := ih (j + 1) (by omega)
    have eo := ho j (by omega)
    refine br_f h1 (br_f h2 ⟨hi, ?_⟩)
    by_cases z3 : ox j = 0
    · refine br_t (by rw [ec, ← eo]; exact z3) ⟨hi, ?_⟩
      by_cases z1 : ac j = a
      · refine br_t (by rw [ec]; exact z1) ⟨hi, ?_⟩
        by_cases z2 : d < dy j
        · refine br_t (by rw [ec]; exact z2) (nm_r (nI_1 j) ?_)
          rw [bb_w_out (fun z => bb_nle z2 z.2.1)] at hn
          exact hn
        · exact br_f (by rw [ec]; exact z2) ⟨hi, nm_r (by rw [ec, bb_w_in z1 (Int32.not_lt.mp z2) z3]) (nm_r (nI_1 j) hn)⟩
      · refine br_f (by rw [ec]; exact z1) (nm_r (nI_1 j) ?_)
        rw [bb_w_out (fun z => z1 z.1)] at hn
        exact hn
    · refine br_f (by rw [ec, ← eo]; exact z3) (nm_r (nI_1 j) ?_)
      rw [bb_w_out (fun z => z3 z.2.2)] at hn
      exact hn
theorem by_w (hc : c ≤ 60) (ho : ∀ j, j < c → ox j = oy j) {post : Int32 → Prop} {a d : Int32} (h : post (bb_w ac dy am ox a d c)) : wpY_worth post (nI c, b, cb, ac, dy, am, oy, fl, ob) a d := by
  unfold wpY_worth
  exact ⟨c + 1, by_w5 hc ho h c 0 (by omega)⟩
theorem by_h2 (hc : c ≤ 60) (ho : ∀ j, j < c → ox j = oy j) {post : Int32 → Prop} {a : Nat} (ha : a < 4) (h1 : bb_Sa ac dy am ox fl c a → post 1) (h0 : ¬ bb_Sa ac dy am ox fl c a → post 0) : ∀ e j : Nat, j + e = 48 → (∀ d, d < j → ¬ bb_w ac dy am ox (nI a) (nI d) c < fl a) → wY_holds_2 post (nI a) (nI c) b cb ac dy am oy fl ob (e + 1) (nI j) := by
  intro e
  have ec : (nI a).toNatClampNeg = a := nI_clamp (by omega)
  induction e with
  | zero =>
    intro j hj hs
    have hj' : j = 48 := by omega
    subst hj'
    exact br_t (nI_le (a := 48) (b := 48) (by omega) (by omega)) (h1 hs)
  | succ e ih =>
    intro j hj hs
    refine br_f (nI_ge (b := 48) (by omega) (by omega)) (by_w hc ho ⟨vp_in_nI ha (by omega), ?_⟩)
    by_cases z : bb_w ac dy am ox (nI a) (nI j) c < fl a
    · exact br_f (by rw [ec]; exact bb_nle z) (h0 fun H => H j (by omega) z)
    · refine br_t (by rw [ec]; exact Int32.not_lt.mp z) (nm_r (nI_1 j) (ih (j + 1) (by omega) (fun d hd => ?_)))
      by_cases e1 : d = j
      · subst e1; exact z
      · exact hs d (by omega)
theorem by_h (hc : c ≤ 60) (ho : ∀ j, j < c → ox j = oy j) {post : Int32 → Prop} (a : Nat) (ha : a < 4) (h1 : bb_Sa ac dy am ox fl c a → post 1) (h0 : ¬ bb_Sa ac dy am ox fl c a → post 0) : wpY_holds post (nI c, b, cb, ac, dy, am, oy, fl, ob) (nI a) := by
  unfold wpY_holds
  exact ⟨49, by_h2 hc ho ha h1 h0 48 0 (by omega) (fun d hd => absurd hd (Nat.not_lt_zero d))⟩
theorem by_snd (hc : c ≤ 60) (ho : ∀ j, j < c → ox j = oy j) {post : Int32 → Prop} (h1 : bb_Sd ac dy am ox fl c → post 1) (h0 : ¬ bb_Sd ac dy am ox fl c → post 0) : wpY_allSound post (nI c, b, cb, ac, dy, am, oy, fl, ob) := by
  unfold wpY_allSound
  refine by_h hc ho 0 (by omega) (fun s0 => br_f (by decide) ?_) (fun s => br_t rfl (h0 fun H => s (H 0 (by omega))))
  refine by_h hc ho 1 (by omega) (fun s1 => br_f (by decide) ?_) (fun s => br_t rfl (h0 fun H => s (H 1 (by omega))))
  refine by_h hc ho 2 (by omega) (fun s2 => br_f (by decide) ?_) (fun s => br_t rfl (h0 fun H => s (H 2 (by omega))))
  refine by_h hc ho 3 (by omega) (fun s3 => br_f (by decide) ?_) (fun s => br_t rfl (h0 fun H => s (H 3 (by omega))))
  refine h1 fun a ha => ?_
  by_cases e0 : a = 0
  · subst e0; exact s0
  by_cases e1 : a = 1
  · subst e1; exact s1
  by_cases e2 : a = 2
  · subst e2; exact s2
  have e3 : a = 3 := by omega
  subst e3
  exact s3
theorem by_lo34 (hc : c ≤ 60) (ho : ∀ j, j < c → ox j = oy j) {post : Int32 → Prop} {a : Int32} {i n : Nat} (hin : i + n < 48) (h : post (bb_m (fun d => bb_w ac dy am ox a (nI d) c) i n)) : ∀ e k : Nat, k + e = n → wY_lowest_34 post a (nI (i + n)) (nI c) b cb ac dy am oy fl ob (e + 1) (bb_m (fun d => bb_w ac dy am ox a (nI d) c) i k) (nI (i + (k + 1))) := by
  intro e
  induction e with
  | zero =>
    intro k hk
    have hk' : k = n := by omega
    subst hk'
    exact br_t (nI_lt (by omega) (by omega)) h
  | succ e ih =>
    intro k hk
    have hn := ih (k + 1) (by omega)
    refine br_f (nI_nlt (by omega) (by omega)) (by_w hc ho ?_)
    by_cases z : bb_w ac dy am ox a (nI (i + (k + 1))) c < bb_m (fun d => bb_w ac dy am ox a (nI d) c) i k
    · rw [bb_m_t (f := fun d => bb_w ac dy am ox a (nI d) c) z] at hn
      exact br_f (bb_nle z) (nm_r (nI_1 _) hn)
    · rw [bb_m_f (f := fun d => bb_w ac dy am ox a (nI d) c) z] at hn
      exact br_t (Int32.not_lt.mp z) (nm_r (nI_1 _) hn)
theorem by_lo (hc : c ≤ 60) (ho : ∀ j, j < c → ox j = oy j) {post : Int32 → Prop} {a : Int32} {i n : Nat} (hin : i + n < 48) (h : post (bb_m (fun d => bb_w ac dy am ox a (nI d) c) i n)) : ∃ m : Nat, wY_lowest_34 post a (nI (i + n)) (nI c) b cb ac dy am oy fl ob m (bb_w ac dy am ox a (nI i) c) (nI i) := by
  refine ⟨n + 1 + 1, br_f (nI_nlt (by omega) (by omega)) (by_w hc ho (br_t (Int32.le_refl _) (nm_r (nI_1 i) ?_)))⟩
  exact by_lo34 hc ho hin h n 0 (by omega)
theorem by_sp17 (hc : c ≤ 60) (ho : ∀ j, j < c → ox j = oy j) {post : Int32 → Prop} {a i n : Nat} (ha : a < 4) (hin : i + n = 47) (h : post (bb_fr (bb_m (fun d => bb_w ac dy am ox (nI a) (nI d) c - fl a) i n))) : ∀ e k : Nat, k + e = n → wY_spare_17 post (nI a) (nI c) b cb ac dy am oy fl ob (e + 1) (bb_m (fun d => bb_w ac dy am ox (nI a) (nI d) c - fl a) i k) (nI (i + (k + 1))) := by
  intro e
  have ec : (nI a).toNatClampNeg = a := nI_clamp (by omega)
  induction e with
  | zero =>
    intro k hk
    have hk' : k = n := by omega
    subst hk'
    refine br_t (nI_le (a := 48) (by omega) (by omega)) ?_
    unfold bb_fr at h
    by_cases z : 0 ≤ bb_m (fun d => bb_w ac dy am ox (nI a) (nI d) c - fl a) i k
    · rw [if_pos z] at h
      exact br_t z h
    · rw [if_neg z] at h
      exact br_f z h
  | succ e ih =>
    intro k hk
    have hn := ih (k + 1) (by omega)
    refine br_f (nI_ge (b := 48) (by omega) (by omega)) (by_w hc ho ⟨vp_in_nI ha (by omega), nm_r (by rw [ec]) ?_⟩)
    by_cases z : bb_w ac dy am ox (nI a) (nI (i + (k + 1))) c - fl a < bb_m (fun d => bb_w ac dy am ox (nI a) (nI d) c - fl a) i k
    · rw [bb_m_t (f := fun d => bb_w ac dy am ox (nI a) (nI d) c - fl a) z] at hn
      exact br_f (bb_nle z) (nm_r (nI_1 _) hn)
    · rw [bb_m_f (f := fun d => bb_w ac dy am ox (nI a) (nI d) c - fl a) z] at hn
      exact br_t (Int32.not_lt.mp z) (nm_r (nI_1 _) hn)
theorem by_sp (hc : c ≤ 60) (ho : ∀ j, j < c → ox j = oy j) {post : Int32 → Prop} {a i n : Nat} (ha : a < 4) (hin : i + n = 47) (h : post (bb_fr (bb_m (fun d => bb_w ac dy am ox (nI a) (nI d) c - fl a) i n))) : wpY_spare post (nI c, b, cb, ac, dy, am, oy, fl, ob) (nI a) (nI i) := by
  have ec : (nI a).toNatClampNeg = a := nI_clamp (by omega)
  unfold wpY_spare
  refine by_w hc ho ⟨vp_in_nI ha (by omega), nm_r (e' := bb_w ac dy am ox (nI a) (nI i) c - fl a) (by rw [ec]) ⟨n + 1 + 1, br_f (nI_ge (b := 48) (by omega) (by omega)) (by_w hc ho ⟨vp_in_nI ha (by omega), nm_r (e' := bb_w ac dy am ox (nI a) (nI i) c - fl a) (by rw [ec]) (br_t (Int32.le_refl _) (nm_r (nI_1 i) ?_))⟩)⟩⟩
  exact by_sp17 hc ho ha hin h n 0 (by omega)
end
end
section
/-! the relation -/
def bb_Z (f : Nat → Int32) : Prop := ∀ j, f j = 0 ∨ f j = 1
def bb_R (c cb : Nat) (b : Int32) (am fl ox mk oy ob : Nat → Int32) : Prop :=
  c ≤ 60 ∧ (b = 0 ∨ b = 1) ∧ (∀ j, bb_B (am j)) ∧ (∀ j, bb_B (fl j)) ∧ (∀ j, j < c → ox j = oy j) ∧ bb_Z oy ∧ bb_Z ob ∧ (¬ b = 0 → cb ≤ c ∧ ∀ j, j < cb → (mk j = 0 → ob j = ox j) ∧ (¬ mk j = 0 → ob j = 0))
/-- the two books: the same count, batch, list and floors; the cancelled ones agree below the count; in a batch the component's marks tell the reference's copy -/
def i_Rel (_ : Nat) (u : SX) (v : SY) : Prop :=
  ∃ (c cb : Nat) (b : Int32) (ac dy am fl ox mk oy ob : Nat → Int32), u = (nI c, b, nI cb, ac, dy, am, ox, mk, fl) ∧ v = (nI c, b, nI cb, ac, dy, am, oy, fl, ob) ∧ bb_R c cb b am fl ox mk oy ob
theorem i_up {k : Nat} {u : SX} {v : SY} (h : i_Rel k u v) : i_Rel (k + 4) u v := h
theorem bb_B0 : bb_B 0 := by unfold bb_B; decide
theorem i_vc0 : wpX_init (fun u => wpY_init (fun v => i_Rel 0 u v)) :=
  ⟨0, 0, 0, fun _ => 0, fun _ => 0, fun _ => 0, fun _ => 0, fun _ => 0, fun _ => 0, fun _ => 0, fun _ => 0, rfl, rfl, by omega, Or.inl rfl, fun _ => bb_B0, fun _ => bb_B0, fun _ _ => rfl, fun _ => Or.inl rfl, fun _ => Or.inl rfl, fun h => absurd rfl h⟩
theorem bb_span (i l : Int32) : (i < 0 ∨ l < i ∨ nI 48 ≤ l) ∨ ∃ p n : Nat, p + n < 48 ∧ i = nI p ∧ l = nI (p + n) := by
  by_cases h0 : i < 0
  · exact Or.inl (Or.inl h0)
  by_cases h1 : l < i
  · exact Or.inl (Or.inr (Or.inl h1))
  obtain ⟨p, hp, rfl⟩ := nI_of h0
  have hl : ¬ l < 0 := by
    intro h
    apply h1
    rw [Int32.lt_iff_toInt_lt] at h ⊢
    rw [nI_toInt hp]
    have e : (0 : Int32).toInt = 0 := by decide
    omega
  obtain ⟨q, hq, rfl⟩ := nI_of hl
  rw [nI_ltI hq hp] at h1
  by_cases h2 : q < 48
  · exact Or.inr ⟨p, q - p, by omega, rfl, by rw [Nat.add_sub_cancel' (by omega)]⟩
  · exact Or.inl (Or.inr (Or.inr (nI_le (by omega) hq)))
theorem bb_ix (x : Int32) {n : Nat} (hn : n < 2 ^ 31) : (x < 0 ∨ nI n ≤ x) ∨ ∃ j : Nat, j < n ∧ x = nI j := by
  rcases pk_ix x hn with h | h | h
  · exact Or.inl (Or.inl h)
  · exact Or.inl (Or.inr h)
  · exact Or.inr h
/-- the two ways to reckon what is free -/
theorem bb_free {c : Nat} {ac dy am ox fl : Nat → Int32} {a i n : Nat} (hc : c ≤ 60) (hm : ∀ j, bb_B (am j)) (hf : bb_B (fl a)) : bb_m (fun d => bb_w ac dy am ox (nI a) (nI d) c - fl a) i n = bb_m (fun d => bb_w ac dy am ox (nI a) (nI d) c) i n - fl a := by
  refine bb_m_sub (f := fun d => bb_w ac dy am ox (nI a) (nI d) c) hf n (fun k _ => ?_)
  have h := bb_w_bd (ac := ac) (dy := dy) (am := am) (off := ox) (a := nI a) (d := nI (i + k)) hm c hc
  omega
/-! scans in lockstep -/
section
variable {c : Nat} {b cb : Int32} {ac dy am ox mk fl oy ob : Nat → Int32}
theorem bz_tot (hc : c ≤ 60) (ho : ∀ j, j < c → ox j = oy j) {a : Int32} {l : Nat} (hl : l < 48) : ∀ (e j : Nat) (s : Int32), j + e = l + 1 → ∃ r : Int32, (∀ post : Int32 → Prop, post r → wX_total_26 post a (nI l) (nI c) b cb ac dy am ox mk fl (e + 1) s (nI j)) ∧ (∀ post : Int32 → Prop, post r → wY_total_26 post a (nI l) (nI c) b cb ac dy am oy fl ob (e + 1) s (nI j)) := by
  intro e
  induction e with
  | zero =>
    intro j s hj
    have h : nI l < nI j := nI_lt (by omega) (by omega)
    exact ⟨s, fun _ hp => br_t h hp, fun _ hp => br_t h hp⟩
  | succ e ih =>
    intro j s hj
    have h : ¬ nI l < nI j := nI_nlt (by omega) (by omega)
    obtain ⟨r, hX, hY⟩ := ih (j + 1) (s + bb_w ac dy am ox a (nI j) c) (by omega)
    exact ⟨r, fun post hp => br_f h (bx_bal hc (nm_e (nm_r (nI_1 j) (hX post hp)))), fun post hp => br_f h (by_w hc ho (nm_e (nm_r (nI_1 j) (hY post hp))))⟩
theorem bz_fb (hc : c ≤ 60) (ho : ∀ j, j < c → ox j = oy j) {a x : Int32} : ∀ (e j : Nat), j + e = 48 → ∃ r : Int32, (∀ post : Int32 → Prop, post r → wX_firstBelow_24 post a x (nI c) b cb ac dy am ox mk fl (e + 1) (nI j)) ∧ (∀ post : Int32 → Prop, post r → wY_firstBelow_24 post a x (nI c) b cb ac dy am oy fl ob (e + 1) (nI j)) := by
  intro e
  induction e with
  | zero =>
    intro j hj
    have h : (48 : Int32) ≤ nI j := nI_le (a := 48) (by omega) (by omega)
    exact ⟨-3, fun _ hp => br_t h hp, fun _ hp => br_t h hp⟩
  | succ e ih =>
    intro j hj
    have h : ¬ (48 : Int32) ≤ nI j := nI_ge (b := 48) (by omega) (by omega)
    by_cases z : x ≤ bb_w ac dy am ox a (nI j) c
    · obtain ⟨r, hX, hY⟩ := ih (j + 1) (by omega)
      exact ⟨r, fun post hp => br_f h (bx_bal hc (br_t z (nm_r (nI_1 j) (hX post hp)))), fun post hp => br_f h (by_w hc ho (br_t z (nm_r (nI_1 j) (hY post hp))))⟩
    · exact ⟨nI j, fun post hp => br_f h (bx_bal hc (br_f z hp)), fun post hp => br_f h (by_w hc ho (br_f z hp))⟩
theorem bz_db (hc : c ≤ 60) (ho : ∀ j, j < c → ox j = oy j) {a x : Int32} : ∀ (e j : Nat) (s : Int32), j + e = 48 → ∃ r : Int32, (∀ post : Int32 → Prop, post r → wX_daysBelow_15 post a x (nI c) b cb ac dy am ox mk fl (e + 1) s (nI j)) ∧ (∀ post : Int32 → Prop, post r → wY_daysBelow_15 post a x (nI c) b cb ac dy am oy fl ob (e + 1) s (nI j)) := by
  intro e
  induction e with
  | zero =>
    intro j s hj
    have h : (48 : Int32) ≤ nI j := nI_le (a := 48) (by omega) (by omega)
    exact ⟨s, fun _ hp => br_t h hp, fun _ hp => br_t h hp⟩
  | succ e ih =>
    intro j s hj
    have h : ¬ (48 : Int32) ≤ nI j := nI_ge (b := 48) (by omega) (by omega)
    by_cases z : x ≤ bb_w ac dy am ox a (nI j) c
    · obtain ⟨r, hX, hY⟩ := ih (j + 1) s (by omega)
      exact ⟨r, fun post hp => br_f h (bx_bal hc (br_t z (nm_r (nI_1 j) (hX post hp)))), fun post hp => br_f h (by_w hc ho (br_t z (nm_r (nI_1 j) (hY post hp))))⟩
    · obtain ⟨r, hX, hY⟩ := ih (j + 1) (s + 1) (by omega)
      exact ⟨r, fun post hp => br_f h (bx_bal hc (br_f z (nm_e (nm_r (nI_1 j) (hX post hp))))), fun post hp => br_f h (by_w hc ho (br_f z (nm_e (nm_r (nI_1 j) (hY post hp)))))⟩
theorem bz_ff (hc : c ≤ 60) (ho : ∀ j, j < c → ox j = oy j) (hm : ∀ j, bb_B (am j)) (hf : ∀ j, bb_B (fl j)) {a : Nat} (ha : a < 4) {x : Int32} : ∀ (e j : Nat), j + e = 48 → ∃ r : Int32, (∀ post : Int32 → Prop, post r → wX_firstFree_26 post (nI a) x (nI c) b cb ac dy am ox mk fl (e + 1) (nI j)) ∧ (∀ post : Int32 → Prop, post r → wY_firstFree_26 post (nI a) x (nI c) b cb ac dy am oy fl ob (e + 1) (nI j)) := by
  intro e
  induction e with
  | zero =>
    intro j hj
    have h : (48 : Int32) ≤ nI j := nI_le (a := 48) (by omega) (by omega)
    exact ⟨-3, fun _ hp => br_t h hp, fun _ hp => br_t h hp⟩
  | succ e ih =>
    intro j hj
    have h : ¬ (48 : Int32) ≤ nI j := nI_ge (b := 48) (by omega) (by omega)
    have q := bb_free (ac := ac) (dy := dy) (ox := ox) (i := j) (n := e) hc hm (hf a)
    by_cases z : bb_fr (bb_m (fun d => bb_w ac dy am ox (nI a) (nI d) c) j e - fl a) < x
    · obtain ⟨r, hX, hY⟩ := ih (j + 1) (by omega)
      refine ⟨r, fun post hp => br_f h (bx_ff (n := e) hc ha (by omega) (br_t z (nm_r (nI_1 j) (hX post hp)))), fun post hp => br_f h (by_sp (n := e) hc ho ha (by omega) (br_t ?_ (nm_r (nI_1 j) (hY post hp))))⟩
      rw [q]
      exact z
    · refine ⟨nI j, fun post hp => br_f h (bx_ff (n := e) hc ha (by omega) (br_f z hp)), fun post hp => br_f h (by_sp (n := e) hc ho ha (by omega) (br_f ?_ hp))⟩
      rw [q]
      exact z
end
end
section
/-! the questions -/
theorem i_vc_isOpen {k : Nat} {u : SX} {v : SY} (I : i_Rel k u v) (hk : k + 4 ≤ 2048) : wpX_isOpen (fun r => wpY_isOpen (fun r' => r' = r ∧ i_Rel (k + 4) u v) v) u := by
  have J := i_up I
  obtain ⟨c, cb, b, ac, dy, am, fl, ox, mk, oy, ob, rfl, rfl, hc, hb, hm, hf, ho, hz, hw, ht⟩ := I
  unfold wpX_isOpen wpY_isOpen
  exact br_c (fun h => br_t h ⟨rfl, J⟩) (fun h => br_f h ⟨rfl, J⟩)
theorem i_vc_entries {k : Nat} {u : SX} {v : SY} (I : i_Rel k u v) (hk : k + 4 ≤ 2048) : wpX_entries (fun r => wpY_entries (fun r' => r' = r ∧ i_Rel (k + 4) u v) v) u := by
  have J := i_up I
  obtain ⟨c, cb, b, ac, dy, am, fl, ox, mk, oy, ob, rfl, rfl, hc, hb, hm, hf, ho, hz, hw, ht⟩ := I
  unfold wpX_entries wpY_entries
  exact ⟨rfl, J⟩
theorem i_vc_cancelled {k : Nat} {u : SX} {v : SY} (I : i_Rel k u v) (hk : k + 4 ≤ 2048) (v1 : Int32) : wpX_cancelled (fun r => wpY_cancelled (fun r' => r' = r ∧ i_Rel (k + 4) u v) v v1) u v1 := by
  have J := i_up I
  obtain ⟨c, cb, b, ac, dy, am, fl, ox, mk, oy, ob, rfl, rfl, hc, hb, hm, hf, ho, hz, hw, ht⟩ := I
  unfold wpX_cancelled wpY_cancelled
  rcases bb_ix v1 (n := c) (by omega) with h | ⟨j, hj, rfl⟩
  · exact bx_ge0 h (br_t rfl (by_be0 h (br_f (by decide) ⟨rfl, J⟩)))
  · have hi : vp_in (nI j) 60 := vp_in_nI (by omega) (by omega)
    have ec : (nI j).toNatClampNeg = j := nI_clamp (by omega)
    have eo := ho j hj
    by_cases z : ox j = 0
    · exact bx_ge1 hc hj (br_f (by decide) ⟨hi, br_t (by rw [ec]; exact z) (by_be1 hc hj (br_t rfl ⟨hi, br_t (by rw [ec, ← eo]; exact z) ⟨rfl, J⟩⟩))⟩)
    · exact bx_ge1 hc hj (br_f (by decide) ⟨hi, br_f (by rw [ec]; exact z) (by_be1 hc hj (br_t rfl ⟨hi, br_f (by rw [ec, ← eo]; exact z) ⟨rfl, J⟩⟩))⟩)
theorem i_vc_amountOf {k : Nat} {u : SX} {v : SY} (I : i_Rel k u v) (hk : k + 4 ≤ 2048) (v1 : Int32) : wpX_amountOf (fun r => wpY_amountOf (fun r' => r' = r ∧ i_Rel (k + 4) u v) v v1) u v1 := by
  have J := i_up I
  obtain ⟨c, cb, b, ac, dy, am, fl, ox, mk, oy, ob, rfl, rfl, hc, hb, hm, hf, ho, hz, hw, ht⟩ := I
  unfold wpX_amountOf wpY_amountOf
  rcases bb_ix v1 (n := c) (by omega) with h | ⟨j, hj, rfl⟩
  · exact bx_ge0 h (br_t rfl (by_be0 h (br_f (by decide) ⟨rfl, J⟩)))
  · have hi : vp_in (nI j) 60 := vp_in_nI (by omega) (by omega)
    exact bx_ge1 hc hj (br_f (by decide) ⟨hi, by_be1 hc hj (br_t rfl ⟨hi, ⟨rfl, J⟩⟩)⟩)
theorem i_vc_sound {k : Nat} {u : SX} {v : SY} (I : i_Rel k u v) (hk : k + 4 ≤ 2048) : wpX_sound (fun r => wpY_sound (fun r' => r' = r ∧ i_Rel (k + 4) u v) v) u := by
  have J := i_up I
  obtain ⟨c, cb, b, ac, dy, am, fl, ox, mk, oy, ob, rfl, rfl, hc, hb, hm, hf, ho, hz, hw, ht⟩ := I
  unfold wpX_sound wpY_sound
  exact bx_snd hc (fun s => br_f (by decide) (by_snd hc ho (fun _ => br_f (by decide) ⟨rfl, J⟩) (fun t => absurd s t))) (fun s => br_t rfl (by_snd hc ho (fun t => absurd t s) (fun _ => br_t rfl ⟨rfl, J⟩)))
theorem i_vc_balance {k : Nat} {u : SX} {v : SY} (I : i_Rel k u v) (hk : k + 4 ≤ 2048) (v1 : Int32) (v2 : Int32) : wpX_balance (fun r => wpY_balance (fun r' => r' = r ∧ i_Rel (k + 4) u v) v v1 v2) u v1 v2 := by
  have J := i_up I
  obtain ⟨c, cb, b, ac, dy, am, fl, ox, mk, oy, ob, rfl, rfl, hc, hb, hm, hf, ho, hz, hw, ht⟩ := I
  unfold wpX_balance wpY_balance
  rcases bb_ix v1 (n := 4) (by omega) with h | ⟨a, ha, rfl⟩
  · exact bx_ga0 h (br_t rfl (by_ba0 h (br_f (by decide) ⟨rfl, J⟩)))
  rcases bb_ix v2 (n := 48) (by omega) with h | ⟨d, hd, rfl⟩
  · exact bx_ga1 ha (br_f (by decide) (bx_gd0 h (br_t rfl (by_ba1 ha (br_t rfl (by_bd0 h (br_f (by decide) ⟨rfl, J⟩)))))))
  · exact bx_ga1 ha (br_f (by decide) (bx_gd1 hd (br_f (by decide) (bx_bal hc (by_ba1 ha (br_t rfl (by_bd1 hd (br_t rfl (by_w hc ho ⟨rfl, J⟩)))))))))
theorem i_vc_lowest {k : Nat} {u : SX} {v : SY} (I : i_Rel k u v) (hk : k + 4 ≤ 2048) (v1 : Int32) (v2 : Int32) (v3 : Int32) : wpX_lowest (fun r => wpY_lowest (fun r' => r' = r ∧ i_Rel (k + 4) u v) v v1 v2 v3) u v1 v2 v3 := by
  have J := i_up I
  obtain ⟨c, cb, b, ac, dy, am, fl, ox, mk, oy, ob, rfl, rfl, hc, hb, hm, hf, ho, hz, hw, ht⟩ := I
  unfold wpX_lowest wpY_lowest
  rcases bb_ix v1 (n := 4) (by omega) with h | ⟨a, ha, rfl⟩
  · exact bx_ga0 h (br_t rfl (by_ba0 h (br_f (by decide) ⟨rfl, J⟩)))
  rcases bb_span v2 v3 with h | ⟨p, n, hpn, rfl, rfl⟩
  · exact bx_ga1 ha (br_f (by decide) (bx_gs0 h (br_t rfl (by_ba1 ha (br_t rfl (by_bs0 h (br_f (by decide) ⟨rfl, J⟩)))))))
  · exact bx_ga1 ha (br_f (by decide) (bx_gs1 hpn (br_f (by decide) (bx_lb hc hpn rfl (by_ba1 ha (br_t rfl (by_bs1 hpn (br_t rfl (by_w hc ho (by_lo hc ho hpn ⟨rfl, J⟩))))))))))
theorem i_vc_total {k : Nat} {u : SX} {v : SY} (I : i_Rel k u v) (hk : k + 4 ≤ 2048) (v1 : Int32) (v2 : Int32) (v3 : Int32) : wpX_total (fun r => wpY_total (fun r' => r' = r ∧ i_Rel (k + 4) u v) v v1 v2 v3) u v1 v2 v3 := by
  have J := i_up I
  obtain ⟨c, cb, b, ac, dy, am, fl, ox, mk, oy, ob, rfl, rfl, hc, hb, hm, hf, ho, hz, hw, ht⟩ := I
  unfold wpX_total wpY_total
  rcases bb_ix v1 (n := 4) (by omega) with h | ⟨a, ha, rfl⟩
  · exact bx_ga0 h (br_t rfl (by_ba0 h (br_f (by decide) ⟨rfl, J⟩)))
  rcases bb_span v2 v3 with h | ⟨p, n, hpn, rfl, rfl⟩
  · exact bx_ga1 ha (br_f (by decide) (bx_gs0 h (br_t rfl (by_ba1 ha (br_t rfl (by_bs0 h (br_f (by decide) ⟨rfl, J⟩)))))))
  · obtain ⟨r, hX, hY⟩ := bz_tot (b := b) (cb := nI cb) (ac := ac) (dy := dy) (am := am) (mk := mk) (fl := fl) (ob := ob) hc ho (a := nI a) hpn (n + 1) p 0 (by omega)
    exact bx_ga1 ha (br_f (by decide) (bx_gs1 hpn (br_f (by decide) ⟨_, hX _ (by_ba1 ha (br_t rfl (by_bs1 hpn (br_t rfl ⟨_, hY _ ⟨rfl, J⟩⟩))))⟩)))
theorem i_vc_firstBelow {k : Nat} {u : SX} {v : SY} (I : i_Rel k u v) (hk : k + 4 ≤ 2048) (v1 : Int32) (v2 : Int32) (v3 : Int32) : wpX_firstBelow (fun r => wpY_firstBelow (fun r' => r' = r ∧ i_Rel (k + 4) u v) v v1 v2 v3) u v1 v2 v3 := by
  have J := i_up I
  obtain ⟨c, cb, b, ac, dy, am, fl, ox, mk, oy, ob, rfl, rfl, hc, hb, hm, hf, ho, hz, hw, ht⟩ := I
  unfold wpX_firstBelow wpY_firstBelow
  rcases bb_ix v1 (n := 4) (by omega) with h | ⟨a, ha, rfl⟩
  · exact bx_ga0 h (br_t rfl (by_ba0 h (br_f (by decide) ⟨rfl, J⟩)))
  rcases bb_ix v2 (n := 48) (by omega) with h | ⟨d, hd, rfl⟩
  · exact bx_ga1 ha (br_f (by decide) (bx_gd0 h (br_t rfl (by_ba1 ha (br_t rfl (by_bd0 h (br_f (by decide) ⟨rfl, J⟩)))))))
  · obtain ⟨r, hX, hY⟩ := bz_fb (b := b) (cb := nI cb) (ac := ac) (dy := dy) (am := am) (mk := mk) (fl := fl) (ob := ob) hc ho (a := nI a) (x := v3) (48 - d) d (by omega)
    exact bx_ga1 ha (br_f (by decide) (bx_gd1 hd (br_f (by decide) ⟨_, hX _ (by_ba1 ha (br_t rfl (by_bd1 hd (br_t rfl ⟨_, hY _ ⟨rfl, J⟩⟩))))⟩)))
theorem i_vc_free {k : Nat} {u : SX} {v : SY} (I : i_Rel k u v) (hk : k + 4 ≤ 2048) (v1 : Int32) (v2 : Int32) : wpX_free (fun r => wpY_free (fun r' => r' = r ∧ i_Rel (k + 4) u v) v v1 v2) u v1 v2 := by
  have J := i_up I
  obtain ⟨c, cb, b, ac, dy, am, fl, ox, mk, oy, ob, rfl, rfl, hc, hb, hm, hf, ho, hz, hw, ht⟩ := I
  unfold wpX_free wpY_free
  rcases bb_ix v1 (n := 4) (by omega) with h | ⟨a, ha, rfl⟩
  · exact bx_ga0 h (br_t rfl (by_ba0 h (br_f (by decide) ⟨rfl, J⟩)))
  rcases bb_ix v2 (n := 48) (by omega) with h | ⟨d, hd, rfl⟩
  · exact bx_ga1 ha (br_f (by decide) (bx_gd0 h (br_t rfl (by_ba1 ha (br_t rfl (by_bd0 h (br_f (by decide) ⟨rfl, J⟩)))))))
  · have q := bb_free (ac := ac) (dy := dy) (ox := ox) (i := d) (n := 47 - d) hc hm (hf a)
    exact bx_ga1 ha (br_f (by decide) (bx_gd1 hd (br_f (by decide) (bx_ff (n := 47 - d) hc ha (by omega) (by_ba1 ha (br_t rfl (by_bd1 hd (br_t rfl (by_sp (n := 47 - d) hc ho ha (by omega) ⟨by rw [q], J⟩)))))))))
theorem i_vc_firstFree {k : Nat} {u : SX} {v : SY} (I : i_Rel k u v) (hk : k + 4 ≤ 2048) (v1 : Int32) (v2 : Int32) : wpX_firstFree (fun r => wpY_firstFree (fun r' => r' = r ∧ i_Rel (k + 4) u v) v v1 v2) u v1 v2 := by
  have J := i_up I
  obtain ⟨c, cb, b, ac, dy, am, fl, ox, mk, oy, ob, rfl, rfl, hc, hb, hm, hf, ho, hz, hw, ht⟩ := I
  unfold wpX_firstFree wpY_firstFree
  rcases bb_ix v1 (n := 4) (by omega) with h | ⟨a, ha, rfl⟩
  · exact bx_ga0 h (br_t rfl (by_ba0 h (br_f (by decide) ⟨rfl, J⟩)))
  by_cases h1 : v2 < 1
  · exact bx_ga1 ha (br_f (by decide) (br_t h1 (by_ba1 ha (br_t rfl (br_t h1 ⟨rfl, J⟩)))))
  by_cases h2 : v2 ≤ 1000000
  · obtain ⟨r, hX, hY⟩ := bz_ff (b := b) (cb := nI cb) (ac := ac) (dy := dy) (am := am) (mk := mk) (fl := fl) (ob := ob) hc ho hm hf ha (x := v2) 48 0 (by omega)
    exact bx_ga1 ha (br_f (by decide) (br_f h1 (br_t h2 ⟨_, hX _ (by_ba1 ha (br_t rfl (br_f h1 (br_t h2 ⟨_, hY _ ⟨rfl, J⟩⟩))))⟩)))
  · exact bx_ga1 ha (br_f (by decide) (br_f h1 (br_f h2 (by_ba1 ha (br_t rfl (br_f h1 (br_f h2 ⟨rfl, J⟩)))))))
theorem i_vc_daysBelow {k : Nat} {u : SX} {v : SY} (I : i_Rel k u v) (hk : k + 4 ≤ 2048) (v1 : Int32) (v2 : Int32) : wpX_daysBelow (fun r => wpY_daysBelow (fun r' => r' = r ∧ i_Rel (k + 4) u v) v v1 v2) u v1 v2 := by
  have J := i_up I
  obtain ⟨c, cb, b, ac, dy, am, fl, ox, mk, oy, ob, rfl, rfl, hc, hb, hm, hf, ho, hz, hw, ht⟩ := I
  unfold wpX_daysBelow wpY_daysBelow
  rcases bb_ix v1 (n := 4) (by omega) with h | ⟨a, ha, rfl⟩
  · exact bx_ga0 h (br_t rfl (by_ba0 h (br_f (by decide) ⟨rfl, J⟩)))
  · obtain ⟨r, hX, hY⟩ := bz_db (b := b) (cb := nI cb) (ac := ac) (dy := dy) (am := am) (mk := mk) (fl := fl) (ob := ob) hc ho (a := nI a) (x := v2) 48 0 0 (by omega)
    exact bx_ga1 ha (br_f (by decide) ⟨_, hX _ (by_ba1 ha (br_t rfl ⟨_, hY _ ⟨rfl, J⟩⟩))⟩)
end
