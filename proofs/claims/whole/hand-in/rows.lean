section
/-! rows of kit/rows/PURE-ROWS, pasted -/
theorem pk_us {f : Nat → Int32} {k : Nat} {x : Int32} : upd f k x k = x := if_pos rfl
theorem pk_un {f : Nat → Int32} {k j : Nat} {x : Int32} (h : j ≠ k) : upd f k x j = f j := if_neg h
theorem pk_sub {a b : Nat} (h : b ≤ a) : nI a - nI b = nI (a - b) := by
  obtain ⟨c, rfl⟩ : ∃ c, a = c + b := ⟨a - b, by omega⟩
  rw [← nI_add, Int32.add_sub_cancel, Nat.add_sub_cancel]
theorem pk_m1 (n : Nat) : nI (n + 1) + (-1) = nI n := by
  rw [← nI_1, Int32.add_assoc, show (1 : Int32) + (-1) = 0 from rfl, Int32.add_zero]
theorem pk_mul (a b : Nat) : nI a * nI b = nI (a * b) := (Int32.ofNat_mul a b).symm
theorem pk_div {a d : Nat} (ha : a < 2 ^ 31) (h0 : 0 < d) (hd : d < 2 ^ 31) : nI a / nI d = nI (a / d) := by
  apply Int32.toInt_inj.mp
  rw [lg_idiv_nonneg (by rw [nI_toInt ha]; omega) (by rw [nI_toInt hd]; omega), nI_toInt ha, nI_toInt hd, nI_toInt (Nat.lt_of_le_of_lt (Nat.div_le_self a d) ha)]
  first | rfl | exact (Int.natCast_ediv _ _).symm
theorem pk_rem {a d : Nat} (ha : a < 2 ^ 31) (h0 : 0 < d) (hd : d < 2 ^ 31) : nI a - nI a / nI d * nI d = nI (a % d) := by
  rw [pk_div ha h0 hd, pk_mul, pk_sub (Nat.div_mul_le_self a d)]
  exact congrArg nI (by have := Nat.div_add_mod' a d; omega)
theorem pk_ix (x : Int32) {n : Nat} (hn : n < 2 ^ 31) : x < 0 ∨ nI n ≤ x ∨ ∃ j : Nat, j < n ∧ x = nI j := by
  by_cases h : x < 0
  · exact Or.inl h
  · obtain ⟨j, hj, rfl⟩ := nI_of h
    by_cases h2 : j < n
    · exact Or.inr (Or.inr ⟨j, h2, rfl⟩)
    · exact Or.inr (Or.inl (nI_le (by omega) hj))
theorem pk_le {x y : Int32} {A B : Prop} (a b : Nat) (f : a ≤ b → A) (g : b < a → B) (hx : x = nI a := by rfl) (hy : y = nI b := by rfl) (ha : a < 2 ^ 31 := by omega) (hb : b < 2 ^ 31 := by omega) : (x ≤ y → A) ∧ (¬ x ≤ y → B) := by
  subst hx hy
  rw [nI_leI ha hb]
  exact ⟨f, fun z => g (by omega)⟩
theorem pk_lt {x y : Int32} {A B : Prop} (a b : Nat) (f : a < b → A) (g : b ≤ a → B) (hx : x = nI a := by rfl) (hy : y = nI b := by rfl) (ha : a < 2 ^ 31 := by omega) (hb : b < 2 ^ 31 := by omega) : (x < y → A) ∧ (¬ x < y → B) := by
  subst hx hy
  rw [nI_ltI ha hb]
  exact ⟨f, fun z => g (by omega)⟩
theorem pk_eq {x y : Int32} {A B : Prop} (a b : Nat) (f : a = b → A) (g : a ≠ b → B) (hx : x = nI a := by rfl) (hy : y = nI b := by rfl) (ha : a < 2 ^ 31 := by omega) (hb : b < 2 ^ 31 := by omega) : (x = y → A) ∧ (¬ x = y → B) := by
  subst hx hy
  rw [nI_eq ha hb]
  exact ⟨f, g⟩
theorem pk_in {x : Int32} (n N : Nat) (h : n < N) (hx : x = nI n := by rfl) (hN : N < 2 ^ 31 := by omega) : vp_in x N := by
  subst hx
  exact vp_in_nI h hN
theorem pk_cl {x : Int32} (n : Nat) (hx : x = nI n := by rfl) (h : n < 2 ^ 31 := by omega) : x.toNatClampNeg = n := by
  subst hx
  exact nI_clamp h
theorem pk_loop {σ : Type} (W : Nat → Nat → σ → Prop) (I : Nat → σ → Prop) (e i0 : Nat) (s : σ) (hi : i0 ≤ e) (h0 : I i0 s) (hx : ∀ n s, I e s → W (n + 1) e s)
    (hs : ∀ n i s, i < e → I i s → (∀ s', I (i + 1) s' → W n (i + 1) s') → W (n + 1) i s) : ∃ n, W n i0 s :=
  ⟨e + 1, loop_i W I e hx hs (e + 1) i0 s hi (by omega) h0⟩
/-! the sum of the amounts of an account's entries below n, up to a day, that aren't cancelled -/
def bb_w (ac dy am off : Nat → Int32) (a d : Int32) : Nat → Int32
  | 0 => 0
  | n + 1 => if ac n = a ∧ dy n ≤ d ∧ off n = 0 then bb_w ac dy am off a d n + am n else bb_w ac dy am off a d n
theorem bb_w_in {ac dy am off : Nat → Int32} {a d : Int32} {n : Nat} (h1 : ac n = a) (h2 : dy n ≤ d) (h3 : off n = 0) : bb_w ac dy am off a d (n + 1) = bb_w ac dy am off a d n + am n := by
  rw [bb_w, if_pos ⟨h1, h2, h3⟩]
theorem bb_w_out {ac dy am off : Nat → Int32} {a d : Int32} {n : Nat} (h : ¬ (ac n = a ∧ dy n ≤ d ∧ off n = 0)) : bb_w ac dy am off a d (n + 1) = bb_w ac dy am off a d n := by
  rw [bb_w, if_neg h]
theorem bb_w_off {ac dy am off off' : Nat → Int32} {a d : Int32} : ∀ n : Nat, (∀ j, j < n → off j = off' j) → bb_w ac dy am off a d n = bb_w ac dy am off' a d n := by
  intro n
  induction n with
  | zero => intro _; rfl
  | succ n ih =>
    intro h
    rw [bb_w, bb_w, ih (fun j hj => h j (by omega)), h n (by omega)]
/-- within -10000 .. 10000 -/
def bb_B (x : Int32) : Prop := -10000 ≤ x.toInt ∧ x.toInt ≤ 10000
theorem bb_w_bd {ac dy am off : Nat → Int32} {a d : Int32} (hb : ∀ j, bb_B (am j)) : ∀ n : Nat, n ≤ 60 → -(10000 * (n : Int)) ≤ (bb_w ac dy am off a d n).toInt ∧ (bb_w ac dy am off a d n).toInt ≤ 10000 * (n : Int) := by
  intro n
  induction n with
  | zero =>
    intro _
    have e : (bb_w ac dy am off a d 0).toInt = 0 := by rw [bb_w]; decide
    rw [e]
    decide
  | succ n ih =>
    intro hn
    have h := ih (by omega)
    have hm := hb n
    unfold bb_B at hm
    by_cases c : ac n = a ∧ dy n ≤ d ∧ off n = 0
    · rw [bb_w_in c.1 c.2.1 c.2.2, Int32.toInt_add, Int.bmod_eq_of_le (by omega) (by omega)]
      omega
    · rw [bb_w_out c]
      omega
/-! the least of f i .. f (i + n) -/
def bb_m (f : Nat → Int32) (i : Nat) : Nat → Int32
  | 0 => f i
  | n + 1 => if f (i + (n + 1)) < bb_m f i n then f (i + (n + 1)) else bb_m f i n
theorem bb_m_t {f : Nat → Int32} {i n : Nat} (h : f (i + (n + 1)) < bb_m f i n) : bb_m f i (n + 1) = f (i + (n + 1)) := by
  rw [bb_m, if_pos h]
theorem bb_m_f {f : Nat → Int32} {i n : Nat} (h : ¬ f (i + (n + 1)) < bb_m f i n) : bb_m f i (n + 1) = bb_m f i n := by
  rw [bb_m, if_neg h]
theorem bb_m_lt {f : Nat → Int32} {i : Nat} {c : Int32} : ∀ n : Nat, bb_m f i n < c ↔ ∃ k, k ≤ n ∧ f (i + k) < c := by
  intro n
  induction n with
  | zero =>
    rw [bb_m]
    constructor
    · intro h; exact ⟨0, Nat.le_refl _, h⟩
    · intro ⟨k, hk, h⟩
      have e : k = 0 := by omega
      subst e
      exact h
  | succ n ih =>
    by_cases h : f (i + (n + 1)) < bb_m f i n
    · rw [bb_m_t h]
      constructor
      · intro h2; exact ⟨n + 1, Nat.le_refl _, h2⟩
      · intro ⟨k, hk, h2⟩
        by_cases e : k = n + 1
        · subst e; exact h2
        · have h3 := ih.mpr ⟨k, by omega, h2⟩
          exact Int32.lt_trans h h3
    · rw [bb_m_f h]
      constructor
      · intro h2
        obtain ⟨k, hk, h3⟩ := ih.mp h2
        exact ⟨k, by omega, h3⟩
      · intro ⟨k, hk, h2⟩
        by_cases e : k = n + 1
        · subst e
          rw [Int32.lt_iff_toInt_lt] at h h2 ⊢
          omega
        · exact ih.mpr ⟨k, by omega, h2⟩
theorem bb_sub {x c : Int32} (hx : -600000 ≤ x.toInt ∧ x.toInt ≤ 600000) (hc : bb_B c) : (x - c).toInt = x.toInt - c.toInt := by
  unfold bb_B at hc
  rw [Int32.toInt_sub]
  exact Int.bmod_eq_of_le (by omega) (by omega)
theorem bb_m_bd {f : Nat → Int32} {i : Nat} : ∀ n : Nat, (∀ k, k ≤ n → -600000 ≤ (f (i + k)).toInt ∧ (f (i + k)).toInt ≤ 600000) → -600000 ≤ (bb_m f i n).toInt ∧ (bb_m f i n).toInt ≤ 600000 := by
  intro n
  induction n with
  | zero => intro h; exact h 0 (Nat.le_refl _)
  | succ n ih =>
    intro h
    by_cases c : f (i + (n + 1)) < bb_m f i n
    · rw [bb_m_t c]; exact h (n + 1) (Nat.le_refl _)
    · rw [bb_m_f c]; exact ih (fun k hk => h k (by omega))
theorem bb_m_sub {f : Nat → Int32} {i : Nat} {c : Int32} (hc : bb_B c) : ∀ n : Nat, (∀ k, k ≤ n → -600000 ≤ (f (i + k)).toInt ∧ (f (i + k)).toInt ≤ 600000) → bb_m (fun d => f d - c) i n = bb_m f i n - c := by
  intro n
  induction n with
  | zero => intro _; rfl
  | succ n ih =>
    intro h
    have e := ih (fun k hk => h k (by omega))
    have hm := bb_m_bd n (fun k hk => h k (by omega))
    have hf := h (n + 1) (Nat.le_refl _)
    have q : (f (i + (n + 1)) - c < bb_m f i n - c) ↔ f (i + (n + 1)) < bb_m f i n := by
      rw [Int32.lt_iff_toInt_lt, Int32.lt_iff_toInt_lt, bb_sub hf hc, bb_sub hm hc]
      omega
    by_cases z : f (i + (n + 1)) < bb_m f i n
    · rw [bb_m_t z]
      exact bb_m_t (f := fun d => f d - c) (by rw [e]; exact q.mpr z)
    · rw [bb_m_f z, ← e]
      exact bb_m_f (f := fun d => f d - c) (by rw [e]; exact fun w => z (q.mp w))
end
section
/-! the component's inner methods, each with a general post -/
theorem bb_n0 : vp_nar .boolean 0 = 0 := by decide
theorem bb_n1 : vp_nar .boolean 1 = 1 := by decide
theorem bb_nz {x : Int32} (h : x = 0 ∨ x = 1) : vp_nar .boolean x = x := by
  cases h with
  | inl h => rw [h, bb_n0]
  | inr h => rw [h, bb_n1]
theorem bb_nle {x : Int32} {n : Int32} (h : n < x) : ¬ x ≤ n := Int32.not_le.mpr h
def bb_Sa (ac dy am o fl : Nat → Int32) (c a : Nat) : Prop := ∀ d, d < 48 → ¬ bb_w ac dy am o (nI a) (nI d) c < fl a
def bb_Sd (ac dy am o fl : Nat → Int32) (c : Nat) : Prop := ∀ a, a < 4 → bb_Sa ac dy am o fl c a
def bb_fr (x : Int32) : Int32 := if 0 ≤ x then x else 0
section
variable {c : Nat} {b cb : Int32} {ac dy am ox mk fl : Nat → Int32}
theorem bx_ga0 {post : Int32 → Prop} {a : Int32} (h : a < 0 ∨ nI 4 ≤ a) (hp : post 0) : wpX_goodAccount post (nI c, b, cb, ac, dy, am, ox, mk, fl) a := by
  unfold wpX_goodAccount
  exact br_c (fun _ => hp) (fun h0 => br_t (h.resolve_left h0) hp)
theorem bx_ga1 {post : Int32 → Prop} {a : Nat} (h : a < 4) (hp : post 1) : wpX_goodAccount post (nI c, b, cb, ac, dy, am, ox, mk, fl) (nI a) := by
  unfold wpX_goodAccount
  exact br_f (nI_pos (by omega)) (br_f (nI_ge (b := 4) h (by omega)) hp)
theorem bx_gd0 {post : Int32 → Prop} {a : Int32} (h : a < 0 ∨ nI 48 ≤ a) (hp : post 0) : wpX_goodDay post (nI c, b, cb, ac, dy, am, ox, mk, fl) a := by
  unfold wpX_goodDay
  exact br_c (fun _ => hp) (fun h0 => br_t (h.resolve_left h0) hp)
theorem bx_gd1 {post : Int32 → Prop} {a : Nat} (h : a < 48) (hp : post 1) : wpX_goodDay post (nI c, b, cb, ac, dy, am, ox, mk, fl) (nI a) := by
  unfold wpX_goodDay
  exact br_f (nI_pos (by omega)) (br_f (nI_ge (b := 48) h (by omega)) hp)
theorem bx_ge0 {post : Int32 → Prop} {a : Int32} (h : a < 0 ∨ nI c ≤ a) (hp : post 0) : wpX_goodEntry post (nI c, b, cb, ac, dy, am, ox, mk, fl) a := by
  unfold wpX_goodEntry
  exact br_c (fun _ => hp) (fun h0 => br_t (h.resolve_left h0) hp)
theorem bx_ge1 {post : Int32 → Prop} {a : Nat} (hc : c ≤ 60) (h : a < c) (hp : post 1) : wpX_goodEntry post (nI c, b, cb, ac, dy, am, ox, mk, fl) (nI a) := by
  unfold wpX_goodEntry
  exact br_f (nI_pos (by omega)) (br_f (nI_ge h (by omega)) hp)
theorem bx_gs0 {post : Int32 → Prop} {i l : Int32} (h : i < 0 ∨ l < i ∨ nI 48 ≤ l) (hp : post 0) : wpX_goodSpan post (nI c, b, cb, ac, dy, am, ox, mk, fl) i l := by
  unfold wpX_goodSpan
  exact br_c (fun _ => hp) (fun h0 => br_c (fun _ => hp) (fun h1 => br_t ((h.resolve_left h0).resolve_left h1) hp))
theorem bx_gs1 {post : Int32 → Prop} {i n : Nat} (h : i + n < 48) (hp : post 1) : wpX_goodSpan post (nI c, b, cb, ac, dy, am, ox, mk, fl) (nI i) (nI (i + n)) := by
  unfold wpX_goodSpan
  exact br_f (nI_pos (by omega)) (br_f (nI_nlt (by omega) (by omega)) (br_f (nI_ge (b := 48) h (by omega)) hp))
theorem bx_app {post : SX → Prop} {p0 p1 p2 : Int32} (hc : c < 60) (hp : post (nI (c + 1), b, cb, upd ac c p0, upd dy c p1, upd am c p2, upd ox c 0, mk, fl)) : wpX_append post (nI c, b, cb, ac, dy, am, ox, mk, fl) p0 p1 p2 := by
  have hi : vp_in (nI c) 60 := vp_in_nI hc (by omega)
  have ec : (nI c).toNatClampNeg = c := nI_clamp (by omega)
  unfold wpX_append
  exact ⟨hi, nm_r (by rw [ec]) ⟨hi, nm_r (by rw [ec]) ⟨hi, nm_r (by rw [ec]) ⟨hi, nm_r (by rw [ec, bb_n0]) (nm_r (nI_1 c) hp)⟩⟩⟩⟩
theorem bx_bal5 (hc : c ≤ 60) {post : Int32 → Prop} {a d : Int32} (h : post (bb_w ac dy am ox a d c)) : ∀ e j : Nat, j + e = c → wX_balanceOn_5 post a d (nI c) b cb ac dy am ox mk fl (e + 1) (bb_w ac dy am ox a d j) (nI j) := by
  intro e
  induction e with
  | zero =>
    intro j hj
    have hj' : j = c := by omega
    subst hj'
    exact br_t (nI_le (Nat.le_refl _) (by omega)) h
  | succ e ih =>
    intro j hj
    have h1 : ¬ nI c ≤ nI j := nI_ge (by omega) (by omega)
    have hi : vp_in (nI j) 60 := vp_in_nI (by omega) (by omega)
    have ec : (nI j).toNatClampNeg = j := nI_clamp (by omega)
    have hn := ih (j + 1) (by omega)
    refine br_f h1 ⟨hi, ?_⟩
    by_cases z1 : ac j = a
    · refine br_t (by rw [ec]; exact z1) ⟨hi, ?_⟩
      by_cases z2 : d < dy j
      · refine br_t (by rw [ec]; exact z2) (nm_r (nI_1 j) ?_)
        rw [bb_w_out (fun z => bb_nle z2 z.2.1)] at hn
        exact hn
      · refine br_f (by rw [ec]; exact z2) ⟨hi, ?_⟩
        by_cases z3 : ox j = 0
        · exact br_t (by rw [ec]; exact z3) ⟨hi, nm_r (by rw [ec, bb_w_in z1 (Int32.not_lt.mp z2) z3]) (nm_r (nI_1 j) hn)⟩
        · refine br_f (by rw [ec]; exact z3) (nm_r (nI_1 j) ?_)
          rw [bb_w_out (fun z => z3 z.2.2)] at hn
          exact hn
    · refine br_f (by rw [ec]; exact z1) (nm_r (nI_1 j) ?_)
      rw [bb_w_out (fun z => z1 z.1)] at hn
      exact hn
theorem bx_bal (hc : c ≤ 60) {post : Int32 → Prop} {a d : Int32} (h : post (bb_w ac dy am ox a d c)) : wpX_balanceOn post (nI c, b, cb, ac, dy, am, ox, mk, fl) a d := by
  unfold wpX_balanceOn
  exact ⟨c + 1, bx_bal5 hc h c 0 (by omega)⟩
theorem bx_lb13 (hc : c ≤ 60) {post : Int32 → Prop} {a : Int32} {i n : Nat} (hin : i + n < 48) (h : post (bb_m (fun d => bb_w ac dy am ox a (nI d) c) i n)) : ∀ e k : Nat, k + e = n → wX_leastBalance_13 post a (nI (i + n)) (nI c) b cb ac dy am ox mk fl (e + 1) (bb_m (fun d => bb_w ac dy am ox a (nI d) c) i k) (nI (i + (k + 1))) := by
  intro e
  induction e with
  | zero =>
    intro k hk
    have hk' : k = n := by omega
    subst hk'
    exact br_t (nI_lt (by omega) (by omega)) h
  | succ e ih =>
    intro k hk
    have hn := ih (k + 1) (by omega)
    refine br_f (nI_nlt (by omega) (by omega)) (bx_bal hc ?_)
    by_cases z : bb_w ac dy am ox a (nI (i + (k + 1))) c < bb_m (fun d => bb_w ac dy am ox a (nI d) c) i k
    · rw [bb_m_t (f := fun d => bb_w ac dy am ox a (nI d) c) z] at hn
      exact br_f (bb_nle z) (nm_r (nI_1 _) hn)
    · rw [bb_m_f (f := fun d => bb_w ac dy am ox a (nI d) c) z] at hn
      exact br_t (Int32.not_lt.mp z) (nm_r (nI_1 _) hn)
theorem bx_lb (hc : c ≤ 60) {post : Int32 → Prop} {a l : Int32} {i n : Nat} (hin : i + n < 48) (hl : l = nI (i + n)) (h : post (bb_m (fun d => bb_w ac dy am ox a (nI d) c) i n)) : wpX_leastBalance post (nI c, b, cb, ac, dy, am, ox, mk, fl) a (nI i) l := by
  subst hl
  unfold wpX_leastBalance
  exact bx_bal hc (nm_r (nI_1 i) ⟨n + 1, bx_lb13 hc hin h n 0 (by omega)⟩)
theorem bx_snd2 (hc : c ≤ 60) {post : Int32 → Prop} (h1 : bb_Sd ac dy am ox fl c → post 1) (h0 : ¬ bb_Sd ac dy am ox fl c → post 0) : ∀ e j : Nat, j + e = 4 → (∀ a, a < j → bb_Sa ac dy am ox fl c a) → wX_bookIsSound_2 post (nI c) b cb ac dy am ox mk fl (e + 1) (nI j) := by
  intro e
  induction e with
  | zero =>
    intro j hj hs
    have hj' : j = 4 := by omega
    subst hj'
    exact br_t (nI_le (a := 4) (b := 4) (by omega) (by omega)) (h1 hs)
  | succ e ih =>
    intro j hj hs
    have ec : (nI j).toNatClampNeg = j := nI_clamp (by omega)
    refine br_f (nI_ge (b := 4) (by omega) (by omega)) (bx_lb (i := 0) (n := 47) hc (by omega) rfl ⟨vp_in_nI (by omega) (by omega), ?_⟩)
    by_cases z : bb_m (fun d => bb_w ac dy am ox (nI j) (nI d) c) 0 47 < fl j
    · refine br_f (by rw [ec]; exact bb_nle z) (h0 fun H => ?_)
      obtain ⟨k, hk, w⟩ := (bb_m_lt 47).mp z
      rw [Nat.zero_add] at w
      exact H j (by omega) k (by omega) w
    · refine br_t (by rw [ec]; exact Int32.not_lt.mp z) (nm_r (nI_1 j) (ih (j + 1) (by omega) (fun a ha => ?_)))
      by_cases e1 : a = j
      · subst e1
        intro d hd w
        exact z ((bb_m_lt 47).mpr ⟨d, by omega, by rw [Nat.zero_add]; exact w⟩)
      · exact hs a (by omega)
theorem bx_snd (hc : c ≤ 60) {post : Int32 → Prop} (h1 : bb_Sd ac dy am ox fl c → post 1) (h0 : ¬ bb_Sd ac dy am ox fl c → post 0) : wpX_bookIsSound post (nI c, b, cb, ac, dy, am, ox, mk, fl) := by
  unfold wpX_bookIsSound
  exact ⟨5, bx_snd2 hc h1 h0 4 0 (by omega) (fun a ha => absurd ha (Nat.not_lt_zero a))⟩
theorem bx_mr0 (hc : c ≤ 60) (hb : b = 0) {post : Int32 → Prop} (h1 : bb_Sd ac dy am ox fl c → post 0) (h0 : ¬ bb_Sd ac dy am ox fl c → post 1) : wpX_mustRefuse post (nI c, b, cb, ac, dy, am, ox, mk, fl) := by
  unfold wpX_mustRefuse
  exact br_t hb (bx_snd hc (fun s => br_f (by decide) (h1 s)) (fun s => br_t rfl (h0 s)))
theorem bx_mr1 (hb : ¬ b = 0) {post : Int32 → Prop} (h : post 0) : wpX_mustRefuse post (nI c, b, cb, ac, dy, am, ox, mk, fl) := by
  unfold wpX_mustRefuse
  exact br_f hb h
theorem bx_ff (hc : c ≤ 60) {post : Int32 → Prop} {a i n : Nat} (ha : a < 4) (hin : i + n = 47) (h : post (bb_fr (bb_m (fun d => bb_w ac dy am ox (nI a) (nI d) c) i n - fl a))) : wpX_freeFrom post (nI c, b, cb, ac, dy, am, ox, mk, fl) (nI a) (nI i) := by
  have ec : (nI a).toNatClampNeg = a := nI_clamp (by omega)
  unfold wpX_freeFrom
  refine bx_lb (n := n) hc (by omega) (by rw [hin]; rfl) ⟨vp_in_nI ha (by omega), nm_r (by rw [ec]) ?_⟩
  unfold bb_fr at h
  by_cases z : 0 ≤ bb_m (fun d => bb_w ac dy am ox (nI a) (nI d) c) i n - fl a
  · rw [if_pos z] at h
    exact br_t z h
  · rw [if_neg z] at h
    exact br_f z h
end
end
section
/-! the reference's inner methods, told in the component's list of cancelled entries (ox), which agrees with oy below c -/
theorem bb_l4 {x : Int32} (h : nI 4 ≤ x) : ¬ x ≤ 3 := fun g => absurd (Int32.le_trans h g) (by decide)
theorem bb_l48 {x : Int32} (h : nI 48 ≤ x) : ¬ x ≤ 47 := fun g => absurd (Int32.le_trans h g) (by decide)
section
variable {c : Nat} {b cb : Int32} {ac dy am ox oy fl ob : Nat → Int32}
theorem by_ba0 {post : Int32 → Prop} {a : Int32} (h : a < 0 ∨ nI 4 ≤ a) (hp : post 1) : wpY_bad post (nI c, b, cb, ac, dy, am, oy, fl, ob) a := by
  unfold wpY_bad
  exact br_c (fun _ => hp) (fun h0 => br_f (bb_l4 (h.resolve_left h0)) hp)
theorem by_ba1 {post : Int32 → Prop} {a : Nat} (h : a < 4) (hp : post 0) : wpY_bad post (nI c, b, cb, ac, dy, am, oy, fl, ob) (nI a) := by
  unfold wpY_bad
  exact br_f (nI_pos (by omega)) (br_t (nI_le (b := 3) (by omega) (by omega)) hp)
theorem by_bd0 {post : Int32 → Prop} {a : Int32} (h : a < 0 ∨ nI 48 ≤ a) (hp : post 1) : wpY_badDay post (nI c, b, cb, ac, dy, am, oy, fl, ob) a := by
  unfold wpY_badDay
  exact br_c (fun _ => hp) (fun h0 => br_f (bb_l48 (h.resolve_left h0)) hp)
theorem by_bd1 {post : Int32 → Prop} {a : Nat} (h : a < 48) (hp : post 0) : wpY_badDay post (nI c, b, cb, ac, dy, am, oy, fl, ob) (nI a) := by
  unfold wpY_badDay
  exact br_f (nI_pos (by omega)) (br_t (nI_le (b := 47) (by omega) (by omega)) hp)
theorem by_be0 {post : Int32 → Prop} {a : Int32} (h : a < 0 ∨ nI c ≤ a) (hp : post 1) : wpY_badEntry post (nI c, b, cb, ac, dy, am, oy, fl, ob) a := by
  unfold wpY_badEntry
  exact br_c (fun _ => hp) (fun h0 => br_t (h.resolve_left h0) hp)
theorem by_be1 {post : Int32 → Prop} {a : Nat} (hc : c ≤ 60) (h : a < c) (hp : post 0) : wpY_badEntry post (nI c, b, cb, ac, dy, am, oy, fl, ob) (nI a) := by
  unfold wpY_badEntry
  exact br_f (nI_pos (by omega)) (br_f (nI_ge h (by omega)) (br_t (nI_lt (b := 60) (by omega) (by omega)) hp))
theorem by_bs0 {post : Int32 → Prop} {i l : Int32} (h : i < 0 ∨ l < i ∨ nI 48 ≤ l) (hp : post 1) : wpY_badStretch post (nI c, b, cb, ac, dy, am, oy, fl, ob) i l := by
  unfold wpY_badStretch
  exact br_c (fun _ => hp) (fun h0 => br_c (fun _ => hp) (fun h1 => br_f (bb_l48 ((h.resolve_left h0).resolve_left h1)) hp))
theorem by_bs1 {post : Int32 → Prop} {i n : Nat} (h : i + n < 48) (hp : post 0) : wpY_badStretch post (nI c, b, cb, ac, dy, am, oy, fl, ob) (nI i) (nI (i + n)) := by
  unfold wpY_badStretch
  exact br_f (nI_pos (by omega)) (br_f (nI_nlt (by omega) (by omega)) (br_t (nI_le (b := 47) (by omega) (by omega)) hp))
theorem by_put {post : SY → Prop} {p0 p1 p2 : Int32} (hc : c < 60) (hp : post (nI (c + 1), b, cb, upd ac c p0, upd dy c p1, upd am c p2, upd oy c 0, fl, ob)) : wpY_put post (nI c, b, cb, ac, dy, am, oy, fl, ob) p0 p1 p2 := by
  have hi : vp_in (nI c) 60 := vp_in_nI hc (by omega)
  have ec : (nI c).toNatClampNeg = c := nI_clamp (by omega)
  unfold wpY_put
  exact br_t (nI_lt (b := 60) hc (by omega)) ⟨hi, nm_r (by rw [ec]) ⟨hi, nm_r (by rw [ec]) ⟨hi, nm_r (by rw [ec]) ⟨hi, nm_r (by rw [ec, bb_n0]) (nm_r (nI_1 c) hp)⟩⟩⟩⟩
theorem by_w5 (hc : c ≤ 60) (ho : ∀ j, j < c → ox j = oy j) {post : Int32 → Prop} {a d : Int32} (h : post (bb_w ac dy am ox a d c)) : ∀ e j : Nat, j + e = c → wY_worth_5 post a d (nI c) b cb ac dy am oy fl ob (e + 1) (bb_w ac dy am ox a d j) (nI j) := by
  intro e
  induction e with
  | zero =>
    intro j hj
    have hj' : j = c := by omega
    subst hj'
    exact br_t (nI_le (Nat.le_refl _) (by omega)) h
  | succ e ih =>
    intro j hj
    have h1 : ¬ nI c ≤ nI j := nI_ge (by omega) (by omega)
    have h2 : ¬ (60 : Int32) ≤ nI j := nI_ge (b := 60) (by omega) (by omega)
    have hi : vp_in (nI j) 60 := vp_in_nI (by omega) (by omega)
    have ec : (nI j).toNatClampNeg = j := nI_clamp (by omega)
    have hn := ih (j + 1) (by omega)
    have eo := ho j (by omega)
    refine br_f h1 (br_f h2 ⟨hi, ?_⟩)
    by_cases z3 : ox j = 0
    · refine br_t (by rw [ec, ← eo]; exact z3) ⟨hi, ?_⟩
      by_cases z1 : ac j = a
      · refine br_t (by rw [ec]; exact z1) ⟨hi, ?_⟩
        by_cases z2 : d < dy j
        · refine br_t (by rw [ec]; exact z2) (nm_r (nI_1 j) ?_)
          rw [bb_w_out (fun z => bb_nle z2 z.2.1)] at hn
          exact hn
        · exact br_f (by rw [ec]; exact z2) ⟨hi, nm_r (by rw [ec, bb_w_in z1 (Int32.not_lt.mp z2) z3]) (nm_r (nI_1 j) hn)⟩
      · refine br_f (by rw [ec]; exact z1) (nm_r (nI_1 j) ?_)
        rw [bb_w_out (fun z => z1 z.1)] at hn
        exact hn
    · refine br_f (by rw [ec, ← eo]; exact z3) (nm_r (nI_1 j) ?_)
      rw [bb_w_out (fun z => z3 z.2.2)] at hn
      exact hn
theorem by_w (hc : c ≤ 60) (ho : ∀ j, j < c → ox j = oy j) {post : Int32 → Prop} {a d : Int32} (h : post (bb_w ac dy am ox a d c)) : wpY_worth post (nI c, b, cb, ac, dy, am, oy, fl, ob) a d := by
  unfold wpY_worth
  exact ⟨c + 1, by_w5 hc ho h c 0 (by omega)⟩
theorem by_h2 (hc : c ≤ 60) (ho : ∀ j, j < c → ox j = oy j) {post : Int32 → Prop} {a : Nat} (ha : a < 4) (h1 : bb_Sa ac dy am ox fl c a → post 1) (h0 : ¬ bb_Sa ac dy am ox fl c a → post 0) : ∀ e j : Nat, j + e = 48 → (∀ d, d < j → ¬ bb_w ac dy am ox (nI a) (nI d) c < fl a) → wY_holds_2 post (nI a) (nI c) b cb ac dy am oy fl ob (e + 1) (nI j) := by
  intro e
  have ec : (nI a).toNatClampNeg = a := nI_clamp (by omega)
  induction e with
  | zero =>
    intro j hj hs
    have hj' : j = 48 := by omega
    subst hj'
    exact br_t (nI_le (a := 48) (b := 48) (by omega) (by omega)) (h1 hs)
  | succ e ih =>
    intro j hj hs
    refine br_f (nI_ge (b := 48) (by omega) (by omega)) (by_w hc ho ⟨vp_in_nI ha (by omega), ?_⟩)
    by_cases z : bb_w ac dy am ox (nI a) (nI j) c < fl a
    · exact br_f (by rw [ec]; exact bb_nle z) (h0 fun H => H j (by omega) z)
    · refine br_t (by rw [ec]; exact Int32.not_lt.mp z) (nm_r (nI_1 j) (ih (j + 1) (by omega) (fun d hd => ?_)))
      by_cases e1 : d = j
      · subst e1; exact z
      · exact hs d (by omega)
theorem by_h (hc : c ≤ 60) (ho : ∀ j, j < c → ox j = oy j) {post : Int32 → Prop} (a : Nat) (ha : a < 4) (h1 : bb_Sa ac dy am ox fl c a → post 1) (h0 : ¬ bb_Sa ac dy am ox fl c a → post 0) : wpY_holds post (nI c, b, cb, ac, dy, am, oy, fl, ob) (nI a) := by
  unfold wpY_holds
  exact ⟨49, by_h2 hc ho ha h1 h0 48 0 (by omega) (fun d hd => absurd hd (Nat.not_lt_zero d))⟩
theorem by_snd (hc : c ≤ 60) (ho : ∀ j, j < c → ox j = oy j) {post : Int32 → Prop} (h1 : bb_Sd ac dy am ox fl c → post 1) (h0 : ¬ bb_Sd ac dy am ox fl c → post 0) : wpY_allSound post (nI c, b, cb, ac, dy, am, oy, fl, ob) := by
  unfold wpY_allSound
  refine by_h hc ho 0 (by omega) (fun s0 => br_f (by decide) ?_) (fun s => br_t rfl (h0 fun H => s (H 0 (by omega))))
  refine by_h hc ho 1 (by omega) (fun s1 => br_f (by decide) ?_) (fun s => br_t rfl (h0 fun H => s (H 1 (by omega))))
  refine by_h hc ho 2 (by omega) (fun s2 => br_f (by decide) ?_) (fun s => br_t rfl (h0 fun H => s (H 2 (by omega))))
  refine by_h hc ho 3 (by omega) (fun s3 => br_f (by decide) ?_) (fun s => br_t rfl (h0 fun H => s (H 3 (by omega))))
  refine h1 fun a ha => ?_
  by_cases e0 : a = 0
  · subst e0; exact s0
  by_cases e1 : a = 1
  · subst e1; exact s1
  by_cases e2 : a = 2
  · subst e2; exact s2
  have e3 : a = 3 := by omega
  subst e3
  exact s3
theorem by_lo34 (hc : c ≤ 60) (ho : ∀ j, j < c → ox j = oy j) {post : Int32 → Prop} {a : Int32} {i n : Nat} (hin : i + n < 48) (h : post (bb_m (fun d => bb_w ac dy am ox a (nI d) c) i n)) : ∀ e k : Nat, k + e = n → wY_lowest_34 post a (nI (i + n)) (nI c) b cb ac dy am oy fl ob (e + 1) (bb_m (fun d => bb_w ac dy am ox a (nI d) c) i k) (nI (i + (k + 1))) := by
  intro e
  induction e with
  | zero =>
    intro k hk
    have hk' : k = n := by omega
    subst hk'
    exact br_t (nI_lt (by omega) (by omega)) h
  | succ e ih =>
    intro k hk
    have hn := ih (k + 1) (by omega)
    refine br_f (nI_nlt (by omega) (by omega)) (by_w hc ho ?_)
    by_cases z : bb_w ac dy am ox a (nI (i + (k + 1))) c < bb_m (fun d => bb_w ac dy am ox a (nI d) c) i k
    · rw [bb_m_t (f := fun d => bb_w ac dy am ox a (nI d) c) z] at hn
      exact br_f (bb_nle z) (nm_r (nI_1 _) hn)
    · rw [bb_m_f (f := fun d => bb_w ac dy am ox a (nI d) c) z] at hn
      exact br_t (Int32.not_lt.mp z) (nm_r (nI_1 _) hn)
theorem by_lo (hc : c ≤ 60) (ho : ∀ j, j < c → ox j = oy j) {post : Int32 → Prop} {a : Int32} {i n : Nat} (hin : i + n < 48) (h : post (bb_m (fun d => bb_w ac dy am ox a (nI d) c) i n)) : ∃ m : Nat, wY_lowest_34 post a (nI (i + n)) (nI c) b cb ac dy am oy fl ob m (bb_w ac dy am ox a (nI i) c) (nI i) := by
  refine ⟨n + 1 + 1, br_f (nI_nlt (by omega) (by omega)) (by_w hc ho (br_t (Int32.le_refl _) (nm_r (nI_1 i) ?_)))⟩
  exact by_lo34 hc ho hin h n 0 (by omega)
theorem by_sp17 (hc : c ≤ 60) (ho : ∀ j, j < c → ox j = oy j) {post : Int32 → Prop} {a i n : Nat} (ha : a < 4) (hin : i + n = 47) (h : post (bb_fr (bb_m (fun d => bb_w ac dy am ox (nI a) (nI d) c - fl a) i n))) : ∀ e k : Nat, k + e = n → wY_spare_17 post (nI a) (nI c) b cb ac dy am oy fl ob (e + 1) (bb_m (fun d => bb_w ac dy am ox (nI a) (nI d) c - fl a) i k) (nI (i + (k + 1))) := by
  intro e
  have ec : (nI a).toNatClampNeg = a := nI_clamp (by omega)
  induction e with
  | zero =>
    intro k hk
    have hk' : k = n := by omega
    subst hk'
    refine br_t (nI_le (a := 48) (by omega) (by omega)) ?_
    unfold bb_fr at h
    by_cases z : 0 ≤ bb_m (fun d => bb_w ac dy am ox (nI a) (nI d) c - fl a) i k
    · rw [if_pos z] at h
      exact br_t z h
    · rw [if_neg z] at h
      exact br_f z h
  | succ e ih =>
    intro k hk
    have hn := ih (k + 1) (by omega)
    refine br_f (nI_ge (b := 48) (by omega) (by omega)) (by_w hc ho ⟨vp_in_nI ha (by omega), nm_r (by rw [ec]) ?_⟩)
    by_cases z : bb_w ac dy am ox (nI a) (nI (i + (k + 1))) c - fl a < bb_m (fun d => bb_w ac dy am ox (nI a) (nI d) c - fl a) i k
    · rw [bb_m_t (f := fun d => bb_w ac dy am ox (nI a) (nI d) c - fl a) z] at hn
      exact br_f (bb_nle z) (nm_r (nI_1 _) hn)
    · rw [bb_m_f (f := fun d => bb_w ac dy am ox (nI a) (nI d) c - fl a) z] at hn
      exact br_t (Int32.not_lt.mp z) (nm_r (nI_1 _) hn)
theorem by_sp (hc : c ≤ 60) (ho : ∀ j, j < c → ox j = oy j) {post : Int32 → Prop} {a i n : Nat} (ha : a < 4) (hin : i + n = 47) (h : post (bb_fr (bb_m (fun d => bb_w ac dy am ox (nI a) (nI d) c - fl a) i n))) : wpY_spare post (nI c, b, cb, ac, dy, am, oy, fl, ob) (nI a) (nI i) := by
  have ec : (nI a).toNatClampNeg = a := nI_clamp (by omega)
  unfold wpY_spare
  refine by_w hc ho ⟨vp_in_nI ha (by omega), nm_r (e' := bb_w ac dy am ox (nI a) (nI i) c - fl a) (by rw [ec]) ⟨n + 1 + 1, br_f (nI_ge (b := 48) (by omega) (by omega)) (by_w hc ho ⟨vp_in_nI ha (by omega), nm_r (e' := bb_w ac dy am ox (nI a) (nI i) c - fl a) (by rw [ec]) (br_t (Int32.le_refl _) (nm_r (nI_1 i) ?_))⟩)⟩⟩
  exact by_sp17 hc ho ha hin h n 0 (by omega)
end
end
section
/-! the relation -/
def bb_Z (f : Nat → Int32) : Prop := ∀ j, f j = 0 ∨ f j = 1
def bb_R (c cb : Nat) (b : Int32) (am fl ox mk oy ob : Nat → Int32) : Prop :=
  c ≤ 60 ∧ (b = 0 ∨ b = 1) ∧ (∀ j, bb_B (am j)) ∧ (∀ j, bb_B (fl j)) ∧ (∀ j, j < c → ox j = oy j) ∧ bb_Z oy ∧ bb_Z ob ∧ (¬ b = 0 → cb ≤ c ∧ ∀ j, j < cb → (mk j = 0 → ob j = ox j) ∧ (¬ mk j = 0 → ob j = 0))
/-- the two books: the same count, batch, list and floors; the cancelled ones agree below the count; in a batch the component's marks tell the reference's copy -/
def i_Rel (_ : Nat) (u : SX) (v : SY) : Prop :=
  ∃ (c cb : Nat) (b : Int32) (ac dy am fl ox mk oy ob : Nat → Int32), u = (nI c, b, nI cb, ac, dy, am, ox, mk, fl) ∧ v = (nI c, b, nI cb, ac, dy, am, oy, fl, ob) ∧ bb_R c cb b am fl ox mk oy ob
theorem i_up {k : Nat} {u : SX} {v : SY} (h : i_Rel k u v) : i_Rel (k + 4) u v := h
theorem bb_B0 : bb_B 0 := by unfold bb_B; decide
theorem i_vc0 : wpX_init (fun u => wpY_init (fun v => i_Rel 0 u v)) :=
  ⟨0, 0, 0, fun _ => 0, fun _ => 0, fun _ => 0, fun _ => 0, fun _ => 0, fun _ => 0, fun _ => 0, fun _ => 0, rfl, rfl, by omega, Or.inl rfl, fun _ => bb_B0, fun _ => bb_B0, fun _ _ => rfl, fun _ => Or.inl rfl, fun _ => Or.inl rfl, fun h => absurd rfl h⟩
theorem bb_span (i l : Int32) : (i < 0 ∨ l < i ∨ nI 48 ≤ l) ∨ ∃ p n : Nat, p + n < 48 ∧ i = nI p ∧ l = nI (p + n) := by
  by_cases h0 : i < 0
  · exact Or.inl (Or.inl h0)
  by_cases h1 : l < i
  · exact Or.inl (Or.inr (Or.inl h1))
  obtain ⟨p, hp, rfl⟩ := nI_of h0
  have hl : ¬ l < 0 := by
    intro h
    apply h1
    rw [Int32.lt_iff_toInt_lt] at h ⊢
    rw [nI_toInt hp]
    have e : (0 : Int32).toInt = 0 := by decide
    omega
  obtain ⟨q, hq, rfl⟩ := nI_of hl
  rw [nI_ltI hq hp] at h1
  by_cases h2 : q < 48
  · exact Or.inr ⟨p, q - p, by omega, rfl, by rw [Nat.add_sub_cancel' (by omega)]⟩
  · exact Or.inl (Or.inr (Or.inr (nI_le (by omega) hq)))
theorem bb_ix (x : Int32) {n : Nat} (hn : n < 2 ^ 31) : (x < 0 ∨ nI n ≤ x) ∨ ∃ j : Nat, j < n ∧ x = nI j := by
  rcases pk_ix x hn with h | h | h
  · exact Or.inl (Or.inl h)
  · exact Or.inl (Or.inr h)
  · exact Or.inr h
/-- the two ways to reckon what is free -/
theorem bb_free {c : Nat} {ac dy am ox fl : Nat → Int32} {a i n : Nat} (hc : c ≤ 60) (hm : ∀ j, bb_B (am j)) (hf : bb_B (fl a)) : bb_m (fun d => bb_w ac dy am ox (nI a) (nI d) c - fl a) i n = bb_m (fun d => bb_w ac dy am ox (nI a) (nI d) c) i n - fl a := by
  refine bb_m_sub (f := fun d => bb_w ac dy am ox (nI a) (nI d) c) hf n (fun k _ => ?_)
  have h := bb_w_bd (ac := ac) (dy := dy) (am := am) (off := ox) (a := nI a) (d := nI (i + k)) hm c hc
  omega
/-! scans in lockstep -/
section
variable {c : Nat} {b cb : Int32} {ac dy am ox mk fl oy ob : Nat → Int32}
theorem bz_tot (hc : c ≤ 60) (ho : ∀ j, j < c → ox j = oy j) {a : Int32} {l : Nat} (hl : l < 48) : ∀ (e j : Nat) (s : Int32), j + e = l + 1 → ∃ r : Int32, (∀ post : Int32 → Prop, post r → wX_total_26 post a (nI l) (nI c) b cb ac dy am ox mk fl (e + 1) s (nI j)) ∧ (∀ post : Int32 → Prop, post r → wY_total_26 post a (nI l) (nI c) b cb ac dy am oy fl ob (e + 1) s (nI j)) := by
  intro e
  induction e with
  | zero =>
    intro j s hj
    have h : nI l < nI j := nI_lt (by omega) (by omega)
    exact ⟨s, fun _ hp => br_t h hp, fun _ hp => br_t h hp⟩
  | succ e ih =>
    intro j s hj
    have h : ¬ nI l < nI j := nI_nlt (by omega) (by omega)
    obtain ⟨r, hX, hY⟩ := ih (j + 1) (s + bb_w ac dy am ox a (nI j) c) (by omega)
    exact ⟨r, fun post hp => br_f h (bx_bal hc (nm_e (nm_r (nI_1 j) (hX post hp)))), fun post hp => br_f h (by_w hc ho (nm_e (nm_r (nI_1 j) (hY post hp))))⟩
theorem bz_fb (hc : c ≤ 60) (ho : ∀ j, j < c → ox j = oy j) {a x : Int32} : ∀ (e j : Nat), j + e = 48 → ∃ r : Int32, (∀ post : Int32 → Prop, post r → wX_firstBelow_24 post a x (nI c) b cb ac dy am ox mk fl (e + 1) (nI j)) ∧ (∀ post : Int32 → Prop, post r → wY_firstBelow_24 post a x (nI c) b cb ac dy am oy fl ob (e + 1) (nI j)) := by
  intro e
  induction e with
  | zero =>
    intro j hj
    have h : (48 : Int32) ≤ nI j := nI_le (a := 48) (by omega) (by omega)
    exact ⟨-3, fun _ hp => br_t h hp, fun _ hp => br_t h hp⟩
  | succ e ih =>
    intro j hj
    have h : ¬ (48 : Int32) ≤ nI j := nI_ge (b := 48) (by omega) (by omega)
    by_cases z : x ≤ bb_w ac dy am ox a (nI j) c
    · obtain ⟨r, hX, hY⟩ := ih (j + 1) (by omega)
      exact ⟨r, fun post hp => br_f h (bx_bal hc (br_t z (nm_r (nI_1 j) (hX post hp)))), fun post hp => br_f h (by_w hc ho (br_t z (nm_r (nI_1 j) (hY post hp))))⟩
    · exact ⟨nI j, fun post hp => br_f h (bx_bal hc (br_f z hp)), fun post hp => br_f h (by_w hc ho (br_f z hp))⟩
theorem bz_db (hc : c ≤ 60) (ho : ∀ j, j < c → ox j = oy j) {a x : Int32} : ∀ (e j : Nat) (s : Int32), j + e = 48 → ∃ r : Int32, (∀ post : Int32 → Prop, post r → wX_daysBelow_15 post a x (nI c) b cb ac dy am ox mk fl (e + 1) s (nI j)) ∧ (∀ post : Int32 → Prop, post r → wY_daysBelow_15 post a x (nI c) b cb ac dy am oy fl ob (e + 1) s (nI j)) := by
  intro e
  induction e with
  | zero =>
    intro j s hj
    have h : (48 : Int32) ≤ nI j := nI_le (a := 48) (by omega) (by omega)
    exact ⟨s, fun _ hp => br_t h hp, fun _ hp => br_t h hp⟩
  | succ e ih =>
    intro j s hj
    have h : ¬ (48 : Int32) ≤ nI j := nI_ge (b := 48) (by omega) (by omega)
    by_cases z : x ≤ bb_w ac dy am ox a (nI j) c
    · obtain ⟨r, hX, hY⟩ := ih (j + 1) s (by omega)
      exact ⟨r, fun post hp => br_f h (bx_bal hc (br_t z (nm_r (nI_1 j) (hX post hp)))), fun post hp => br_f h (by_w hc ho (br_t z (nm_r (nI_1 j) (hY post hp))))⟩
    · obtain ⟨r, hX, hY⟩ := ih (j + 1) (s + 1) (by omega)
      exact ⟨r, fun post hp => br_f h (bx_bal hc (br_f z (nm_e (nm_r (nI_1 j) (hX post hp))))), fun post hp => br_f h (by_w hc ho (br_f z (nm_e (nm_r (nI_1 j) (hY post hp)))))⟩
theorem bz_ff (hc : c ≤ 60) (ho : ∀ j, j < c → ox j = oy j) (hm : ∀ j, bb_B (am j)) (hf : ∀ j, bb_B (fl j)) {a : Nat} (ha : a < 4) {x : Int32} : ∀ (e j : Nat), j + e = 48 → ∃ r : Int32, (∀ post : Int32 → Prop, post r → wX_firstFree_26 post (nI a) x (nI c) b cb ac dy am ox mk fl (e + 1) (nI j)) ∧ (∀ post : Int32 → Prop, post r → wY_firstFree_26 post (nI a) x (nI c) b cb ac dy am oy fl ob (e + 1) (nI j)) := by
  intro e
  induction e with
  | zero =>
    intro j hj
    have h : (48 : Int32) ≤ nI j := nI_le (a := 48) (by omega) (by omega)
    exact ⟨-3, fun _ hp => br_t h hp, fun _ hp => br_t h hp⟩
  | succ e ih =>
    intro j hj
    have h : ¬ (48 : Int32) ≤ nI j := nI_ge (b := 48) (by omega) (by omega)
    have q := bb_free (ac := ac) (dy := dy) (ox := ox) (i := j) (n := e) hc hm (hf a)
    by_cases z : bb_fr (bb_m (fun d => bb_w ac dy am ox (nI a) (nI d) c) j e - fl a) < x
    · obtain ⟨r, hX, hY⟩ := ih (j + 1) (by omega)
      refine ⟨r, fun post hp => br_f h (bx_ff (n := e) hc ha (by omega) (br_t z (nm_r (nI_1 j) (hX post hp)))), fun post hp => br_f h (by_sp (n := e) hc ho ha (by omega) (br_t ?_ (nm_r (nI_1 j) (hY post hp))))⟩
      rw [q]
      exact z
    · refine ⟨nI j, fun post hp => br_f h (bx_ff (n := e) hc ha (by omega) (br_f z hp)), fun post hp => br_f h (by_sp (n := e) hc ho ha (by omega) (br_f ?_ hp))⟩
      rw [q]
      exact z
end
end
section
/-! the questions -/
theorem i_vc_isOpen {k : Nat} {u : SX} {v : SY} (I : i_Rel k u v) (hk : k + 4 ≤ 2048) : wpX_isOpen (fun r => wpY_isOpen (fun r' => r' = r ∧ i_Rel (k + 4) u v) v) u := by
  have J := i_up I
  obtain ⟨c, cb, b, ac, dy, am, fl, ox, mk, oy, ob, rfl, rfl, hc, hb, hm, hf, ho, hz, hw, ht⟩ := I
  unfold wpX_isOpen wpY_isOpen
  exact br_c (fun h => br_t h ⟨rfl, J⟩) (fun h => br_f h ⟨rfl, J⟩)
theorem i_vc_entries {k : Nat} {u : SX} {v : SY} (I : i_Rel k u v) (hk : k + 4 ≤ 2048) : wpX_entries (fun r => wpY_entries (fun r' => r' = r ∧ i_Rel (k + 4) u v) v) u := by
  have J := i_up I
  obtain ⟨c, cb, b, ac, dy, am, fl, ox, mk, oy, ob, rfl, rfl, hc, hb, hm, hf, ho, hz, hw, ht⟩ := I
  unfold wpX_entries wpY_entries
  exact ⟨rfl, J⟩
theorem i_vc_cancelled {k : Nat} {u : SX} {v : SY} (I : i_Rel k u v) (hk : k + 4 ≤ 2048) (v1 : Int32) : wpX_cancelled (fun r => wpY_cancelled (fun r' => r' = r ∧ i_Rel (k + 4) u v) v v1) u v1 := by
  have J := i_up I
  obtain ⟨c, cb, b, ac, dy, am, fl, ox, mk, oy, ob, rfl, rfl, hc, hb, hm, hf, ho, hz, hw, ht⟩ := I
  unfold wpX_cancelled wpY_cancelled
  rcases bb_ix v1 (n := c) (by omega) with h | ⟨j, hj, rfl⟩
  · exact bx_ge0 h (br_t rfl (by_be0 h (br_f (by decide) ⟨rfl, J⟩)))
  · have hi : vp_in (nI j) 60 := vp_in_nI (by omega) (by omega)
    have ec : (nI j).toNatClampNeg = j := nI_clamp (by omega)
    have eo := ho j hj
    by_cases z : ox j = 0
    · exact bx_ge1 hc hj (br_f (by decide) ⟨hi, br_t (by rw [ec]; exact z) (by_be1 hc hj (br_t rfl ⟨hi, br_t (by rw [ec, ← eo]; exact z) ⟨rfl, J⟩⟩))⟩)
    · exact bx_ge1 hc hj (br_f (by decide) ⟨hi, br_f (by rw [ec]; exact z) (by_be1 hc hj (br_t rfl ⟨hi, br_f (by rw [ec, ← eo]; exact z) ⟨rfl, J⟩⟩))⟩)
theorem i_vc_amountOf {k : Nat} {u : SX} {v : SY} (I : i_Rel k u v) (hk : k + 4 ≤ 2048) (v1 : Int32) : wpX_amountOf (fun r => wpY_amountOf (fun r' => r' = r ∧ i_Rel (k + 4) u v) v v1) u v1 := by
  have J := i_up I
  obtain ⟨c, cb, b, ac, dy, am, fl, ox, mk, oy, ob, rfl, rfl, hc, hb, hm, hf, ho, hz, hw, ht⟩ := I
  unfold wpX_amountOf wpY_amountOf
  rcases bb_ix v1 (n := c) (by omega) with h | ⟨j, hj, rfl⟩
  · exact bx_ge0 h (br_t rfl (by_be0 h (br_f (by decide) ⟨rfl, J⟩)))
  · have hi : vp_in (nI j) 60 := vp_in_nI (by omega) (by omega)
    exact bx_ge1 hc hj (br_f (by decide) ⟨hi, by_be1 hc hj (br_t rfl ⟨hi, ⟨rfl, J⟩⟩)⟩)
theorem i_vc_sound {k : Nat} {u : SX} {v : SY} (I : i_Rel k u v) (hk : k + 4 ≤ 2048) : wpX_sound (fun r => wpY_sound (fun r' => r' = r ∧ i_Rel (k + 4) u v) v) u := by
  have J := i_up I
  obtain ⟨c, cb, b, ac, dy, am, fl, ox, mk, oy, ob, rfl, rfl, hc, hb, hm, hf, ho, hz, hw, ht⟩ := I
  unfold wpX_sound wpY_sound
  exact bx_snd hc (fun s => br_f (by decide) (by_snd hc ho (fun _ => br_f (by decide) ⟨rfl, J⟩) (fun t => absurd s t))) (fun s => br_t rfl (by_snd hc ho (fun t => absurd t s) (fun _ => br_t rfl ⟨rfl, J⟩)))
theorem i_vc_balance {k : Nat} {u : SX} {v : SY} (I : i_Rel k u v) (hk : k + 4 ≤ 2048) (v1 : Int32) (v2 : Int32) : wpX_balance (fun r => wpY_balance (fun r' => r' = r ∧ i_Rel (k + 4) u v) v v1 v2) u v1 v2 := by
  have J := i_up I
  obtain ⟨c, cb, b, ac, dy, am, fl, ox, mk, oy, ob, rfl, rfl, hc, hb, hm, hf, ho, hz, hw, ht⟩ := I
  unfold wpX_balance wpY_balance
  rcases bb_ix v1 (n := 4) (by omega) with h | ⟨a, ha, rfl⟩
  · exact bx_ga0 h (br_t rfl (by_ba0 h (br_f (by decide) ⟨rfl, J⟩)))
  rcases bb_ix v2 (n := 48) (by omega) with h | ⟨d, hd, rfl⟩
  · exact bx_ga1 ha (br_f (by decide) (bx_gd0 h (br_t rfl (by_ba1 ha (br_t rfl (by_bd0 h (br_f (by decide) ⟨rfl, J⟩)))))))
  · exact bx_ga1 ha (br_f (by decide) (bx_gd1 hd (br_f (by decide) (bx_bal hc (by_ba1 ha (br_t rfl (by_bd1 hd (br_t rfl (by_w hc ho ⟨rfl, J⟩)))))))))
theorem i_vc_lowest {k : Nat} {u : SX} {v : SY} (I : i_Rel k u v) (hk : k + 4 ≤ 2048) (v1 : Int32) (v2 : Int32) (v3 : Int32) : wpX_lowest (fun r => wpY_lowest (fun r' => r' = r ∧ i_Rel (k + 4) u v) v v1 v2 v3) u v1 v2 v3 := by
  have J := i_up I
  obtain ⟨c, cb, b, ac, dy, am, fl, ox, mk, oy, ob, rfl, rfl, hc, hb, hm, hf, ho, hz, hw, ht⟩ := I
  unfold wpX_lowest wpY_lowest
  rcases bb_ix v1 (n := 4) (by omega) with h | ⟨a, ha, rfl⟩
  · exact bx_ga0 h (br_t rfl (by_ba0 h (br_f (by decide) ⟨rfl, J⟩)))
  rcases bb_span v2 v3 with h | ⟨p, n, hpn, rfl, rfl⟩
  · exact bx_ga1 ha (br_f (by decide) (bx_gs0 h (br_t rfl (by_ba1 ha (br_t rfl (by_bs0 h (br_f (by decide) ⟨rfl, J⟩)))))))
  · exact bx_ga1 ha (br_f (by decide) (bx_gs1 hpn (br_f (by decide) (bx_lb hc hpn rfl (by_ba1 ha (br_t rfl (by_bs1 hpn (br_t rfl (by_w hc ho (by_lo hc ho hpn ⟨rfl, J⟩))))))))))
theorem i_vc_total {k : Nat} {u : SX} {v : SY} (I : i_Rel k u v) (hk : k + 4 ≤ 2048) (v1 : Int32) (v2 : Int32) (v3 : Int32) : wpX_total (fun r => wpY_total (fun r' => r' = r ∧ i_Rel (k + 4) u v) v v1 v2 v3) u v1 v2 v3 := by
  have J := i_up I
  obtain ⟨c, cb, b, ac, dy, am, fl, ox, mk, oy, ob, rfl, rfl, hc, hb, hm, hf, ho, hz, hw, ht⟩ := I
  unfold wpX_total wpY_total
  rcases bb_ix v1 (n := 4) (by omega) with h | ⟨a, ha, rfl⟩
  · exact bx_ga0 h (br_t rfl (by_ba0 h (br_f (by decide) ⟨rfl, J⟩)))
  rcases bb_span v2 v3 with h | ⟨p, n, hpn, rfl, rfl⟩
  · exact bx_ga1 ha (br_f (by decide) (bx_gs0 h (br_t rfl (by_ba1 ha (br_t rfl (by_bs0 h (br_f (by decide) ⟨rfl, J⟩)))))))
  · obtain ⟨r, hX, hY⟩ := bz_tot (b := b) (cb := nI cb) (ac := ac) (dy := dy) (am := am) (mk := mk) (fl := fl) (ob := ob) hc ho (a := nI a) hpn (n + 1) p 0 (by omega)
    exact bx_ga1 ha (br_f (by decide) (bx_gs1 hpn (br_f (by decide) ⟨_, hX _ (by_ba1 ha (br_t rfl (by_bs1 hpn (br_t rfl ⟨_, hY _ ⟨rfl, J⟩⟩))))⟩)))
theorem i_vc_firstBelow {k : Nat} {u : SX} {v : SY} (I : i_Rel k u v) (hk : k + 4 ≤ 2048) (v1 : Int32) (v2 : Int32) (v3 : Int32) : wpX_firstBelow (fun r => wpY_firstBelow (fun r' => r' = r ∧ i_Rel (k + 4) u v) v v1 v2 v3) u v1 v2 v3 := by
  have J := i_up I
  obtain ⟨c, cb, b, ac, dy, am, fl, ox, mk, oy, ob, rfl, rfl, hc, hb, hm, hf, ho, hz, hw, ht⟩ := I
  unfold wpX_firstBelow wpY_firstBelow
  rcases bb_ix v1 (n := 4) (by omega) with h | ⟨a, ha, rfl⟩
  · exact bx_ga0 h (br_t rfl (by_ba0 h (br_f (by decide) ⟨rfl, J⟩)))
  rcases bb_ix v2 (n := 48) (by omega) with h | ⟨d, hd, rfl⟩
  · exact bx_ga1 ha (br_f (by decide) (bx_gd0 h (br_t rfl (by_ba1 ha (br_t rfl (by_bd0 h (br_f (by decide) ⟨rfl, J⟩)))))))
  · obtain ⟨r, hX, hY⟩ := bz_fb (b := b) (cb := nI cb) (ac := ac) (dy := dy) (am := am) (mk := mk) (fl := fl) (ob := ob) hc ho (a := nI a) (x := v3) (48 - d) d (by omega)
    exact bx_ga1 ha (br_f (by decide) (bx_gd1 hd (br_f (by decide) ⟨_, hX _ (by_ba1 ha (br_t rfl (by_bd1 hd (br_t rfl ⟨_, hY _ ⟨rfl, J⟩⟩))))⟩)))
theorem i_vc_free {k : Nat} {u : SX} {v : SY} (I : i_Rel k u v) (hk : k + 4 ≤ 2048) (v1 : Int32) (v2 : Int32) : wpX_free (fun r => wpY_free (fun r' => r' = r ∧ i_Rel (k + 4) u v) v v1 v2) u v1 v2 := by
  have J := i_up I
  obtain ⟨c, cb, b, ac, dy, am, fl, ox, mk, oy, ob, rfl, rfl, hc, hb, hm, hf, ho, hz, hw, ht⟩ := I
  unfold wpX_free wpY_free
  rcases bb_ix v1 (n := 4) (by omega) with h | ⟨a, ha, rfl⟩
  · exact bx_ga0 h (br_t rfl (by_ba0 h (br_f (by decide) ⟨rfl, J⟩)))
  rcases bb_ix v2 (n := 48) (by omega) with h | ⟨d, hd, rfl⟩
  · exact bx_ga1 ha (br_f (by decide) (bx_gd0 h (br_t rfl (by_ba1 ha (br_t rfl (by_bd0 h (br_f (by decide) ⟨rfl, J⟩)))))))
  · have q := bb_free (ac := ac) (dy := dy) (ox := ox) (i := d) (n := 47 - d) hc hm (hf a)
    exact bx_ga1 ha (br_f (by decide) (bx_gd1 hd (br_f (by decide) (bx_ff (n := 47 - d) hc ha (by omega) (by_ba1 ha (br_t rfl (by_bd1 hd (br_t rfl (by_sp (n := 47 - d) hc ho ha (by omega) ⟨by rw [q], J⟩)))))))))
theorem i_vc_firstFree {k : Nat} {u : SX} {v : SY} (I : i_Rel k u v) (hk : k + 4 ≤ 2048) (v1 : Int32) (v2 : Int32) : wpX_firstFree (fun r => wpY_firstFree (fun r' => r' = r ∧ i_Rel (k + 4) u v) v v1 v2) u v1 v2 := by
  have J := i_up I
  obtain ⟨c, cb, b, ac, dy, am, fl, ox, mk, oy, ob, rfl, rfl, hc, hb, hm, hf, ho, hz, hw, ht⟩ := I
  unfold wpX_firstFree wpY_firstFree
  rcases bb_ix v1 (n := 4) (by omega) with h | ⟨a, ha, rfl⟩
  · exact bx_ga0 h (br_t rfl (by_ba0 h (br_f (by decide) ⟨rfl, J⟩)))
  by_cases h1 : v2 < 1
  · exact bx_ga1 ha (br_f (by decide) (br_t h1 (by_ba1 ha (br_t rfl (br_t h1 ⟨rfl, J⟩)))))
  by_cases h2 : v2 ≤ 1000000
  · obtain ⟨r, hX, hY⟩ := bz_ff (b := b) (cb := nI cb) (ac := ac) (dy := dy) (am := am) (mk := mk) (fl := fl) (ob := ob) hc ho hm hf ha (x := v2) 48 0 (by omega)
    exact bx_ga1 ha (br_f (by decide) (br_f h1 (br_t h2 ⟨_, hX _ (by_ba1 ha (br_t rfl (br_f h1 (br_t h2 ⟨_, hY _ ⟨rfl, J⟩⟩))))⟩)))
  · exact bx_ga1 ha (br_f (by decide) (br_f h1 (br_f h2 (by_ba1 ha (br_t rfl (br_f h1 (br_f h2 ⟨rfl, J⟩)))))))
theorem i_vc_daysBelow {k : Nat} {u : SX} {v : SY} (I : i_Rel k u v) (hk : k + 4 ≤ 2048) (v1 : Int32) (v2 : Int32) : wpX_daysBelow (fun r => wpY_daysBelow (fun r' => r' = r ∧ i_Rel (k + 4) u v) v v1 v2) u v1 v2 := by
  have J := i_up I
  obtain ⟨c, cb, b, ac, dy, am, fl, ox, mk, oy, ob, rfl, rfl, hc, hb, hm, hf, ho, hz, hw, ht⟩ := I
  unfold wpX_daysBelow wpY_daysBelow
  rcases bb_ix v1 (n := 4) (by omega) with h | ⟨a, ha, rfl⟩
  · exact bx_ga0 h (br_t rfl (by_ba0 h (br_f (by decide) ⟨rfl, J⟩)))
  · obtain ⟨r, hX, hY⟩ := bz_db (b := b) (cb := nI cb) (ac := ac) (dy := dy) (am := am) (mk := mk) (fl := fl) (ob := ob) hc ho (a := nI a) (x := v2) 48 0 0 (by omega)
    exact bx_ga1 ha (br_f (by decide) ⟨_, hX _ (by_ba1 ha (br_t rfl ⟨_, hY _ ⟨rfl, J⟩⟩))⟩)
end
section
/-! what keeps the relation -/
theorem bb_Bof {x : Int32} (h1 : ¬ x < -10000) (h2 : x ≤ 10000) : bb_B x := by
  rw [Int32.lt_iff_toInt_lt] at h1
  rw [Int32.le_iff_toInt_le] at h2
  have e1 : (-10000 : Int32).toInt = -10000 := by decide
  have e2 : (10000 : Int32).toInt = 10000 := by decide
  unfold bb_B
  omega
theorem bb_Bpos {x : Int32} (h1 : ¬ x < 1) (h2 : x ≤ 10000) : bb_B x ∧ bb_B (-x) := by
  rw [Int32.lt_iff_toInt_lt] at h1
  rw [Int32.le_iff_toInt_le] at h2
  have e1 : (1 : Int32).toInt = 1 := by decide
  have e2 : (10000 : Int32).toInt = 10000 := by decide
  unfold bb_B
  rw [Int32.toInt_neg, Int.bmod_eq_of_le (by omega) (by omega)]
  omega
theorem bb_Bu {f : Nat → Int32} {p : Nat} {x : Int32} (h : ∀ j, bb_B (f j)) (hx : bb_B x) : ∀ j, bb_B (upd f p x j) := by
  intro j
  by_cases e : j = p
  · subst e; rw [pk_us]; exact hx
  · rw [pk_un e]; exact h j
theorem bb_Zu {f : Nat → Int32} {p : Nat} {x : Int32} (h : bb_Z f) (hx : x = 0 ∨ x = 1) : bb_Z (upd f p x) := by
  intro j
  by_cases e : j = p
  · subst e; rw [pk_us]; exact hx
  · rw [pk_un e]; exact h j
section
variable {c cb : Nat} {b : Int32} {am fl ox mk oy ob : Nat → Int32}
/-- a write at or beyond the count -/
theorem bb_Rw {p : Nat} {x : Int32} (R : bb_R c cb b am fl ox mk oy ob) (hp : c ≤ p) (hx : bb_B x) : bb_R c cb b (upd am p x) fl (upd ox p 0) mk (upd oy p 0) ob := by
  obtain ⟨hc, hb, hm, hf, ho, hz, hw, ht⟩ := R
  refine ⟨hc, hb, bb_Bu hm hx, hf, fun j hj => ?_, bb_Zu hz (Or.inl rfl), hw, fun h => ⟨(ht h).1, fun j hj => ?_⟩⟩
  · rw [pk_un (by omega), pk_un (by omega)]
    exact ho j hj
  · have q := (ht h).1
    rw [pk_un (by omega)]
    exact (ht h).2 j hj
/-- one more entry -/
theorem bb_Ri (R : bb_R c cb b am fl ox mk oy ob) (hc : c < 60) (e : ox c = oy c) : bb_R (c + 1) cb b am fl ox mk oy ob := by
  obtain ⟨_, hb, hm, hf, ho, hz, hw, ht⟩ := R
  refine ⟨hc, hb, hm, hf, fun j hj => ?_, hz, hw, fun h => ⟨Nat.le_succ_of_le (ht h).1, (ht h).2⟩⟩
  by_cases q : j = c
  · subst q; exact e
  · exact ho j (by omega)
theorem bb_Rp {x : Int32} (R : bb_R c cb b am fl ox mk oy ob) (hc : c < 60) (hx : bb_B x) : bb_R (c + 1) cb b (upd am c x) fl (upd ox c 0) mk (upd oy c 0) ob :=
  bb_Ri (bb_Rw R (Nat.le_refl _) hx) hc (by rw [pk_us, pk_us])
theorem bb_Ro (R : bb_R c cb b am fl ox mk oy ob) : ∀ j, j < c → ox j = oy j := R.2.2.2.2.1
end
theorem i_vc_post {k : Nat} {u : SX} {v : SY} (I : i_Rel k u v) (hk : k + 4 ≤ 2048) (v1 : Int32) (v2 : Int32) (v3 : Int32) : wpX_post (fun r u' => wpY_post (fun r' v' => r' = r ∧ i_Rel (k + 4) u' v') v v1 v2 v3) u v1 v2 v3 := by
  have J := i_up I
  obtain ⟨c, cb, b, ac, dy, am, fl, ox, mk, oy, ob, rfl, rfl, R⟩ := I
  have hc : c ≤ 60 := R.1
  unfold wpX_post wpY_post
  rcases bb_ix v1 (n := 4) (by omega) with h | ⟨a, ha, rfl⟩
  · exact bx_ga0 h (br_t rfl (by_ba0 h (br_f (by decide) ⟨rfl, J⟩)))
  refine bx_ga1 ha (br_f (by decide) ?_)
  rcases bb_ix v2 (n := 48) (by omega) with h | ⟨d, hd, rfl⟩
  · exact bx_gd0 h (br_t rfl (by_ba1 ha (br_t rfl (by_bd0 h (br_f (by decide) ⟨rfl, J⟩)))))
  refine bx_gd1 hd (br_f (by decide) ?_)
  by_cases h1 : v3 = 0
  · exact br_t h1 (by_ba1 ha (br_t rfl (by_bd1 hd (br_t rfl (br_t h1 ⟨rfl, J⟩)))))
  by_cases h2 : v3 < -10000
  · exact br_f h1 (br_t h2 (by_ba1 ha (br_t rfl (by_bd1 hd (br_t rfl (br_f h1 (br_t h2 ⟨rfl, J⟩)))))))
  by_cases h3 : v3 ≤ 10000
  · refine br_f h1 (br_f h2 (br_t h3 ?_))
    by_cases h4 : c < 60
    · have hl : nI c < 60 := nI_lt (b := 60) h4 (by omega)
      have R1 := bb_Rp R h4 (bb_Bof h2 h3)
      have R0 := bb_Rw R (Nat.le_refl c) (bb_Bof h2 h3)
      refine br_t hl (bx_app h4 ?_)
      by_cases hb : b = 0
      · refine bx_mr0 R1.1 hb (fun s => br_t rfl ?_) (fun s => br_f (by decide) ?_)
        · refine by_ba1 ha (br_t rfl (by_bd1 hd (br_t rfl (br_f h1 (br_f h2 (br_t h3 (br_t hl (by_put h4 (br_t hb (by_snd R1.1 (bb_Ro R1) (fun _ => br_f (by decide) ?_) (fun t => absurd s t)))))))))))
          exact ⟨nI_pred c, _, _, _, _, _, _, _, _, _, _, _, rfl, rfl, R1⟩
        · refine by_ba1 ha (br_t rfl (by_bd1 hd (br_t rfl (br_f h1 (br_f h2 (br_t h3 (br_t hl (by_put h4 (br_t hb (by_snd R1.1 (bb_Ro R1) (fun t => absurd t s) (fun _ => br_t rfl (nm_r (nI_pred c) ?_))))))))))))
          exact ⟨rfl, _, _, _, _, _, _, _, _, _, _, _, rfl, rfl, R0⟩
      · refine bx_mr1 hb (br_t rfl ?_)
        refine by_ba1 ha (br_t rfl (by_bd1 hd (br_t rfl (br_f h1 (br_f h2 (br_t h3 (br_t hl (by_put h4 (br_f hb ?_)))))))))
        exact ⟨nI_pred c, _, _, _, _, _, _, _, _, _, _, _, rfl, rfl, R1⟩
    · have hl : ¬ nI c < 60 := nI_nlt (b := 60) (by omega) (by omega)
      exact br_f hl (by_ba1 ha (br_t rfl (by_bd1 hd (br_t rfl (br_f h1 (br_f h2 (br_t h3 (br_f hl ⟨rfl, J⟩))))))))
  · exact br_f h1 (br_f h2 (br_f h3 (by_ba1 ha (br_t rfl (by_bd1 hd (br_t rfl (br_f h1 (br_f h2 (br_f h3 ⟨rfl, J⟩)))))))))
theorem bb_p2 (c : Nat) : nI (c + 1 + 1) - 2 = nI c := by
  have h := pk_sub (a := c + 1 + 1) (b := 2) (by omega)
  rw [show c + 1 + 1 - 2 = c from by omega] at h
  exact h
theorem bb_16 {x : Int32} (h : x < 16) : ¬ 15 < x := by
  rw [Int32.lt_iff_toInt_lt] at h ⊢
  have e1 : (16 : Int32).toInt = 16 := by decide
  have e2 : (15 : Int32).toInt = 15 := by decide
  omega
theorem bb_15 {x : Int32} (h : ¬ x < 16) : 15 < x := by
  rw [Int32.lt_iff_toInt_lt] at h ⊢
  have e1 : (16 : Int32).toInt = 16 := by decide
  have e2 : (15 : Int32).toInt = 15 := by decide
  omega
theorem bb_40 : ¬ (4 : Int32) = 0 := by decide
theorem i_vc_transfer {k : Nat} {u : SX} {v : SY} (I : i_Rel k u v) (hk : k + 4 ≤ 2048) (v1 : Int32) (v2 : Int32) (v3 : Int32) : wpX_transfer (fun r u' => wpY_transfer (fun r' v' => r' = r ∧ i_Rel (k + 4) u' v') v v1 v2 v3) u v1 v2 v3 := by
  have J := i_up I
  obtain ⟨c, cb, b, ac, dy, am, fl, ox, mk, oy, ob, rfl, rfl, R⟩ := I
  have hc : c ≤ 60 := R.1
  unfold wpX_transfer wpY_transfer
  by_cases g0 : v1 < 0
  · exact br_t g0 (br_t g0 ⟨rfl, J⟩)
  by_cases g1 : v1 < 16
  · have g2 := bb_16 g1
    refine br_f g0 (br_t g1 ⟨bb_40, nm_e ⟨bb_40, nm_e ?_⟩⟩)
    by_cases g3 : v1 / 4 = v1 - v1 / 4 * 4
    · exact br_t g3 (br_f g0 (br_f g2 ⟨bb_40, bb_40, br_t g3 ⟨rfl, J⟩⟩))
    refine br_f g3 ?_
    rcases bb_ix v2 (n := 48) (by omega) with h | ⟨d, hd, rfl⟩
    · exact bx_gd0 h (br_t rfl (br_f g0 (br_f g2 ⟨bb_40, bb_40, br_f g3 (by_bd0 h (br_f (by decide) ⟨rfl, J⟩))⟩)))
    refine bx_gd1 hd (br_f (by decide) ?_)
    by_cases h2 : v3 < 1
    · exact br_t h2 (br_f g0 (br_f g2 ⟨bb_40, bb_40, br_f g3 (by_bd1 hd (br_t rfl (br_t h2 ⟨rfl, J⟩)))⟩))
    by_cases h3 : v3 ≤ 10000
    · refine br_f h2 (br_t h3 ?_)
      obtain ⟨hB, hN⟩ := bb_Bpos h2 h3
      by_cases h4 : c ≤ 58
      · have hl : nI c ≤ 58 := nI_le (b := 58) h4 (by omega)
        have R1 := bb_Rp R (by omega) hN
        have R2 := bb_Rp R1 (by omega) hB
        have R0 := bb_Rw (bb_Rw R (Nat.le_refl c) hN) (Nat.le_succ c) hB
        refine br_t hl (bx_app (by omega) (bx_app (by omega) ?_))
        by_cases hb : b = 0
        · refine bx_mr0 R2.1 hb (fun s => br_t rfl ?_) (fun s => br_f (by decide) ?_)
          · refine br_f g0 (br_f g2 ⟨bb_40, bb_40, br_f g3 (by_bd1 hd (br_t rfl (br_f h2 (br_t h3 (br_t hl ⟨bb_40, by_put (by omega) ⟨bb_40, by_put (by omega) (br_t hb (by_snd R2.1 (bb_Ro R2) (fun _ => br_f (by decide) ?_) (fun t => absurd s t)))⟩⟩)))))⟩)
            exact ⟨bb_p2 c, _, _, _, _, _, _, _, _, _, _, _, rfl, rfl, R2⟩
          · refine br_f g0 (br_f g2 ⟨bb_40, bb_40, br_f g3 (by_bd1 hd (br_t rfl (br_f h2 (br_t h3 (br_t hl ⟨bb_40, by_put (by omega) ⟨bb_40, by_put (by omega) (br_t hb (by_snd R2.1 (bb_Ro R2) (fun t => absurd t s) (fun _ => br_t rfl (nm_r (bb_p2 c) ?_))))⟩⟩)))))⟩)
            exact ⟨rfl, _, _, _, _, _, _, _, _, _, _, _, rfl, rfl, R0⟩
        · refine bx_mr1 hb (br_t rfl ?_)
          refine br_f g0 (br_f g2 ⟨bb_40, bb_40, br_f g3 (by_bd1 hd (br_t rfl (br_f h2 (br_t h3 (br_t hl ⟨bb_40, by_put (by omega) ⟨bb_40, by_put (by omega) (br_f hb ?_)⟩⟩)))))⟩)
          exact ⟨bb_p2 c, _, _, _, _, _, _, _, _, _, _, _, rfl, rfl, R2⟩
      · have hl : ¬ nI c ≤ 58 := nI_ge (a := 58) (by omega) (by omega)
        exact br_f hl (br_f g0 (br_f g2 ⟨bb_40, bb_40, br_f g3 (by_bd1 hd (br_t rfl (br_f h2 (br_t h3 (br_f hl ⟨rfl, J⟩)))))⟩))
    · exact br_f h2 (br_f h3 (br_f g0 (br_f g2 ⟨bb_40, bb_40, br_f g3 (by_bd1 hd (br_t rfl (br_f h2 (br_f h3 ⟨rfl, J⟩))))⟩)))
  · exact br_f g0 (br_f g1 (br_f g0 (br_t (bb_15 g1) ⟨rfl, J⟩)))
end
section
theorem i_vc_cancel {k : Nat} {u : SX} {v : SY} (I : i_Rel k u v) (hk : k + 4 ≤ 2048) (v1 : Int32) : wpX_cancel (fun r u' => wpY_cancel (fun r' v' => r' = r ∧ i_Rel (k + 4) u' v') v v1) u v1 := by
  have J := i_up I
  obtain ⟨c, cb, b, ac, dy, am, fl, ox, mk, oy, ob, rfl, rfl, R⟩ := I
  have R' := R
  obtain ⟨hc, hb, hm, hf, ho, hz, hw, ht⟩ := R'
  unfold wpX_cancel wpY_cancel
  rcases bb_ix v1 (n := c) (by omega) with h | ⟨e, he, rfl⟩
  · exact bx_ge0 h (br_t rfl (by_be0 h (br_f (by decide) ⟨rfl, J⟩)))
  have hi : vp_in (nI e) 60 := vp_in_nI (by omega) (by omega)
  have ec : (nI e).toNatClampNeg = e := nI_clamp (by omega)
  have eo := ho e he
  refine bx_ge1 hc he (br_f (by decide) ⟨hi, ?_⟩)
  by_cases z : ox e = 0
  · have zx : ox (nI e).toNatClampNeg = 0 := by rw [ec]; exact z
    have zy : oy (nI e).toNatClampNeg = 0 := by rw [ec, ← eo]; exact z
    have o1 : ∀ j, j < c → upd ox e 1 j = upd oy e 1 j := by
      intro j hj
      by_cases q : j = e
      · subst q; rw [pk_us, pk_us]
      · rw [pk_un q, pk_un q]; exact ho j hj
    refine br_t zx ⟨hi, nm_r (e' := upd ox e 1) (by rw [ec, bb_n1]) ?_⟩
    by_cases h0 : b = 0
    · refine bx_mr0 hc h0 (fun s => br_t rfl ⟨hi, nm_r (e' := upd mk e b) (by rw [ec, bb_nz hb]) ⟨hi, ?_⟩⟩) (fun s => br_f (by decide) ⟨hi, nm_r (e' := upd (upd ox e 1) e 0) (by rw [ec, bb_n0]) ?_⟩)
      · refine by_be1 hc he (br_t rfl ⟨hi, br_t zy ⟨hi, nm_r (e' := upd oy e 1) (by rw [ec, bb_n1]) (br_t h0 (by_snd hc o1 (fun _ => br_f (by decide) ⟨hi, ?_⟩) (fun t => absurd s t)))⟩⟩)
        exact ⟨rfl, _, _, _, _, _, _, _, _, _, _, _, rfl, rfl, hc, hb, hm, hf, o1, bb_Zu hz (Or.inr rfl), hw, fun w => absurd h0 w⟩
      · refine by_be1 hc he (br_t rfl ⟨hi, br_t zy ⟨hi, nm_r (e' := upd oy e 1) (by rw [ec, bb_n1]) (br_t h0 (by_snd hc o1 (fun t => absurd t s) (fun _ => br_t rfl ⟨hi, nm_r (e' := upd (upd oy e 1) e 0) (by rw [ec, bb_n0]) ?_⟩)))⟩⟩)
        refine ⟨rfl, _, _, _, _, _, _, _, _, _, _, _, rfl, rfl, hc, hb, hm, hf, fun j hj => ?_, bb_Zu (bb_Zu hz (Or.inr rfl)) (Or.inl rfl), hw, fun w => absurd h0 w⟩
        by_cases q : j = e
        · subst q; rw [pk_us, pk_us]
        · rw [pk_un q, pk_un q, pk_un q, pk_un q]; exact ho j hj
    · refine bx_mr1 h0 (br_t rfl ⟨hi, nm_r (e' := upd mk e b) (by rw [ec, bb_nz hb]) ⟨hi, ?_⟩⟩)
      refine by_be1 hc he (br_t rfl ⟨hi, br_t zy ⟨hi, nm_r (e' := upd oy e 1) (by rw [ec, bb_n1]) (br_f h0 ⟨hi, ?_⟩)⟩⟩)
      refine ⟨rfl, _, _, _, _, _, _, _, _, _, _, _, rfl, rfl, hc, hb, hm, hf, o1, bb_Zu hz (Or.inr rfl), hw, fun w => ⟨(ht w).1, fun j hj => ?_⟩⟩
      have t := (ht w).2 j hj
      by_cases q : j = e
      · subst q
        rw [pk_us, pk_us]
        refine ⟨fun y => absurd y h0, fun _ => ?_⟩
        by_cases y : mk j = 0
        · rw [t.1 y]; exact z
        · exact t.2 y
      · rw [pk_un q, pk_un q]
        exact t
  · have zx : ¬ ox (nI e).toNatClampNeg = 0 := by rw [ec]; exact z
    have zy : ¬ oy (nI e).toNatClampNeg = 0 := by rw [ec, ← eo]; exact z
    exact br_f zx (by_be1 hc he (br_t rfl ⟨hi, br_f zy ⟨rfl, J⟩⟩))
theorem i_vc_floor {k : Nat} {u : SX} {v : SY} (I : i_Rel k u v) (hk : k + 4 ≤ 2048) (v1 : Int32) (v2 : Int32) : wpX_floor (fun r u' => wpY_floor (fun r' v' => r' = r ∧ i_Rel (k + 4) u' v') v v1 v2) u v1 v2 := by
  have J := i_up I
  obtain ⟨c, cb, b, ac, dy, am, fl, ox, mk, oy, ob, rfl, rfl, R⟩ := I
  have R' := R
  obtain ⟨hc, hb, hm, hf, ho, hz, hw, ht⟩ := R'
  unfold wpX_floor wpY_floor
  rcases bb_ix v1 (n := 4) (by omega) with h | ⟨a, ha, rfl⟩
  · exact bx_ga0 h (br_t rfl (by_ba0 h (br_f (by decide) ⟨rfl, J⟩)))
  refine bx_ga1 ha (br_f (by decide) ?_)
  have hi : vp_in (nI a) 4 := vp_in_nI ha (by omega)
  have ec : (nI a).toNatClampNeg = a := nI_clamp (by omega)
  by_cases h2 : v2 < -10000
  · exact br_t h2 (by_ba1 ha (br_t rfl (br_t h2 ⟨rfl, J⟩)))
  by_cases h3 : v2 ≤ 10000
  · refine br_f h2 (br_t h3 ?_)
    have hB := bb_Bof h2 h3
    by_cases h0 : b = 0
    · refine br_t h0 ⟨hi, nm_r (e' := fl a) (by rw [ec]) ⟨hi, nm_r (e' := upd fl a v2) (by rw [ec]) ?_⟩⟩
      refine bx_mr0 hc h0 (fun s => br_t rfl ?_) (fun s => br_f (by decide) ⟨hi, nm_r (e' := upd (upd fl a v2) a (fl a)) (by rw [ec]) ?_⟩)
      · refine by_ba1 ha (br_t rfl (br_f h2 (br_t h3 (br_t h0 ⟨hi, nm_r (e' := fl a) (by rw [ec]) ⟨hi, nm_r (e' := upd fl a v2) (by rw [ec]) (by_snd hc ho (fun _ => br_f (by decide) ?_) (fun t => absurd s t))⟩⟩))))
        exact ⟨rfl, _, _, _, _, _, _, _, _, _, _, _, rfl, rfl, hc, hb, hm, bb_Bu hf hB, ho, hz, hw, ht⟩
      · refine by_ba1 ha (br_t rfl (br_f h2 (br_t h3 (br_t h0 ⟨hi, nm_r (e' := fl a) (by rw [ec]) ⟨hi, nm_r (e' := upd fl a v2) (by rw [ec]) (by_snd hc ho (fun t => absurd t s) (fun _ => br_t rfl ⟨hi, nm_r (e' := upd (upd fl a v2) a (fl a)) (by rw [ec]) ?_⟩))⟩⟩))))
        exact ⟨rfl, _, _, _, _, _, _, _, _, _, _, _, rfl, rfl, hc, hb, hm, bb_Bu (bb_Bu hf hB) (hf a), ho, hz, hw, ht⟩
    · exact br_f h0 (by_ba1 ha (br_t rfl (br_f h2 (br_t h3 (br_f h0 ⟨rfl, J⟩)))))
  · exact br_f h2 (br_f h3 (by_ba1 ha (br_t rfl (br_f h2 (br_f h3 ⟨rfl, J⟩)))))
/-! the loops of a batch -/
theorem bx_op {post : Int32 → SX → Prop} {c b cb : Int32} {ac dy am ox fl : Nat → Int32} (h : ∀ mk : Nat → Int32, (∀ j, j < 60 → mk j = 0) → post 0 (c, b, cb, ac, dy, am, ox, mk, fl)) : ∀ (e j : Nat) (mk : Nat → Int32), j + e = 60 → (∀ i, i < j → mk i = 0) → wX_open_24 post c b cb (e + 1) (nI j) ac dy am ox mk fl := by
  intro e
  induction e with
  | zero =>
    intro j mk hj hs
    have hj' : j = 60 := by omega
    subst hj'
    exact br_t (nI_le (a := 60) (by omega) (by omega)) (h mk hs)
  | succ e ih =>
    intro j mk hj hs
    have ec : (nI j).toNatClampNeg = j := nI_clamp (by omega)
    refine br_f (nI_ge (b := 60) (by omega) (by omega)) ⟨vp_in_nI (by omega) (by omega), nm_r (e' := upd mk j 0) (by rw [ec, bb_n0]) (nm_r (nI_1 j) (ih (j + 1) _ (by omega) (fun i hi => ?_)))⟩
    by_cases q : i = j
    · subst q; rw [pk_us]
    · rw [pk_un q]; exact hs i (by omega)
theorem by_op {post : Int32 → SY → Prop} {c b cb : Int32} {ac dy am oy fl : Nat → Int32} (hz : bb_Z oy) (h : ∀ ob : Nat → Int32, (∀ j, j < 60 → ob j = oy j) → bb_Z ob → post 0 (c, b, cb, ac, dy, am, oy, fl, ob)) : ∀ (e j : Nat) (ob : Nat → Int32), j + e = 60 → (∀ i, i < j → ob i = oy i) → bb_Z ob → wY_open_24 post c b cb (e + 1) (nI j) ac dy am oy fl ob := by
  intro e
  induction e with
  | zero =>
    intro j ob hj hs hw
    have hj' : j = 60 := by omega
    subst hj'
    exact br_t (nI_le (a := 60) (by omega) (by omega)) (h ob hs hw)
  | succ e ih =>
    intro j ob hj hs hw
    have ec : (nI j).toNatClampNeg = j := nI_clamp (by omega)
    have hi : vp_in (nI j) 60 := vp_in_nI (by omega) (by omega)
    refine br_f (nI_ge (b := 60) (by omega) (by omega)) ⟨hi, hi, nm_r (e' := upd ob j (oy j)) (by rw [ec, bb_nz (hz j)]) (nm_r (nI_1 j) (ih (j + 1) _ (by omega) (fun i hi => ?_) (bb_Zu hw (hz j))))⟩
    by_cases q : i = j
    · subst q; rw [pk_us]
    · rw [pk_un q]; exact hs i (by omega)
theorem bx_ub {post : SX → Prop} {cb : Nat} {b cx : Int32} {ac dy am mk fl ob : Nat → Int32} (hc : cb ≤ 60) (h : ∀ ox : Nat → Int32, (∀ j, j < cb → ox j = ob j) → post (nI cb, b, cx, ac, dy, am, ox, mk, fl)) : ∀ (e j : Nat) (ox : Nat → Int32), j + e = cb → (∀ i, i < j → ox i = ob i) → (∀ i, j ≤ i → i < cb → (mk i = 0 → ob i = ox i) ∧ (¬ mk i = 0 → ob i = 0)) → wX_undoBatch_10 post (nI cb) b cx (e + 1) (nI j) ac dy am ox mk fl := by
  intro e
  induction e with
  | zero =>
    intro j ox hj hs hr
    have hj' : j = cb := by omega
    subst hj'
    exact br_t (nI_le (Nat.le_refl _) (by omega)) (h ox hs)
  | succ e ih =>
    intro j ox hj hs hr
    have ec : (nI j).toNatClampNeg = j := nI_clamp (by omega)
    have hi : vp_in (nI j) 60 := vp_in_nI (by omega) (by omega)
    have t := hr j (Nat.le_refl j) (by omega)
    refine br_f (nI_ge (by omega) (by omega)) ⟨hi, ?_⟩
    by_cases z : mk j = 0
    · refine br_t (by rw [ec]; exact z) (nm_r (nI_1 j) (ih (j + 1) ox (by omega) (fun i hi => ?_) (fun i h1 h2 => hr i (by omega) h2)))
      by_cases q : i = j
      · subst q; exact (t.1 z).symm
      · exact hs i (by omega)
    · refine br_f (by rw [ec]; exact z) ⟨hi, nm_r (e' := upd ox j 0) (by rw [ec, bb_n0]) (nm_r (nI_1 j) (ih (j + 1) _ (by omega) (fun i hi => ?_) (fun i h1 h2 => ?_)))⟩
      · by_cases q : i = j
        · subst q; rw [pk_us]; exact (t.2 z).symm
        · rw [pk_un q]; exact hs i (by omega)
      · rw [pk_un (by omega)]
        exact hr i (by omega) h2
theorem by_cl {post : Int32 → SY → Prop} {c b cb : Int32} {ac dy am fl ob : Nat → Int32} (hw : bb_Z ob) (h : ∀ oy : Nat → Int32, (∀ j, j < 60 → oy j = ob j) → bb_Z oy → post 0 (c, b, cb, ac, dy, am, oy, fl, ob)) : ∀ (e j : Nat) (oy : Nat → Int32), j + e = 60 → (∀ i, i < j → oy i = ob i) → bb_Z oy → wY_close_33 post c b cb (e + 1) (nI j) ac dy am oy fl ob := by
  intro e
  induction e with
  | zero =>
    intro j oy hj hs hz
    have hj' : j = 60 := by omega
    subst hj'
    exact br_t (nI_le (a := 60) (by omega) (by omega)) (h oy hs hz)
  | succ e ih =>
    intro j oy hj hs hz
    have ec : (nI j).toNatClampNeg = j := nI_clamp (by omega)
    have hi : vp_in (nI j) 60 := vp_in_nI (by omega) (by omega)
    refine br_f (nI_ge (b := 60) (by omega) (by omega)) ⟨hi, hi, nm_r (e' := upd oy j (ob j)) (by rw [ec, bb_nz (hw j)]) (nm_r (nI_1 j) (ih (j + 1) _ (by omega) (fun i hi => ?_) (bb_Zu hz (hw j))))⟩
    by_cases q : i = j
    · subst q; rw [pk_us]
    · rw [pk_un q]; exact hs i (by omega)
theorem i_vc_open {k : Nat} {u : SX} {v : SY} (I : i_Rel k u v) (hk : k + 4 ≤ 2048) : wpX_open (fun r u' => wpY_open (fun r' v' => r' = r ∧ i_Rel (k + 4) u' v') v) u := by
  have J := i_up I
  obtain ⟨c, cb, b, ac, dy, am, fl, ox, mk, oy, ob, rfl, rfl, R⟩ := I
  obtain ⟨hc, hb, hm, hf, ho, hz, hw, ht⟩ := R
  unfold wpX_open wpY_open
  by_cases h0 : b = 0
  · refine br_t h0 ⟨61, bx_op (fun mk' hmk => ?_) 60 0 mk (by omega) (fun i hi => absurd hi (Nat.not_lt_zero i))⟩
    refine br_t h0 ⟨61, by_op hz (fun ob' hob hw' => ?_) 60 0 ob (by omega) (fun i hi => absurd hi (Nat.not_lt_zero i)) hw⟩
    exact ⟨rfl, c, c, 1, _, _, _, _, _, _, _, _, rfl, rfl, hc, Or.inr rfl, hm, hf, ho, hz, hw', fun _ => ⟨Nat.le_refl c, fun j hj => ⟨fun _ => by rw [hob j (by omega), ho j hj], fun w => absurd (hmk j (by omega)) w⟩⟩⟩
  · exact br_f h0 (br_f h0 ⟨rfl, J⟩)
theorem i_vc_close {k : Nat} {u : SX} {v : SY} (I : i_Rel k u v) (hk : k + 4 ≤ 2048) : wpX_close (fun r u' => wpY_close (fun r' v' => r' = r ∧ i_Rel (k + 4) u' v') v) u := by
  have J := i_up I
  obtain ⟨c, cb, b, ac, dy, am, fl, ox, mk, oy, ob, rfl, rfl, R⟩ := I
  obtain ⟨hc, hb, hm, hf, ho, hz, hw, ht⟩ := R
  unfold wpX_close wpY_close
  by_cases h0 : b = 0
  · exact br_t h0 (br_t h0 ⟨rfl, J⟩)
  · obtain ⟨hcb, hr⟩ := ht h0
    refine br_f h0 (bx_snd hc (fun s => br_f (by decide) ?_) (fun s => br_t rfl ?_))
    · refine br_f h0 (by_snd hc ho (fun _ => br_f (by decide) ?_) (fun t => absurd s t))
      exact ⟨rfl, c, cb, 0, _, _, _, _, _, _, _, _, rfl, rfl, hc, Or.inl rfl, hm, hf, ho, hz, hw, fun w => absurd rfl w⟩
    · unfold wpX_undoBatch
      refine ⟨cb + 1, bx_ub (ob := ob) (by omega) (fun ox' hox => ?_) cb 0 ox (by omega) (fun i hi => absurd hi (Nat.not_lt_zero i)) (fun i _ hi => hr i hi)⟩
      refine br_f h0 (by_snd hc ho (fun t => absurd t s) (fun _ => br_t rfl ⟨61, by_cl hw (fun oy' hoy hz' => ?_) 60 0 oy (by omega) (fun i hi => absurd hi (Nat.not_lt_zero i)) hz⟩))
      exact ⟨rfl, cb, cb, 0, _, _, _, _, _, _, _, _, rfl, rfl, by omega, Or.inl rfl, hm, hf, fun j hj => by rw [hox j hj, hoy j (by omega)], hz', hw, fun w => absurd rfl w⟩
end
