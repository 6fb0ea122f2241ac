/-! the component's inner methods, each with a general post -/
theorem bb_n0 : vp_nar .boolean 0 = 0 := by decide
theorem bb_n1 : vp_nar .boolean 1 = 1 := by decide
theorem bb_nz {x : Int32} (h : x = 0 ∨ x = 1) : vp_nar .boolean x = x := by
  cases h with
  | inl h => rw [h, bb_n0]
  | inr h => rw [h, bb_n1]
theorem bb_nle {x : Int32} {n : Int32} (h : n < x) : ¬ x ≤ n := Int32.not_le.mpr h
def bb_Sa (ac dy am o fl : Nat → Int32) (c a : Nat) : Prop := ∀ d, d < 48 → ¬ bb_w ac dy am o (nI a) (nI d) c < fl a
def bb_Sd (ac dy am o fl : Nat → Int32) (c : Nat) : Prop := ∀ a, a < 4 → bb_Sa ac dy am o fl c a
def bb_fr (x : Int32) : Int32 := if 0 ≤ x then x else 0
section
variable {c : Nat} {b cb : Int32} {ac dy am ox mk fl : Nat → Int32}
theorem bx_ga0 {post : Int32 → Prop} {a : Int32} (h : a < 0 ∨ nI 4 ≤ a) (hp : post 0) : wpX_goodAccount post (nI c, b, cb, ac, dy, am, ox, mk, fl) a := by
  unfold wpX_goodAccount
  exact br_c (fun _ => hp) (fun h0 => br_t (h.resolve_left h0) hp)
theorem bx_ga1 {post : Int32 → Prop} {a : Nat} (h : a < 4) (hp : post 1) : wpX_goodAccount post (nI c, b, cb, ac, dy, am, ox, mk, fl) (nI a) := by
  unfold wpX_goodAccount
  exact br_f (nI_pos (by omega)) (br_f (nI_ge (b := 4) h (by omega)) hp)
theorem bx_gd0 {post : Int32 → Prop} {a : Int32} (h : a < 0 ∨ nI 48 ≤ a) (hp : post 0) : wpX_goodDay post (nI c, b, cb, ac, dy, am, ox, mk, fl) a := by
  unfold wpX_goodDay
  exact br_c (fun _ => hp) (fun h0 => br_t (h.resolve_left h0) hp)
theorem bx_gd1 {post : Int32 → Prop} {a : Nat} (h : a < 48) (hp : post 1) : wpX_goodDay post (nI c, b, cb, ac, dy, am, ox, mk, fl) (nI a) := by
  unfold wpX_goodDay
  exact br_f (nI_pos (by omega)) (br_f (nI_ge (b := 48) h (by omega)) hp)
theorem bx_ge0 {post : Int32 → Prop} {a : Int32} (h : a < 0 ∨ nI c ≤ a) (hp : post 0) : wpX_goodEntry post (nI c, b, cb, ac, dy, am, ox, mk, fl) a := by
  unfold wpX_goodEntry
  exact br_c (fun _ => hp) (fun h0 => br_t (h.resolve_left h0) hp)
theorem bx_ge1 {post : Int32 → Prop} {a : Nat} (hc : c ≤ 60) (h : a < c) (hp : post 1) : wpX_goodEntry post (nI c, b, cb, ac, dy, am, ox, mk, fl) (nI a) := by
  unfold wpX_goodEntry
  exact br_f (nI_pos (by omega)) (br_f (nI_ge h (by omega)) hp)
theorem bx_gs0 {post : Int32 → Prop} {i l : Int32} (h : i < 0 ∨ l < i ∨ nI 48 ≤ l) (hp : post 0) : wpX_goodSpan post (nI c, b, cb, ac, dy, am, ox, mk, fl) i l := by
  unfold wpX_goodSpan
  exact br_c (fun _ => hp) (fun h0 => br_c (fun _ => hp) (fun h1 => br_t ((h.resolve_left h0).resolve_left h1) hp))
theorem bx_gs1 {post : Int32 → Prop} {i n : Nat} (h : i + n < 48) (hp : post 1) : wpX_goodSpan post (nI c, b, cb, ac, dy, am, ox, mk, fl) (nI i) (nI (i + n)) := by
  unfold wpX_goodSpan
  exact br_f (nI_pos (by omega)) (br_f (nI_nlt (by omega) (by omega)) (br_f (nI_ge (b := 48) h (by omega)) hp))
theorem bx_app {post : SX → Prop} {p0 p1 p2 : Int32} (hc : c < 60) (hp : post (nI (c + 1), b, cb, upd ac c p0, upd dy c p1, upd am c p2, upd ox c 0, mk, fl)) : wpX_append post (nI c, b, cb, ac, dy, am, ox, mk, fl) p0 p1 p2 := by
  have hi : vp_in (nI c) 60 := vp_in_nI hc (by omega)
  have ec : (nI c).toNatClampNeg = c := nI_clamp (by omega)
  unfold wpX_append
  exact ⟨hi, nm_r (by rw [ec]) ⟨hi, nm_r (by rw [ec]) ⟨hi, nm_r (by rw [ec]) ⟨hi, nm_r (by rw [ec, bb_n0]) (nm_r (nI_1 c) hp)⟩⟩⟩⟩
theorem bx_bal5 (hc : c ≤ 60) {post : Int32 → Prop} {a d : Int32} (h : post (bb_w ac dy am ox a d c)) : ∀ e j : Nat, j + e = c → wX_balanceOn_5 post a d (nI c) b cb ac dy am ox mk fl (e + 1) (bb_w ac dy am ox a d j) (nI j) := by
  intro e
  induction e with
  | zero =>
    intro j hj
    have hj' : j = c := by omega
    subst hj'
    exact br_t (nI_le (Nat.le_refl _) (by omega)) h
  | succ e ih =>
    intro j hj
    have h1 : ¬ nI c ≤ nI j := nI_ge (by omega) (by omega)
    have hi : vp_in (nI j) 60 := vp_in_nI (by omega) (by omega)
    have ec : (nI j).toNatClampNeg = j := nI_clamp (by omega)
    have hn := ih (j + 1) (by omega)
    refine br_f h1 ⟨hi, ?_⟩
    by_cases z1 : ac j = a
    · refine br_t (by rw [ec]; exact z1) ⟨hi, ?_⟩
      by_cases z2 : d < dy j
      · refine br_t (by rw [ec]; exact z2) (nm_r (nI_1 j) ?_)
        rw [bb_w_out (fun z => bb_nle z2 z.2.1)] at hn
        exact hn
      · refine br_f (by rw [ec]; exact z2) ⟨hi, ?_⟩
        by_cases z3 : ox j = 0
        · exact br_t (by rw [ec]; exact z3) ⟨hi, nm_r (by rw [ec, bb_w_in z1 (Int32.not_lt.mp z2) z3]) (nm_r (nI_1 j) hn)⟩
        · refine br_f (by rw [ec]; exact z3) (nm_r (nI_1 j) ?_)
          rw [bb_w_out (fun z => z3 z.2.2)] at hn
          exact hn
    · refine br_f (by rw [ec]; exact z1) (nm_r (nI_1 j) ?_)
      rw [bb_w_out (fun z => z1 z.1)] at hn
      exact hn
theorem bx_bal (hc : c ≤ 60) {post : Int32 → Prop} {a d : Int32} (h : post (bb_w ac dy am ox a d c)) : wpX_balanceOn post (nI c, b, cb, ac, dy, am, ox, mk, fl) a d := by
  unfold wpX_balanceOn
  exact ⟨c + 1, bx_bal5 hc h c 0 (by omega)⟩
theorem bx_lb13 (hc : c ≤ 60) {post : Int32 → Prop} {a : Int32} {i n : Nat} (hin : i + n < 48) (h : post (bb_m (fun d => bb_w ac dy am ox a (nI d) c) i n)) : ∀ e k : Nat, k + e = n → wX_leastBalance_13 post a (nI (i + n)) (nI c) b cb ac dy am ox mk fl (e + 1) (bb_m (fun d => bb_w ac dy am ox a (nI d) c) i k) (nI (i + (k + 1))) := by
  intro e
  induction e with
  | zero =>
    intro k hk
    have hk' : k = n := by omega
    subst hk'
    exact br_t (nI_lt (by omega) (by omega)) h
  | succ e ih =>
    intro k hk
    have hn := ih (k + 1) (by omega)
    refine br_f (nI_nlt (by omega) (by omega)) (bx_bal hc ?_)
    by_cases z : bb_w ac dy am ox a (nI (i + (k + 1))) c < bb_m (fun d => bb_w ac dy am ox a (nI d) c) i k
    · rw [bb_m_t (f := fun d => bb_w ac dy am ox a (nI d) c) z] at hn
      exact br_f (bb_nle z) (nm_r (nI_1 _) hn)
    · rw [bb_m_f (f := fun d => bb_w ac dy am ox a (nI d) c) z] at hn
      exact br_t (Int32.not_lt.mp z) (nm_r (nI_1 _) hn)
theorem bx_lb (hc : c ≤ 60) {post : Int32 → Prop} {a l : Int32} {i n : Nat} (hin : i + n < 48) (hl : l = nI (i + n)) (h : post (bb_m (fun d => bb_w ac dy am ox a (nI d) c) i n)) : wpX_leastBalance post (nI c, b, cb, ac, dy, am, ox, mk, fl) a (nI i) l := by
  subst hl
  unfold wpX_leastBalance
  exact bx_bal hc (nm_r (nI_1 i) ⟨n + 1, bx_lb13 hc hin h n 0 (by omega)⟩)
theorem bx_snd2 (hc : c ≤ 60) {post : Int32 → Prop} (h1 : bb_Sd ac dy am ox fl c → post 1) (h0 : ¬ bb_Sd ac dy am ox fl c → post 0) : ∀ e j : Nat, j + e = 4 → (∀ a, a < j → bb_Sa ac dy am ox fl c a) → wX_bookIsSound_2 post (nI c) b cb ac dy am ox mk fl (e + 1) (nI j) := by
  intro e
  induction e with
  | zero =>
    intro j hj hs
    have hj' : j = 4 := by omega
    subst hj'
    exact br_t (nI_le (a := 4) (b := 4) (by omega) (by omega)) (h1 hs)
  | succ e ih =>
    intro j hj hs
    have ec : (nI j).toNatClampNeg = j := nI_clamp (by omega)
    refine br_f (nI_ge (b := 4) (by omega) (by omega)) (bx_lb (i := 0) (n := 47) hc (by omega) rfl ⟨vp_in_nI (by omega) (by omega), ?_⟩)
    by_cases z : bb_m (fun d => bb_w ac dy am ox (nI j) (nI d) c) 0 47 < fl j
    · refine br_f (by rw [ec]; exact bb_nle z) (h0 fun H => ?_)
      obtain ⟨k, hk, w⟩ := (bb_m_lt 47).mp z
      rw [Nat.zero_add] at w
      exact H j (by omega) k (by omega) w
    · refine br_t (by rw [ec]; exact Int32.not_lt.mp z) (nm_r (nI_1 j) (ih (j + 1) (by omega) (fun a ha => ?_)))
      by_cases e1 : a = j
      · subst e1
        intro d hd w
        exact z ((bb_m_lt 47).mpr ⟨d, by omega, by rw [Nat.zero_add]; exact w⟩)
      · exact hs a (by omega)
theorem bx_snd (hc : c ≤ 60) {post : Int32 → Prop} (h1 : bb_Sd ac dy am ox fl c → post 1) (h0 : ¬ bb_Sd ac dy am ox fl c → post 0) : wpX_bookIsSound post (nI c, b, cb, ac, dy, am, ox, mk, fl) := by
  unfold wpX_bookIsSound
  exact ⟨5, bx_snd2 hc h1 h0 4 0 (by omega) (fun a ha => absurd ha (Nat.not_lt_zero a))⟩
theorem bx_mr0 (hc : c ≤ 60) (hb : b = 0) {post : Int32 → Prop} (h1 : bb_Sd ac dy am ox fl c → post 0) (h0 : ¬ bb_Sd ac dy am ox fl c → post 1) : wpX_mustRefuse post (nI c, b, cb, ac, dy, am, ox, mk, fl) := by
  unfold wpX_mustRefuse
  exact br_t hb (bx_snd hc (fun s => br_f (by decide) (h1 s)) (fun s => br_t rfl (h0 s)))
theorem bx_mr1 (hb : ¬ b = 0) {post : Int32 → Prop} (h : post 0) : wpX_mustRefuse post (nI c, b, cb, ac, dy, am, ox, mk, fl) := by
  unfold wpX_mustRefuse
  exact br_f hb h
theorem bx_ff (hc : c ≤ 60) {post : Int32 → Prop} {a i n : Nat} (ha : a < 4) (hin : i + n = 47) (h : post (bb_fr (bb_m (fun d => bb_w ac dy am ox (nI a) (nI d) c) i n - fl a))) : wpX_freeFrom post (nI c, b, cb, ac, dy, am, ox, mk, fl) (nI a) (nI i) := by
  have ec : (nI a).toNatClampNeg = a := nI_clamp (by omega)
  unfold wpX_freeFrom
  refine bx_lb (n := n) hc (by omega) (by rw [hin]; rfl) ⟨vp_in_nI ha (by omega), nm_r (by rw [ec]) ?_⟩
  unfold bb_fr at h
  by_cases z : 0 ≤ bb_m (fun d => bb_w ac dy am ox (nI a) (nI d) c) i n - fl a
  · rw [if_pos z] at h
    exact br_t z h
  · rw [if_neg z] at h
    exact br_f z h
end
