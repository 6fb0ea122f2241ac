/-! the reference's inner methods, told in the component's list of cancelled entries (ox), which agrees with oy below c -/
theorem bb_l4 {x : Int32} (h : nI 4 ≤ x) : ¬ x ≤ 3 := fun g => absurd (Int32.le_trans h g) (by decide)
theorem bb_l48 {x : Int32} (h : nI 48 ≤ x) : ¬ x ≤ 47 := fun g => absurd (Int32.le_trans h g) (by decide)
section
variable {c : Nat} {b cb : Int32} {ac dy am ox oy fl ob : Nat → Int32}
theorem by_ba0 {post : Int32 → Prop} {a : Int32} (h : a < 0 ∨ nI 4 ≤ a) (hp : post 1) : wpY_bad post (nI c, b, cb, ac, dy, am, oy, fl, ob) a := by
  unfold wpY_bad
  exact br_c (fun _ => hp) (fun h0 => br_f (bb_l4 (h.resolve_left h0)) hp)
theorem by_ba1 {post : Int32 → Prop} {a : Nat} (h : a < 4) (hp : post 0) : wpY_bad post (nI c, b, cb, ac, dy, am, oy, fl, ob) (nI a) := by
  unfold wpY_bad
  exact br_f (nI_pos (by omega)) (br_t (nI_le (b := 3) (by omega) (by omega)) hp)
theorem by_bd0 {post : Int32 → Prop} {a : Int32} (h : a < 0 ∨ nI 48 ≤ a) (hp : post 1) : wpY_badDay post (nI c, b, cb, ac, dy, am, oy, fl, ob) a := by
  unfold wpY_badDay
  exact br_c (fun _ => hp) (fun h0 => br_f (bb_l48 (h.resolve_left h0)) hp)
theorem by_bd1 {post : Int32 → Prop} {a : Nat} (h : a < 48) (hp : post 0) : wpY_badDay post (nI c, b, cb, ac, dy, am, oy, fl, ob) (nI a) := by
  unfold wpY_badDay
  exact br_f (nI_pos (by omega)) (br_t (nI_le (b := 47) (by omega) (by omega)) hp)
theorem by_be0 {post : Int32 → Prop} {a : Int32} (h : a < 0 ∨ nI c ≤ a) (hp : post 1) : wpY_badEntry post (nI c, b, cb, ac, dy, am, oy, fl, ob) a := by
  unfold wpY_badEntry
  exact br_c (fun _ => hp) (fun h0 => br_t (h.resolve_left h0) hp)
theorem by_be1 {post : Int32 → Prop} {a : Nat} (hc : c ≤ 60) (h : a < c) (hp : post 0) : wpY_badEntry post (nI c, b, cb, ac, dy, am, oy, fl, ob) (nI a) := by
  unfold wpY_badEntry
  exact br_f (nI_pos (by omega)) (br_f (nI_ge h (by omega)) (br_t (nI_lt (b := 60) (by omega) (by omega)) hp))
theorem by_bs0 {post : Int32 → Prop} {i l : Int32} (h : i < 0 ∨ l < i ∨ nI 48 ≤ l) (hp : post 1) : wpY_badStretch post (nI c, b, cb, ac, dy, am, oy, fl, ob) i l := by
  unfold wpY_badStretch
  exact br_c (fun _ => hp) (fun h0 => br_c (fun _ => hp) (fun h1 => br_f (bb_l48 ((h.resolve_left h0).resolve_left h1)) hp))
theorem by_bs1 {post : Int32 → Prop} {i n : Nat} (h : i + n < 48) (hp : post 0) : wpY_badStretch post (nI c, b, cb, ac, dy, am, oy, fl, ob) (nI i) (nI (i + n)) := by
  unfold wpY_badStretch
  exact br_f (nI_pos (by omega)) (br_f (nI_nlt (by omega) (by omega)) (br_t (nI_le (b := 47) (by omega) (by omega)) hp))
theorem by_put {post : SY → Prop} {p0 p1 p2 : Int32} (hc : c < 60) (hp : post (nI (c + 1), b, cb, upd ac c p0, upd dy c p1, upd am c p2, upd oy c 0, fl, ob)) : wpY_put post (nI c, b, cb, ac, dy, am, oy, fl, ob) p0 p1 p2 := by
  have hi : vp_in (nI c) 60 := vp_in_nI hc (by omega)
  have ec : (nI c).toNatClampNeg = c := nI_clamp (by omega)
  unfold wpY_put
  exact br_t (nI_lt (b := 60) hc (by omega)) ⟨hi, nm_r (by rw [ec]) ⟨hi, nm_r (by rw [ec]) ⟨hi, nm_r (by rw [ec]) ⟨hi, nm_r (by rw [ec, bb_n0]) (nm_r (nI_1 c) hp)⟩⟩⟩⟩
theorem by_w5 (hc : c ≤ 60) (ho : ∀ j, j < c → ox j = oy j) {post : Int32 → Prop} {a d : Int32} (h : post (bb_w ac dy am ox a d c)) : ∀ e j : Nat, j + e = c → wY_worth_5 post a d (nI c) b cb ac dy am oy fl ob (e + 1) (bb_w ac dy am ox a d j) (nI j) := by
  intro e
  induction e with
  | zero =>
    intro j hj
    have hj' : j = c := by omega
    subst hj'
    exact br_t (nI_le (Nat.le_refl _) (by omega)) h
  | succ e ih =>
    intro j hj
    have h1 : ¬ nI c ≤ nI j := nI_ge (by omega) (by omega)
    have h2 : ¬ (60 : Int32) ≤ nI j := nI_ge (b := 60) (by omega) (by omega)
    have hi : vp_in (nI j) 60 := vp_in_nI (by omega) (by omega)
    have ec : (nI j).toNatClampNeg = j := nI_clamp (by omega)
    have hn := ih (j + 1) (by omega)
    have eo := ho j (by omega)
    refine br_f h1 (br_f h2 ⟨hi, ?_⟩)
    by_cases z3 : ox j = 0
    · refine br_t (by rw [ec, ← eo]; exact z3) ⟨hi, ?_⟩
      by_cases z1 : ac j = a
      · refine br_t (by rw [ec]; exact z1) ⟨hi, ?_⟩
        by_cases z2 : d < dy j
        · refine br_t (by rw [ec]; exact z2) (nm_r (nI_1 j) ?_)
          rw [bb_w_out (fun z => bb_nle z2 z.2.1)] at hn
          exact hn
        · exact br_f (by rw [ec]; exact z2) ⟨hi, nm_r (by rw [ec, bb_w_in z1 (Int32.not_lt.mp z2) z3]) (nm_r (nI_1 j) hn)⟩
      · refine br_f (by rw [ec]; exact z1) (nm_r (nI_1 j) ?_)
        rw [bb_w_out (fun z => z1 z.1)] at hn
        exact hn
    · refine br_f (by rw [ec, ← eo]; exact z3) (nm_r (nI_1 j) ?_)
      rw [bb_w_out (fun z => z3 z.2.2)] at hn
      exact hn
theorem by_w (hc : c ≤ 60) (ho : ∀ j, j < c → ox j = oy j) {post : Int32 → Prop} {a d : Int32} (h : post (bb_w ac dy am ox a d c)) : wpY_worth post (nI c, b, cb, ac, dy, am, oy, fl, ob) a d := by
  unfold wpY_worth
  exact ⟨c + 1, by_w5 hc ho h c 0 (by omega)⟩
theorem by_h2 (hc : c ≤ 60) (ho : ∀ j, j < c → ox j = oy j) {post : Int32 → Prop} {a : Nat} (ha : a < 4) (h1 : bb_Sa ac dy am ox fl c a → post 1) (h0 : ¬ bb_Sa ac dy am ox fl c a → post 0) : ∀ e j : Nat, j + e = 48 → (∀ d, d < j → ¬ bb_w ac dy am ox (nI a) (nI d) c < fl a) → wY_holds_2 post (nI a) (nI c) b cb ac dy am oy fl ob (e + 1) (nI j) := by
  intro e
  have ec : (nI a).toNatClampNeg = a := nI_clamp (by omega)
  induction e with
  | zero =>
    intro j hj hs
    have hj' : j = 48 := by omega
    subst hj'
    exact br_t (nI_le (a := 48) (b := 48) (by omega) (by omega)) (h1 hs)
  | succ e ih =>
    intro j hj hs
    refine br_f (nI_ge (b := 48) (by omega) (by omega)) (by_w hc ho ⟨vp_in_nI ha (by omega), ?_⟩)
    by_cases z : bb_w ac dy am ox (nI a) (nI j) c < fl a
    · exact br_f (by rw [ec]; exact bb_nle z) (h0 fun H => H j (by omega) z)
    · refine br_t (by rw [ec]; exact Int32.not_lt.mp z) (nm_r (nI_1 j) (ih (j + 1) (by omega) (fun d hd => ?_)))
      by_cases e1 : d = j
      · subst e1; exact z
      · exact hs d (by omega)
theorem by_h (hc : c ≤ 60) (ho : ∀ j, j < c → ox j = oy j) {post : Int32 → Prop} (a : Nat) (ha : a < 4) (h1 : bb_Sa ac dy am ox fl c a → post 1) (h0 : ¬ bb_Sa ac dy am ox fl c a → post 0) : wpY_holds post (nI c, b, cb, ac, dy, am, oy, fl, ob) (nI a) := by
  unfold wpY_holds
  exact ⟨49, by_h2 hc ho ha h1 h0 48 0 (by omega) (fun d hd => absurd hd (Nat.not_lt_zero d))⟩
theorem by_snd (hc : c ≤ 60) (ho : ∀ j, j < c → ox j = oy j) {post : Int32 → Prop} (h1 : bb_Sd ac dy am ox fl c → post 1) (h0 : ¬ bb_Sd ac dy am ox fl c → post 0) : wpY_allSound post (nI c, b, cb, ac, dy, am, oy, fl, ob) := by
  unfold wpY_allSound
  refine by_h hc ho 0 (by omega) (fun s0 => br_f (by decide) ?_) (fun s => br_t rfl (h0 fun H => s (H 0 (by omega))))
  refine by_h hc ho 1 (by omega) (fun s1 => br_f (by decide) ?_) (fun s => br_t rfl (h0 fun H => s (H 1 (by omega))))
  refine by_h hc ho 2 (by omega) (fun s2 => br_f (by decide) ?_) (fun s => br_t rfl (h0 fun H => s (H 2 (by omega))))
  refine by_h hc ho 3 (by omega) (fun s3 => br_f (by decide) ?_) (fun s => br_t rfl (h0 fun H => s (H 3 (by omega))))
  refine h1 fun a ha => ?_
  by_cases e0 : a = 0
  · subst e0; exact s0
  by_cases e1 : a = 1
  · subst e1; exact s1
  by_cases e2 : a = 2
  · subst e2; exact s2
  have e3 : a = 3 := by omega
  subst e3
  exact s3
theorem by_lo34 (hc : c ≤ 60) (ho : ∀ j, j < c → ox j = oy j) {post : Int32 → Prop} {a : Int32} {i n : Nat} (hin : i + n < 48) (h : post (bb_m (fun d => bb_w ac dy am ox a (nI d) c) i n)) : ∀ e k : Nat, k + e = n → wY_lowest_34 post a (nI (i + n)) (nI c) b cb ac dy am oy fl ob (e + 1) (bb_m (fun d => bb_w ac dy am ox a (nI d) c) i k) (nI (i + (k + 1))) := by
  intro e
  induction e with
  | zero =>
    intro k hk
    have hk' : k = n := by omega
    subst hk'
    exact br_t (nI_lt (by omega) (by omega)) h
  | succ e ih =>
    intro k hk
    have hn := ih (k + 1) (by omega)
    refine br_f (nI_nlt (by omega) (by omega)) (by_w hc ho ?_)
    by_cases z : bb_w ac dy am ox a (nI (i + (k + 1))) c < bb_m (fun d => bb_w ac dy am ox a (nI d) c) i k
    · rw [bb_m_t (f := fun d => bb_w ac dy am ox a (nI d) c) z] at hn
      exact br_f (bb_nle z) (nm_r (nI_1 _) hn)
    · rw [bb_m_f (f := fun d => bb_w ac dy am ox a (nI d) c) z] at hn
      exact br_t (Int32.not_lt.mp z) (nm_r (nI_1 _) hn)
theorem by_lo (hc : c ≤ 60) (ho : ∀ j, j < c → ox j = oy j) {post : Int32 → Prop} {a : Int32} {i n : Nat} (hin : i + n < 48) (h : post (bb_m (fun d => bb_w ac dy am ox a (nI d) c) i n)) : ∃ m : Nat, wY_lowest_34 post a (nI (i + n)) (nI c) b cb ac dy am oy fl ob m (bb_w ac dy am ox a (nI i) c) (nI i) := by
  refine ⟨n + 1 + 1, br_f (nI_nlt (by omega) (by omega)) (by_w hc ho (br_t (Int32.le_refl _) (nm_r (nI_1 i) ?_)))⟩
  exact by_lo34 hc ho hin h n 0 (by omega)
theorem by_sp17 (hc : c ≤ 60) (ho : ∀ j, j < c → ox j = oy j) {post : Int32 → Prop} {a i n : Nat} (ha : a < 4) (hin : i + n = 47) (h : post (bb_fr (bb_m (fun d => bb_w ac dy am ox (nI a) (nI d) c - fl a) i n))) : ∀ e k : Nat, k + e = n → wY_spare_17 post (nI a) (nI c) b cb ac dy am oy fl ob (e + 1) (bb_m (fun d => bb_w ac dy am ox (nI a) (nI d) c - fl a) i k) (nI (i + (k + 1))) := by
  intro e
  have ec : (nI a).toNatClampNeg = a := nI_clamp (by omega)
  induction e with
  | zero =>
    intro k hk
    have hk' : k = n := by omega
    subst hk'
    refine br_t (nI_le (a := 48) (by omega) (by omega)) ?_
    unfold bb_fr at h
    by_cases z : 0 ≤ bb_m (fun d => bb_w ac dy am ox (nI a) (nI d) c - fl a) i k
    · rw [if_pos z] at h
      exact br_t z h
    · rw [if_neg z] at h
      exact br_f z h
  | succ e ih =>
    intro k hk
    have hn := ih (k + 1) (by omega)
    refine br_f (nI_ge (b := 48) (by omega) (by omega)) (by_w hc ho ⟨vp_in_nI ha (by omega), nm_r (by rw [ec]) ?_⟩)
    by_cases z : bb_w ac dy am ox (nI a) (nI (i + (k + 1))) c - fl a < bb_m (fun d => bb_w ac dy am ox (nI a) (nI d) c - fl a) i k
    · rw [bb_m_t (f := fun d => bb_w ac dy am ox (nI a) (nI d) c - fl a) z] at hn
      exact br_f (bb_nle z) (nm_r (nI_1 _) hn)
    · rw [bb_m_f (f := fun d => bb_w ac dy am ox (nI a) (nI d) c - fl a) z] at hn
      exact br_t (Int32.not_lt.mp z) (nm_r (nI_1 _) hn)
theorem by_sp (hc : c ≤ 60) (ho : ∀ j, j < c → ox j = oy j) {post : Int32 → Prop} {a i n : Nat} (ha : a < 4) (hin : i + n = 47) (h : post (bb_fr (bb_m (fun d => bb_w ac dy am ox (nI a) (nI d) c - fl a) i n))) : wpY_spare post (nI c, b, cb, ac, dy, am, oy, fl, ob) (nI a) (nI i) := by
  have ec : (nI a).toNatClampNeg = a := nI_clamp (by omega)
  unfold wpY_spare
  refine by_w hc ho ⟨vp_in_nI ha (by omega), nm_r (e' := bb_w ac dy am ox (nI a) (nI i) c - fl a) (by rw [ec]) ⟨n + 1 + 1, br_f (nI_ge (b := 48) (by omega) (by omega)) (by_w hc ho ⟨vp_in_nI ha (by omega), nm_r (e' := bb_w ac dy am ox (nI a) (nI i) c - fl a) (by rw [ec]) (br_t (Int32.le_refl _) (nm_r (nI_1 i) ?_))⟩)⟩⟩
  exact by_sp17 hc ho ha hin h n 0 (by omega)
end
