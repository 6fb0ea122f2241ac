/-! the relation -/
def bb_Z (f : Nat → Int32) : Prop := ∀ j, f j = 0 ∨ f j = 1
def bb_R (c cb : Nat) (b : Int32) (am fl ox mk oy ob : Nat → Int32) : Prop :=
  c ≤ 60 ∧ (b = 0 ∨ b = 1) ∧ (∀ j, bb_B (am j)) ∧ (∀ j, bb_B (fl j)) ∧ (∀ j, j < c → ox j = oy j) ∧ bb_Z oy ∧ bb_Z ob ∧ (¬ b = 0 → cb ≤ c ∧ ∀ j, j < cb → (mk j = 0 → ob j = ox j) ∧ (¬ mk j = 0 → ob j = 0))
/-- the two books: the same count, batch, list and floors; the cancelled ones agree below the count; in a batch the component's marks tell the reference's copy -/
def i_Rel (_ : Nat) (u : SX) (v : SY) : Prop :=
  ∃ (c cb : Nat) (b : Int32) (ac dy am fl ox mk oy ob : Nat → Int32), u = (nI c, b, nI cb, ac, dy, am, ox, mk, fl) ∧ v = (nI c, b, nI cb, ac, dy, am, oy, fl, ob) ∧ bb_R c cb b am fl ox mk oy ob
theorem i_up {k : Nat} {u : SX} {v : SY} (h : i_Rel k u v) : i_Rel (k + 4) u v := h
theorem bb_B0 : bb_B 0 := by unfold bb_B; decide
theorem i_vc0 : wpX_init (fun u => wpY_init (fun v => i_Rel 0 u v)) :=
  ⟨0, 0, 0, fun _ => 0, fun _ => 0, fun _ => 0, fun _ => 0, fun _ => 0, fun _ => 0, fun _ => 0, fun _ => 0, rfl, rfl, by omega, Or.inl rfl, fun _ => bb_B0, fun _ => bb_B0, fun _ _ => rfl, fun _ => Or.inl rfl, fun _ => Or.inl rfl, fun h => absurd rfl h⟩
theorem bb_span (i l : Int32) : (i < 0 ∨ l < i ∨ nI 48 ≤ l) ∨ ∃ p n : Nat, p + n < 48 ∧ i = nI p ∧ l = nI (p + n) := by
  by_cases h0 : i < 0
  · exact Or.inl (Or.inl h0)
  by_cases h1 : l < i
  · exact Or.inl (Or.inr (Or.inl h1))
  obtain ⟨p, hp, rfl⟩ := nI_of h0
  have hl : ¬ l < 0 := by
    intro h
    apply h1
    rw [Int32.lt_iff_toInt_lt] at h ⊢
    rw [nI_toInt hp]
    have e : (0 : Int32).toInt = 0 := by decide
    omega
  obtain ⟨q, hq, rfl⟩ := nI_of hl
  rw [nI_ltI hq hp] at h1
  by_cases h2 : q < 48
  · exact Or.inr ⟨p, q - p, by omega, rfl, by rw [Nat.add_sub_cancel' (by omega)]⟩
  · exact Or.inl (Or.inr (Or.inr (nI_le (by omega) hq)))
theorem bb_ix (x : Int32) {n : Nat} (hn : n < 2 ^ 31) : (x < 0 ∨ nI n ≤ x) ∨ ∃ j : Nat, j < n ∧ x = nI j := by
  rcases pk_ix x hn with h | h | h
  · exact Or.inl (Or.inl h)
  · exact Or.inl (Or.inr h)
  · exact Or.inr h
/-- the two ways to reckon what is free -/
theorem bb_free {c : Nat} {ac dy am ox fl : Nat → Int32} {a i n : Nat} (hc : c ≤ 60) (hm : ∀ j, bb_B (am j)) (hf : bb_B (fl a)) : bb_m (fun d => bb_w ac dy am ox (nI a) (nI d) c - fl a) i n = bb_m (fun d => bb_w ac dy am ox (nI a) (nI d) c) i n - fl a := by
  refine bb_m_sub (f := fun d => bb_w ac dy am ox (nI a) (nI d) c) hf n (fun k _ => ?_)
  have h := bb_w_bd (ac := ac) (dy := dy) (am := am) (off := ox) (a := nI a) (d := nI (i + k)) hm c hc
  omega
/-! scans in lockstep -/
section
variable {c : Nat} {b cb : Int32} {ac dy am ox mk fl oy ob : Nat → Int32}
theorem bz_tot (hc : c ≤ 60) (ho : ∀ j, j < c → ox j = oy j) {a : Int32} {l : Nat} (hl : l < 48) : ∀ (e j : Nat) (s : Int32), j + e = l + 1 → ∃ r : Int32, (∀ post : Int32 → Prop, post r → wX_total_26 post a (nI l) (nI c) b cb ac dy am ox mk fl (e + 1) s (nI j)) ∧ (∀ post : Int32 → Prop, post r → wY_total_26 post a (nI l) (nI c) b cb ac dy am oy fl ob (e + 1) s (nI j)) := by
  intro e
  induction e with
  | zero =>
    intro j s hj
    have h : nI l < nI j := nI_lt (by omega) (by omega)
    exact ⟨s, fun _ hp => br_t h hp, fun _ hp => br_t h hp⟩
  | succ e ih =>
    intro j s hj
    have h : ¬ nI l < nI j := nI_nlt (by omega) (by omega)
    obtain ⟨r, hX, hY⟩ := ih (j + 1) (s + bb_w ac dy am ox a (nI j) c) (by omega)
    exact ⟨r, fun post hp => br_f h (bx_bal hc (nm_e (nm_r (nI_1 j) (hX post hp)))), fun post hp => br_f h (by_w hc ho (nm_e (nm_r (nI_1 j) (hY post hp))))⟩
theorem bz_fb (hc : c ≤ 60) (ho : ∀ j, j < c → ox j = oy j) {a x : Int32} : ∀ (e j : Nat), j + e = 48 → ∃ r : Int32, (∀ post : Int32 → Prop, post r → wX_firstBelow_24 post a x (nI c) b cb ac dy am ox mk fl (e + 1) (nI j)) ∧ (∀ post : Int32 → Prop, post r → wY_firstBelow_24 post a x (nI c) b cb ac dy am oy fl ob (e + 1) (nI j)) := by
  intro e
  induction e with
  | zero =>
    intro j hj
    have h : (48 : Int32) ≤ nI j := nI_le (a := 48) (by omega) (by omega)
    exact ⟨-3, fun _ hp => br_t h hp, fun _ hp => br_t h hp⟩
  | succ e ih =>
    intro j hj
    have h : ¬ (48 : Int32) ≤ nI j := nI_ge (b := 48) (by omega) (by omega)
    by_cases z : x ≤ bb_w ac dy am ox a (nI j) c
    · obtain ⟨r, hX, hY⟩ := ih (j + 1) (by omega)
      exact ⟨r, fun post hp => br_f h (bx_bal hc (br_t z (nm_r (nI_1 j) (hX post hp)))), fun post hp => br_f h (by_w hc ho (br_t z (nm_r (nI_1 j) (hY post hp))))⟩
    · exact ⟨nI j, fun post hp => br_f h (bx_bal hc (br_f z hp)), fun post hp => br_f h (by_w hc ho (br_f z hp))⟩
theorem bz_db (hc : c ≤ 60) (ho : ∀ j, j < c → ox j = oy j) {a x : Int32} : ∀ (e j : Nat) (s : Int32), j + e = 48 → ∃ r : Int32, (∀ post : Int32 → Prop, post r → wX_daysBelow_15 post a x (nI c) b cb ac dy am ox mk fl (e + 1) s (nI j)) ∧ (∀ post : Int32 → Prop, post r → wY_daysBelow_15 post a x (nI c) b cb ac dy am oy fl ob (e + 1) s (nI j)) := by
  intro e
  induction e with
  | zero =>
    intro j s hj
    have h : (48 : Int32) ≤ nI j := nI_le (a := 48) (by omega) (by omega)
    exact ⟨s, fun _ hp => br_t h hp, fun _ hp => br_t h hp⟩
  | succ e ih =>
    intro j s hj
    have h : ¬ (48 : Int32) ≤ nI j := nI_ge (b := 48) (by omega) (by omega)
    by_cases z : x ≤ bb_w ac dy am ox a (nI j) c
    · obtain ⟨r, hX, hY⟩ := ih (j + 1) s (by omega)
      exact ⟨r, fun post hp => br_f h (bx_bal hc (br_t z (nm_r (nI_1 j) (hX post hp)))), fun post hp => br_f h (by_w hc ho (br_t z (nm_r (nI_1 j) (hY post hp))))⟩
    · obtain ⟨r, hX, hY⟩ := ih (j + 1) (s + 1) (by omega)
      exact ⟨r, fun post hp => br_f h (bx_bal hc (br_f z (nm_e (nm_r (nI_1 j) (hX post hp))))), fun post hp => br_f h (by_w hc ho (br_f z (nm_e (nm_r (nI_1 j) (hY post hp)))))⟩
theorem bz_ff (hc : c ≤ 60) (ho : ∀ j, j < c → ox j = oy j) (hm : ∀ j, bb_B (am j)) (hf : ∀ j, bb_B (fl j)) {a : Nat} (ha : a < 4) {x : Int32} : ∀ (e j : Nat), j + e = 48 → ∃ r : Int32, (∀ post : Int32 → Prop, post r → wX_firstFree_26 post (nI a) x (nI c) b cb ac dy am ox mk fl (e + 1) (nI j)) ∧ (∀ post : Int32 → Prop, post r → wY_firstFree_26 post (nI a) x (nI c) b cb ac dy am oy fl ob (e + 1) (nI j)) := by
  intro e
  induction e with
  | zero =>
    intro j hj
    have h : (48 : Int32) ≤ nI j := nI_le (a := 48) (by omega) (by omega)
    exact ⟨-3, fun _ hp => br_t h hp, fun _ hp => br_t h hp⟩
  | succ e ih =>
    intro j hj
    have h : ¬ (48 : Int32) ≤ nI j := nI_ge (b := 48) (by omega) (by omega)
    have q := bb_free (ac := ac) (dy := dy) (ox := ox) (i := j) (n := e) hc hm (hf a)
    by_cases z : bb_fr (bb_m (fun d => bb_w ac dy am ox (nI a) (nI d) c) j e - fl a) < x
    · obtain ⟨r, hX, hY⟩ := ih (j + 1) (by omega)
      refine ⟨r, fun post hp => br_f h (bx_ff (n := e) hc ha (by omega) (br_t z (nm_r (nI_1 j) (hX post hp)))), fun post hp => br_f h (by_sp (n := e) hc ho ha (by omega) (br_t ?_ (nm_r (nI_1 j) (hY post hp))))⟩
      rw [q]
      exact z
    · refine ⟨nI j, fun post hp => br_f h (bx_ff (n := e) hc ha (by omega) (br_f z hp)), fun post hp => br_f h (by_sp (n := e) hc ho ha (by omega) (br_f ?_ hp))⟩
      rw [q]
      exact z
end
