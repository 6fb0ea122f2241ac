/-! what keeps the relation -/
theorem bb_Bof {x : Int32} (h1 : ¬ x < -10000) (h2 : x ≤ 10000) : bb_B x := by
  rw [Int32.lt_iff_toInt_lt] at h1
  rw [Int32.le_iff_toInt_le] at h2
  have e1 : (-10000 : Int32).toInt = -10000 := by decide
  have e2 : (10000 : Int32).toInt = 10000 := by decide
  unfold bb_B
  omega
theorem bb_Bpos {x : Int32} (h1 : ¬ x < 1) (h2 : x ≤ 10000) : bb_B x ∧ bb_B (-x) := by
  rw [Int32.lt_iff_toInt_lt] at h1
  rw [Int32.le_iff_toInt_le] at h2
  have e1 : (1 : Int32).toInt = 1 := by decide
  have e2 : (10000 : Int32).toInt = 10000 := by decide
  unfold bb_B
  rw [Int32.toInt_neg, Int.bmod_eq_of_le (by omega) (by omega)]
  omega
theorem bb_Bu {f : Nat → Int32} {p : Nat} {x : Int32} (h : ∀ j, bb_B (f j)) (hx : bb_B x) : ∀ j, bb_B (upd f p x j) := by
  intro j
  by_cases e : j = p
  · subst e; rw [pk_us]; exact hx
  · rw [pk_un e]; exact h j
theorem bb_Zu {f : Nat → Int32} {p : Nat} {x : Int32} (h : bb_Z f) (hx : x = 0 ∨ x = 1) : bb_Z (upd f p x) := by
  intro j
  by_cases e : j = p
  · subst e; rw [pk_us]; exact hx
  · rw [pk_un e]; exact h j
section
variable {c cb : Nat} {b : Int32} {am fl ox mk oy ob : Nat → Int32}
/-- a write at or beyond the count -/
theorem bb_Rw {p : Nat} {x : Int32} (R : bb_R c cb b am fl ox mk oy ob) (hp : c ≤ p) (hx : bb_B x) : bb_R c cb b (upd am p x) fl (upd ox p 0) mk (upd oy p 0) ob := by
  obtain ⟨hc, hb, hm, hf, ho, hz, hw, ht⟩ := R
  refine ⟨hc, hb, bb_Bu hm hx, hf, fun j hj => ?_, bb_Zu hz (Or.inl rfl), hw, fun h => ⟨(ht h).1, fun j hj => ?_⟩⟩
  · rw [pk_un (by omega), pk_un (by omega)]
    exact ho j hj
  · have q := (ht h).1
    rw [pk_un (by omega)]
    exact (ht h).2 j hj
/-- one more entry -/
theorem bb_Ri (R : bb_R c cb b am fl ox mk oy ob) (hc : c < 60) (e : ox c = oy c) : bb_R (c + 1) cb b am fl ox mk oy ob := by
  obtain ⟨_, hb, hm, hf, ho, hz, hw, ht⟩ := R
  refine ⟨hc, hb, hm, hf, fun j hj => ?_, hz, hw, fun h => ⟨Nat.le_succ_of_le (ht h).1, (ht h).2⟩⟩
  by_cases q : j = c
  · subst q; exact e
  · exact ho j (by omega)
theorem bb_Rp {x : Int32} (R : bb_R c cb b am fl ox mk oy ob) (hc : c < 60) (hx : bb_B x) : bb_R (c + 1) cb b (upd am c x) fl (upd ox c 0) mk (upd oy c 0) ob :=
  bb_Ri (bb_Rw R (Nat.le_refl _) hx) hc (by rw [pk_us, pk_us])
theorem bb_Ro (R : bb_R c cb b am fl ox mk oy ob) : ∀ j, j < c → ox j = oy j := R.2.2.2.2.1
end
theorem i_vc_post {k : Nat} {u : SX} {v : SY} (I : i_Rel k u v) (hk : k + 4 ≤ 2048) (v1 : Int32) (v2 : Int32) (v3 : Int32) : wpX_post (fun r u' => wpY_post (fun r' v' => r' = r ∧ i_Rel (k + 4) u' v') v v1 v2 v3) u v1 v2 v3 := by
  have J := i_up I
  obtain ⟨c, cb, b, ac, dy, am, fl, ox, mk, oy, ob, rfl, rfl, R⟩ := I
  have hc : c ≤ 60 := R.1
  unfold wpX_post wpY_post
  rcases bb_ix v1 (n := 4) (by omega) with h | ⟨a, ha, rfl⟩
  · exact bx_ga0 h (br_t rfl (by_ba0 h (br_f (by decide) ⟨rfl, J⟩)))
  refine bx_ga1 ha (br_f (by decide) ?_)
  rcases bb_ix v2 (n := 48) (by omega) with h | ⟨d, hd, rfl⟩
  · exact bx_gd0 h (br_t rfl (by_ba1 ha (br_t rfl (by_bd0 h (br_f (by decide) ⟨rfl, J⟩)))))
  refine bx_gd1 hd (br_f (by decide) ?_)
  by_cases h1 : v3 = 0
  · exact br_t h1 (by_ba1 ha (br_t rfl (by_bd1 hd (br_t rfl (br_t h1 ⟨rfl, J⟩)))))
  by_cases h2 : v3 < -10000
  · exact br_f h1 (br_t h2 (by_ba1 ha (br_t rfl (by_bd1 hd (br_t rfl (br_f h1 (br_t h2 ⟨rfl, J⟩)))))))
  by_cases h3 : v3 ≤ 10000
  · refine br_f h1 (br_f h2 (br_t h3 ?_))
    by_cases h4 : c < 60
    · have hl : nI c < 60 := nI_lt (b := 60) h4 (by omega)
      have R1 := bb_Rp R h4 (bb_Bof h2 h3)
      have R0 := bb_Rw R (Nat.le_refl c) (bb_Bof h2 h3)
      refine br_t hl (bx_app h4 ?_)
      by_cases hb : b = 0
      · refine bx_mr0 R1.1 hb (fun s => br_t rfl ?_) (fun s => br_f (by decide) ?_)
        · refine by_ba1 ha (br_t rfl (by_bd1 hd (br_t rfl (br_f h1 (br_f h2 (br_t h3 (br_t hl (by_put h4 (br_t hb (by_snd R1.1 (bb_Ro R1) (fun _ => br_f (by decide) ?_) (fun t => absurd s t)))))))))))
          exact ⟨nI_pred c, _, _, _, _, _, _, _, _, _, _, _, rfl, rfl, R1⟩
        · refine by_ba1 ha (br_t rfl (by_bd1 hd (br_t rfl (br_f h1 (br_f h2 (br_t h3 (br_t hl (by_put h4 (br_t hb (by_snd R1.1 (bb_Ro R1) (fun t => absurd t s) (fun _ => br_t rfl (nm_r (nI_pred c) ?_))))))))))))
          exact ⟨rfl, _, _, _, _, _, _, _, _, _, _, _, rfl, rfl, R0⟩
      · refine bx_mr1 hb (br_t rfl ?_)
        refine by_ba1 ha (br_t rfl (by_bd1 hd (br_t rfl (br_f h1 (br_f h2 (br_t h3 (br_t hl (by_put h4 (br_f hb ?_)))))))))
        exact ⟨nI_pred c, _, _, _, _, _, _, _, _, _, _, _, rfl, rfl, R1⟩
    · have hl : ¬ nI c < 60 := nI_nlt (b := 60) (by omega) (by omega)
      exact br_f hl (by_ba1 ha (br_t rfl (by_bd1 hd (br_t rfl (br_f h1 (br_f h2 (br_t h3 (br_f hl ⟨rfl, J⟩))))))))
  · exact br_f h1 (br_f h2 (br_f h3 (by_ba1 ha (br_t rfl (by_bd1 hd (br_t rfl (br_f h1 (br_f h2 (br_f h3 ⟨rfl, J⟩)))))))))
theorem bb_p2 (c : Nat) : nI (c + 1 + 1) - 2 = nI c := by
  have h := pk_sub (a := c + 1 + 1) (b := 2) (by omega)
  rw [show c + 1 + 1 - 2 = c from by omega] at h
  exact h
theorem bb_16 {x : Int32} (h : x < 16) : ¬ 15 < x := by
  rw [Int32.lt_iff_toInt_lt] at h ⊢
  have e1 : (16 : Int32).toInt = 16 := by decide
  have e2 : (15 : Int32).toInt = 15 := by decide
  omega
theorem bb_15 {x : Int32} (h : ¬ x < 16) : 15 < x := by
  rw [Int32.lt_iff_toInt_lt] at h ⊢
  have e1 : (16 : Int32).toInt = 16 := by decide
  have e2 : (15 : Int32).toInt = 15 := by decide
  omega
theorem bb_40 : ¬ (4 : Int32) = 0 := by decide
theorem i_vc_transfer {k : Nat} {u : SX} {v : SY} (I : i_Rel k u v) (hk : k + 4 ≤ 2048) (v1 : Int32) (v2 : Int32) (v3 : Int32) : wpX_transfer (fun r u' => wpY_transfer (fun r' v' => r' = r ∧ i_Rel (k + 4) u' v') v v1 v2 v3) u v1 v2 v3 := by
  have J := i_up I
  obtain ⟨c, cb, b, ac, dy, am, fl, ox, mk, oy, ob, rfl, rfl, R⟩ := I
  have hc : c ≤ 60 := R.1
  unfold wpX_transfer wpY_transfer
  by_cases g0 : v1 < 0
  · exact br_t g0 (br_t g0 ⟨rfl, J⟩)
  by_cases g1 : v1 < 16
  · have g2 := bb_16 g1
    refine br_f g0 (br_t g1 ⟨bb_40, nm_e ⟨bb_40, nm_e ?_⟩⟩)
    by_cases g3 : v1 / 4 = v1 - v1 / 4 * 4
    · exact br_t g3 (br_f g0 (br_f g2 ⟨bb_40, bb_40, br_t g3 ⟨rfl, J⟩⟩))
    refine br_f g3 ?_
    rcases bb_ix v2 (n := 48) (by omega) with h | ⟨d, hd, rfl⟩
    · exact bx_gd0 h (br_t rfl (br_f g0 (br_f g2 ⟨bb_40, bb_40, br_f g3 (by_bd0 h (br_f (by decide) ⟨rfl, J⟩))⟩)))
    refine bx_gd1 hd (br_f (by decide) ?_)
    by_cases h2 : v3 < 1
    · exact br_t h2 (br_f g0 (br_f g2 ⟨bb_40, bb_40, br_f g3 (by_bd1 hd (br_t rfl (br_t h2 ⟨rfl, J⟩)))⟩))
    by_cases h3 : v3 ≤ 10000
    · refine br_f h2 (br_t h3 ?_)
      obtain ⟨hB, hN⟩ := bb_Bpos h2 h3
      by_cases h4 : c ≤ 58
      · have hl : nI c ≤ 58 := nI_le (b := 58) h4 (by omega)
        have R1 := bb_Rp R (by omega) hN
        have R2 := bb_Rp R1 (by omega) hB
        have R0 := bb_Rw (bb_Rw R (Nat.le_refl c) hN) (Nat.le_succ c) hB
        refine br_t hl (bx_app (by omega) (bx_app (by omega) ?_))
        by_cases hb : b = 0
        · refine bx_mr0 R2.1 hb (fun s => br_t rfl ?_) (fun s => br_f (by decide) ?_)
          · refine br_f g0 (br_f g2 ⟨bb_40, bb_40, br_f g3 (by_bd1 hd (br_t rfl (br_f h2 (br_t h3 (br_t hl ⟨bb_40, by_put (by omega) ⟨bb_40, by_put (by omega) (br_t hb (by_snd R2.1 (bb_Ro R2) (fun _ => br_f (by decide) ?_) (fun t => absurd s t)))⟩⟩)))))⟩)
            exact ⟨bb_p2 c, _, _, _, _, _, _, _, _, _, _, _, rfl, rfl, R2⟩
          · refine br_f g0 (br_f g2 ⟨bb_40, bb_40, br_f g3 (by_bd1 hd (br_t rfl (br_f h2 (br_t h3 (br_t hl ⟨bb_40, by_put (by omega) ⟨bb_40, by_put (by omega) (br_t hb (by_snd R2.1 (bb_Ro R2) (fun t => absurd t s) (fun _ => br_t rfl (nm_r (bb_p2 c) ?_))))⟩⟩)))))⟩)
            exact ⟨rfl, _, _, _, _, _, _, _, _, _, _, _, rfl, rfl, R0⟩
        · refine bx_mr1 hb (br_t rfl ?_)
          refine br_f g0 (br_f g2 ⟨bb_40, bb_40, br_f g3 (by_bd1 hd (br_t rfl (br_f h2 (br_t h3 (br_t hl ⟨bb_40, by_put (by omega) ⟨bb_40, by_put (by omega) (br_f hb ?_)⟩⟩)))))⟩)
          exact ⟨bb_p2 c, _, _, _, _, _, _, _, _, _, _, _, rfl, rfl, R2⟩
      · have hl : ¬ nI c ≤ 58 := nI_ge (a := 58) (by omega) (by omega)
        exact br_f hl (br_f g0 (br_f g2 ⟨bb_40, bb_40, br_f g3 (by_bd1 hd (br_t rfl (br_f h2 (br_t h3 (br_f hl ⟨rfl, J⟩)))))⟩))
    · exact br_f h2 (br_f h3 (br_f g0 (br_f g2 ⟨bb_40, bb_40, br_f g3 (by_bd1 hd (br_t rfl (br_f h2 (br_f h3 ⟨rfl, J⟩))))⟩)))
  · exact br_f g0 (br_f g1 (br_f g0 (br_t (bb_15 g1) ⟨rfl, J⟩)))
