/-! the questions -/
theorem i_vc_isOpen {k : Nat} {u : SX} {v : SY} (I : i_Rel k u v) (hk : k + 4 ≤ 2048) : wpX_isOpen (fun r => wpY_isOpen (fun r' => r' = r ∧ i_Rel (k + 4) u v) v) u := by
  have J := i_up I
  obtain ⟨c, cb, b, ac, dy, am, fl, ox, mk, oy, ob, rfl, rfl, hc, hb, hm, hf, ho, hz, hw, ht⟩ := I
  unfold wpX_isOpen wpY_isOpen
  exact br_c (fun h => br_t h ⟨rfl, J⟩) (fun h => br_f h ⟨rfl, J⟩)
theorem i_vc_entries {k : Nat} {u : SX} {v : SY} (I : i_Rel k u v) (hk : k + 4 ≤ 2048) : wpX_entries (fun r => wpY_entries (fun r' => r' = r ∧ i_Rel (k + 4) u v) v) u := by
  have J := i_up I
  obtain ⟨c, cb, b, ac, dy, am, fl, ox, mk, oy, ob, rfl, rfl, hc, hb, hm, hf, ho, hz, hw, ht⟩ := I
  unfold wpX_entries wpY_entries
  exact ⟨rfl, J⟩
theorem i_vc_cancelled {k : Nat} {u : SX} {v : SY} (I : i_Rel k u v) (hk : k + 4 ≤ 2048) (v1 : Int32) : wpX_cancelled (fun r => wpY_cancelled (fun r' => r' = r ∧ i_Rel (k + 4) u v) v v1) u v1 := by
  have J := i_up I
  obtain ⟨c, cb, b, ac, dy, am, fl, ox, mk, oy, ob, rfl, rfl, hc, hb, hm, hf, ho, hz, hw, ht⟩ := I
  unfold wpX_cancelled wpY_cancelled
  rcases bb_ix v1 (n := c) (by omega) with h | ⟨j, hj, rfl⟩
  · exact bx_ge0 h (br_t rfl (by_be0 h (br_f (by decide) ⟨rfl, J⟩)))
  · have hi : vp_in (nI j) 60 := vp_in_nI (by omega) (by omega)
    have ec : (nI j).toNatClampNeg = j := nI_clamp (by omega)
    have eo := ho j hj
    by_cases z : ox j = 0
    · exact bx_ge1 hc hj (br_f (by decide) ⟨hi, br_t (by rw [ec]; exact z) (by_be1 hc hj (br_t rfl ⟨hi, br_t (by rw [ec, ← eo]; exact z) ⟨rfl, J⟩⟩))⟩)
    · exact bx_ge1 hc hj (br_f (by decide) ⟨hi, br_f (by rw [ec]; exact z) (by_be1 hc hj (br_t rfl ⟨hi, br_f (by rw [ec, ← eo]; exact z) ⟨rfl, J⟩⟩))⟩)
theorem i_vc_amountOf {k : Nat} {u : SX} {v : SY} (I : i_Rel k u v) (hk : k + 4 ≤ 2048) (v1 : Int32) : wpX_amountOf (fun r => wpY_amountOf (fun r' => r' = r ∧ i_Rel (k + 4) u v) v v1) u v1 := by
  have J := i_up I
  obtain ⟨c, cb, b, ac, dy, am, fl, ox, mk, oy, ob, rfl, rfl, hc, hb, hm, hf, ho, hz, hw, ht⟩ := I
  unfold wpX_amountOf wpY_amountOf
  rcases bb_ix v1 (n := c) (by omega) with h | ⟨j, hj, rfl⟩
  · exact bx_ge0 h (br_t rfl (by_be0 h (br_f (by decide) ⟨rfl, J⟩)))
  · have hi : vp_in (nI j) 60 := vp_in_nI (by omega) (by omega)
    exact bx_ge1 hc hj (br_f (by decide) ⟨hi, by_be1 hc hj (br_t rfl ⟨hi, ⟨rfl, J⟩⟩)⟩)
theorem i_vc_sound {k : Nat} {u : SX} {v : SY} (I : i_Rel k u v) (hk : k + 4 ≤ 2048) : wpX_sound (fun r => wpY_sound (fun r' => r' = r ∧ i_Rel (k + 4) u v) v) u := by
  have J := i_up I
  obtain ⟨c, cb, b, ac, dy, am, fl, ox, mk, oy, ob, rfl, rfl, hc, hb, hm, hf, ho, hz, hw, ht⟩ := I
  unfold wpX_sound wpY_sound
  exact bx_snd hc (fun s => br_f (by decide) (by_snd hc ho (fun _ => br_f (by decide) ⟨rfl, J⟩) (fun t => absurd s t))) (fun s => br_t rfl (by_snd hc ho (fun t => absurd t s) (fun _ => br_t rfl ⟨rfl, J⟩)))
theorem i_vc_balance {k : Nat} {u : SX} {v : SY} (I : i_Rel k u v) (hk : k + 4 ≤ 2048) (v1 : Int32) (v2 : Int32) : wpX_balance (fun r => wpY_balance (fun r' => r' = r ∧ i_Rel (k + 4) u v) v v1 v2) u v1 v2 := by
  have J := i_up I
  obtain ⟨c, cb, b, ac, dy, am, fl, ox, mk, oy, ob, rfl, rfl, hc, hb, hm, hf, ho, hz, hw, ht⟩ := I
  unfold wpX_balance wpY_balance
  rcases bb_ix v1 (n := 4) (by omega) with h | ⟨a, ha, rfl⟩
  · exact bx_ga0 h (br_t rfl (by_ba0 h (br_f (by decide) ⟨rfl, J⟩)))
  rcases bb_ix v2 (n := 48) (by omega) with h | ⟨d, hd, rfl⟩
  · exact bx_ga1 ha (br_f (by decide) (bx_gd0 h (br_t rfl (by_ba1 ha (br_t rfl (by_bd0 h (br_f (by decide) ⟨rfl, J⟩)))))))
  · exact bx_ga1 ha (br_f (by decide) (bx_gd1 hd (br_f (by decide) (bx_bal hc (by_ba1 ha (br_t rfl (by_bd1 hd (br_t rfl (by_w hc ho ⟨rfl, J⟩)))))))))
theorem i_vc_lowest {k : Nat} {u : SX} {v : SY} (I : i_Rel k u v) (hk : k + 4 ≤ 2048) (v1 : Int32) (v2 : Int32) (v3 : Int32) : wpX_lowest (fun r => wpY_lowest (fun r' => r' = r ∧ i_Rel (k + 4) u v) v v1 v2 v3) u v1 v2 v3 := by
  have J := i_up I
  obtain ⟨c, cb, b, ac, dy, am, fl, ox, mk, oy, ob, rfl, rfl, hc, hb, hm, hf, ho, hz, hw, ht⟩ := I
  unfold wpX_lowest wpY_lowest
  rcases bb_ix v1 (n := 4) (by omega) with h | ⟨a, ha, rfl⟩
  · exact bx_ga0 h (br_t rfl (by_ba0 h (br_f (by decide) ⟨rfl, J⟩)))
  rcases bb_span v2 v3 with h | ⟨p, n, hpn, rfl, rfl⟩
  · exact bx_ga1 ha (br_f (by decide) (bx_gs0 h (br_t rfl (by_ba1 ha (br_t rfl (by_bs0 h (br_f (by decide) ⟨rfl, J⟩)))))))
  · exact bx_ga1 ha (br_f (by decide) (bx_gs1 hpn (br_f (by decide) (bx_lb hc hpn rfl (by_ba1 ha (br_t rfl (by_bs1 hpn (br_t rfl (by_w hc ho (by_lo hc ho hpn ⟨rfl, J⟩))))))))))
theorem i_vc_total {k : Nat} {u : SX} {v : SY} (I : i_Rel k u v) (hk : k + 4 ≤ 2048) (v1 : Int32) (v2 : Int32) (v3 : Int32) : wpX_total (fun r => wpY_total (fun r' => r' = r ∧ i_Rel (k + 4) u v) v v1 v2 v3) u v1 v2 v3 := by
  have J := i_up I
  obtain ⟨c, cb, b, ac, dy, am, fl, ox, mk, oy, ob, rfl, rfl, hc, hb, hm, hf, ho, hz, hw, ht⟩ := I
  unfold wpX_total wpY_total
  rcases bb_ix v1 (n := 4) (by omega) with h | ⟨a, ha, rfl⟩
  · exact bx_ga0 h (br_t rfl (by_ba0 h (br_f (by decide) ⟨rfl, J⟩)))
  rcases bb_span v2 v3 with h | ⟨p, n, hpn, rfl, rfl⟩
  · exact bx_ga1 ha (br_f (by decide) (bx_gs0 h (br_t rfl (by_ba1 ha (br_t rfl (by_bs0 h (br_f (by decide) ⟨rfl, J⟩)))))))
  · obtain ⟨r, hX, hY⟩ := bz_tot (b := b) (cb := nI cb) (ac := ac) (dy := dy) (am := am) (mk := mk) (fl := fl) (ob := ob) hc ho (a := nI a) hpn (n + 1) p 0 (by omega)
    exact bx_ga1 ha (br_f (by decide) (bx_gs1 hpn (br_f (by decide) ⟨_, hX _ (by_ba1 ha (br_t rfl (by_bs1 hpn (br_t rfl ⟨_, hY _ ⟨rfl, J⟩⟩))))⟩)))
theorem i_vc_firstBelow {k : Nat} {u : SX} {v : SY} (I : i_Rel k u v) (hk : k + 4 ≤ 2048) (v1 : Int32) (v2 : Int32) (v3 : Int32) : wpX_firstBelow (fun r => wpY_firstBelow (fun r' => r' = r ∧ i_Rel (k + 4) u v) v v1 v2 v3) u v1 v2 v3 := by
  have J := i_up I
  obtain ⟨c, cb, b, ac, dy, am, fl, ox, mk, oy, ob, rfl, rfl, hc, hb, hm, hf, ho, hz, hw, ht⟩ := I
  unfold wpX_firstBelow wpY_firstBelow
  rcases bb_ix v1 (n := 4) (by omega) with h | ⟨a, ha, rfl⟩
  · exact bx_ga0 h (br_t rfl (by_ba0 h (br_f (by decide) ⟨rfl, J⟩)))
  rcases bb_ix v2 (n := 48) (by omega) with h | ⟨d, hd, rfl⟩
  · exact bx_ga1 ha (br_f (by decide) (bx_gd0 h (br_t rfl (by_ba1 ha (br_t rfl (by_bd0 h (br_f (by decide) ⟨rfl, J⟩)))))))
  · obtain ⟨r, hX, hY⟩ := bz_fb (b := b) (cb := nI cb) (ac := ac) (dy := dy) (am := am) (mk := mk) (fl := fl) (ob := ob) hc ho (a := nI a) (x := v3) (48 - d) d (by omega)
    exact bx_ga1 ha (br_f (by decide) (bx_gd1 hd (br_f (by decide) ⟨_, hX _ (by_ba1 ha (br_t rfl (by_bd1 hd (br_t rfl ⟨_, hY _ ⟨rfl, J⟩⟩))))⟩)))
theorem i_vc_free {k : Nat} {u : SX} {v : SY} (I : i_Rel k u v) (hk : k + 4 ≤ 2048) (v1 : Int32) (v2 : Int32) : wpX_free (fun r => wpY_free (fun r' => r' = r ∧ i_Rel (k + 4) u v) v v1 v2) u v1 v2 := by
  have J := i_up I
  obtain ⟨c, cb, b, ac, dy, am, fl, ox, mk, oy, ob, rfl, rfl, hc, hb, hm, hf, ho, hz, hw, ht⟩ := I
  unfold wpX_free wpY_free
  rcases bb_ix v1 (n := 4) (by omega) with h | ⟨a, ha, rfl⟩
  · exact bx_ga0 h (br_t rfl (by_ba0 h (br_f (by decide) ⟨rfl, J⟩)))
  rcases bb_ix v2 (n := 48) (by omega) with h | ⟨d, hd, rfl⟩
  · exact bx_ga1 ha (br_f (by decide) (bx_gd0 h (br_t rfl (by_ba1 ha (br_t rfl (by_bd0 h (br_f (by decide) ⟨rfl, J⟩)))))))
  · have q := bb_free (ac := ac) (dy := dy) (ox := ox) (i := d) (n := 47 - d) hc hm (hf a)
    exact bx_ga1 ha (br_f (by decide) (bx_gd1 hd (br_f (by decide) (bx_ff (n := 47 - d) hc ha (by omega) (by_ba1 ha (br_t rfl (by_bd1 hd (br_t rfl (by_sp (n := 47 - d) hc ho ha (by omega) ⟨by rw [q], J⟩)))))))))
theorem i_vc_firstFree {k : Nat} {u : SX} {v : SY} (I : i_Rel k u v) (hk : k + 4 ≤ 2048) (v1 : Int32) (v2 : Int32) : wpX_firstFree (fun r => wpY_firstFree (fun r' => r' = r ∧ i_Rel (k + 4) u v) v v1 v2) u v1 v2 := by
  have J := i_up I
  obtain ⟨c, cb, b, ac, dy, am, fl, ox, mk, oy, ob, rfl, rfl, hc, hb, hm, hf, ho, hz, hw, ht⟩ := I
  unfold wpX_firstFree wpY_firstFree
  rcases bb_ix v1 (n := 4) (by omega) with h | ⟨a, ha, rfl⟩
  · exact bx_ga0 h (br_t rfl (by_ba0 h (br_f (by decide) ⟨rfl, J⟩)))
  by_cases h1 : v2 < 1
  · exact bx_ga1 ha (br_f (by decide) (br_t h1 (by_ba1 ha (br_t rfl (br_t h1 ⟨rfl, J⟩)))))
  by_cases h2 : v2 ≤ 1000000
  · obtain ⟨r, hX, hY⟩ := bz_ff (b := b) (cb := nI cb) (ac := ac) (dy := dy) (am := am) (mk := mk) (fl := fl) (ob := ob) hc ho hm hf ha (x := v2) 48 0 (by omega)
    exact bx_ga1 ha (br_f (by decide) (br_f h1 (br_t h2 ⟨_, hX _ (by_ba1 ha (br_t rfl (br_f h1 (br_t h2 ⟨_, hY _ ⟨rfl, J⟩⟩))))⟩)))
  · exact bx_ga1 ha (br_f (by decide) (br_f h1 (br_f h2 (by_ba1 ha (br_t rfl (br_f h1 (br_f h2 ⟨rfl, J⟩)))))))
theorem i_vc_daysBelow {k : Nat} {u : SX} {v : SY} (I : i_Rel k u v) (hk : k + 4 ≤ 2048) (v1 : Int32) (v2 : Int32) : wpX_daysBelow (fun r => wpY_daysBelow (fun r' => r' = r ∧ i_Rel (k + 4) u v) v v1 v2) u v1 v2 := by
  have J := i_up I
  obtain ⟨c, cb, b, ac, dy, am, fl, ox, mk, oy, ob, rfl, rfl, hc, hb, hm, hf, ho, hz, hw, ht⟩ := I
  unfold wpX_daysBelow wpY_daysBelow
  rcases bb_ix v1 (n := 4) (by omega) with h | ⟨a, ha, rfl⟩
  · exact bx_ga0 h (br_t rfl (by_ba0 h (br_f (by decide) ⟨rfl, J⟩)))
  · obtain ⟨r, hX, hY⟩ := bz_db (b := b) (cb := nI cb) (ac := ac) (dy := dy) (am := am) (mk := mk) (fl := fl) (ob := ob) hc ho (a := nI a) (x := v2) 48 0 0 (by omega)
    exact bx_ga1 ha (br_f (by decide) ⟨_, hX _ (by_ba1 ha (br_t rfl ⟨_, hY _ ⟨rfl, J⟩⟩))⟩)
