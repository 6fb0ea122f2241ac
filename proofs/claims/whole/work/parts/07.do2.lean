theorem i_vc_cancel {k : Nat} {u : SX} {v : SY} (I : i_Rel k u v) (hk : k + 4 ≤ 2048) (v1 : Int32) : wpX_cancel (fun r u' => wpY_cancel (fun r' v' => r' = r ∧ i_Rel (k + 4) u' v') v v1) u v1 := by
  have J := i_up I
  obtain ⟨c, cb, b, ac, dy, am, fl, ox, mk, oy, ob, rfl, rfl, R⟩ := I
  have R' := R
  obtain ⟨hc, hb, hm, hf, ho, hz, hw, ht⟩ := R'
  unfold wpX_cancel wpY_cancel
  rcases bb_ix v1 (n := c) (by omega) with h | ⟨e, he, rfl⟩
  · exact bx_ge0 h (br_t rfl (by_be0 h (br_f (by decide) ⟨rfl, J⟩)))
  have hi : vp_in (nI e) 60 := vp_in_nI (by omega) (by omega)
  have ec : (nI e).toNatClampNeg = e := nI_clamp (by omega)
  have eo := ho e he
  refine bx_ge1 hc he (br_f (by decide) ⟨hi, ?_⟩)
  by_cases z : ox e = 0
  · have zx : ox (nI e).toNatClampNeg = 0 := by rw [ec]; exact z
    have zy : oy (nI e).toNatClampNeg = 0 := by rw [ec, ← eo]; exact z
    have o1 : ∀ j, j < c → upd ox e 1 j = upd oy e 1 j := by
      intro j hj
      by_cases q : j = e
      · subst q; rw [pk_us, pk_us]
      · rw [pk_un q, pk_un q]; exact ho j hj
    refine br_t zx ⟨hi, nm_r (e' := upd ox e 1) (by rw [ec, bb_n1]) ?_⟩
    by_cases h0 : b = 0
    · refine bx_mr0 hc h0 (fun s => br_t rfl ⟨hi, nm_r (e' := upd mk e b) (by rw [ec, bb_nz hb]) ⟨hi, ?_⟩⟩) (fun s => br_f (by decide) ⟨hi, nm_r (e' := upd (upd ox e 1) e 0) (by rw [ec, bb_n0]) ?_⟩)
      · refine by_be1 hc he (br_t rfl ⟨hi, br_t zy ⟨hi, nm_r (e' := upd oy e 1) (by rw [ec, bb_n1]) (br_t h0 (by_snd hc o1 (fun _ => br_f (by decide) ⟨hi, ?_⟩) (fun t => absurd s t)))⟩⟩)
        exact ⟨rfl, _, _, _, _, _, _, _, _, _, _, _, rfl, rfl, hc, hb, hm, hf, o1, bb_Zu hz (Or.inr rfl), hw, fun w => absurd h0 w⟩
      · refine by_be1 hc he (br_t rfl ⟨hi, br_t zy ⟨hi, nm_r (e' := upd oy e 1) (by rw [ec, bb_n1]) (br_t h0 (by_snd hc o1 (fun t => absurd t s) (fun _ => br_t rfl ⟨hi, nm_r (e' := upd (upd oy e 1) e 0) (by rw [ec, bb_n0]) ?_⟩)))⟩⟩)
        refine ⟨rfl, _, _, _, _, _, _, _, _, _, _, _, rfl, rfl, hc, hb, hm, hf, fun j hj => ?_, bb_Zu (bb_Zu hz (Or.inr rfl)) (Or.inl rfl), hw, fun w => absurd h0 w⟩
        by_cases q : j = e
        · subst q; rw [pk_us, pk_us]
        · rw [pk_un q, pk_un q, pk_un q, pk_un q]; exact ho j hj
    · refine bx_mr1 h0 (br_t rfl ⟨hi, nm_r (e' := upd mk e b) (by rw [ec, bb_nz hb]) ⟨hi, ?_⟩⟩)
      refine by_be1 hc he (br_t rfl ⟨hi, br_t zy ⟨hi, nm_r (e' := upd oy e 1) (by rw [ec, bb_n1]) (br_f h0 ⟨hi, ?_⟩)⟩⟩)
      refine ⟨rfl, _, _, _, _, _, _, _, _, _, _, _, rfl, rfl, hc, hb, hm, hf, o1, bb_Zu hz (Or.inr rfl), hw, fun w => ⟨(ht w).1, fun j hj => ?_⟩⟩
      have t := (ht w).2 j hj
      by_cases q : j = e
      · subst q
        rw [pk_us, pk_us]
        refine ⟨fun y => absurd y h0, fun _ => ?_⟩
        by_cases y : mk j = 0
        · rw [t.1 y]; exact z
        · exact t.2 y
      · rw [pk_un q, pk_un q]
        exact t
  · have zx : ¬ ox (nI e).toNatClampNeg = 0 := by rw [ec]; exact z
    have zy : ¬ oy (nI e).toNatClampNeg = 0 := by rw [ec, ← eo]; exact z
    exact br_f zx (by_be1 hc he (br_t rfl ⟨hi, br_f zy ⟨rfl, J⟩⟩))
theorem i_vc_floor {k : Nat} {u : SX} {v : SY} (I : i_Rel k u v) (hk : k + 4 ≤ 2048) (v1 : Int32) (v2 : Int32) : wpX_floor (fun r u' => wpY_floor (fun r' v' => r' = r ∧ i_Rel (k + 4) u' v') v v1 v2) u v1 v2 := by
  have J := i_up I
  obtain ⟨c, cb, b, ac, dy, am, fl, ox, mk, oy, ob, rfl, rfl, R⟩ := I
  have R' := R
  obtain ⟨hc, hb, hm, hf, ho, hz, hw, ht⟩ := R'
  unfold wpX_floor wpY_floor
  rcases bb_ix v1 (n := 4) (by omega) with h | ⟨a, ha, rfl⟩
  · exact bx_ga0 h (br_t rfl (by_ba0 h (br_f (by decide) ⟨rfl, J⟩)))
  refine bx_ga1 ha (br_f (by decide) ?_)
  have hi : vp_in (nI a) 4 := vp_in_nI ha (by omega)
  have ec : (nI a).toNatClampNeg = a := nI_clamp (by omega)
  by_cases h2 : v2 < -10000
  · exact br_t h2 (by_ba1 ha (br_t rfl (br_t h2 ⟨rfl, J⟩)))
  by_cases h3 : v2 ≤ 10000
  · refine br_f h2 (br_t h3 ?_)
    have hB := bb_Bof h2 h3
    by_cases h0 : b = 0
    · refine br_t h0 ⟨hi, nm_r (e' := fl a) (by rw [ec]) ⟨hi, nm_r (e' := upd fl a v2) (by rw [ec]) ?_⟩⟩
      refine bx_mr0 hc h0 (fun s => br_t rfl ?_) (fun s => br_f (by decide) ⟨hi, nm_r (e' := upd (upd fl a v2) a (fl a)) (by rw [ec]) ?_⟩)
      · refine by_ba1 ha (br_t rfl (br_f h2 (br_t h3 (br_t h0 ⟨hi, nm_r (e' := fl a) (by rw [ec]) ⟨hi, nm_r (e' := upd fl a v2) (by rw [ec]) (by_snd hc ho (fun _ => br_f (by decide) ?_) (fun t => absurd s t))⟩⟩))))
        exact ⟨rfl, _, _, _, _, _, _, _, _, _, _, _, rfl, rfl, hc, hb, hm, bb_Bu hf hB, ho, hz, hw, ht⟩
      · refine by_ba1 ha (br_t rfl (br_f h2 (br_t h3 (br_t h0 ⟨hi, nm_r (e' := fl a) (by rw [ec]) ⟨hi, nm_r (e' := upd fl a v2) (by rw [ec]) (by_snd hc ho (fun t => absurd t s) (fun _ => br_t rfl ⟨hi, nm_r (e' := upd (upd fl a v2) a (fl a)) (by rw [ec]) ?_⟩))⟩⟩))))
        exact ⟨rfl, _, _, _, _, _, _, _, _, _, _, _, rfl, rfl, hc, hb, hm, bb_Bu (bb_Bu hf hB) (hf a), ho, hz, hw, ht⟩
    · exact br_f h0 (by_ba1 ha (br_t rfl (br_f h2 (br_t h3 (br_f h0 ⟨rfl, J⟩)))))
  · exact br_f h2 (br_f h3 (by_ba1 ha (br_t rfl (br_f h2 (br_f h3 ⟨rfl, J⟩)))))
/-! the loops of a batch -/
theorem bx_op {post : Int32 → SX → Prop} {c b cb : Int32} {ac dy am ox fl : Nat → Int32} (h : ∀ mk : Nat → Int32, (∀ j, j < 60 → mk j = 0) → post 0 (c, b, cb, ac, dy, am, ox, mk, fl)) : ∀ (e j : Nat) (mk : Nat → Int32), j + e = 60 → (∀ i, i < j → mk i = 0) → wX_open_24 post c b cb (e + 1) (nI j) ac dy am ox mk fl := by
  intro e
  induction e with
  | zero =>
    intro j mk hj hs
    have hj' : j = 60 := by omega
    subst hj'
    exact br_t (nI_le (a := 60) (by omega) (by omega)) (h mk hs)
  | succ e ih =>
    intro j mk hj hs
    have ec : (nI j).toNatClampNeg = j := nI_clamp (by omega)
    refine br_f (nI_ge (b := 60) (by omega) (by omega)) ⟨vp_in_nI (by omega) (by omega), nm_r (e' := upd mk j 0) (by rw [ec, bb_n0]) (nm_r (nI_1 j) (ih (j + 1) _ (by omega) (fun i hi => ?_)))⟩
    by_cases q : i = j
    · subst q; rw [pk_us]
    · rw [pk_un q]; exact hs i (by omega)
theorem by_op {post : Int32 → SY → Prop} {c b cb : Int32} {ac dy am oy fl : Nat → Int32} (hz : bb_Z oy) (h : ∀ ob : Nat → Int32, (∀ j, j < 60 → ob j = oy j) → bb_Z ob → post 0 (c, b, cb, ac, dy, am, oy, fl, ob)) : ∀ (e j : Nat) (ob : Nat → Int32), j + e = 60 → (∀ i, i < j → ob i = oy i) → bb_Z ob → wY_open_24 post c b cb (e + 1) (nI j) ac dy am oy fl ob := by
  intro e
  induction e with
  | zero =>
    intro j ob hj hs hw
    have hj' : j = 60 := by omega
    subst hj'
    exact br_t (nI_le (a := 60) (by omega) (by omega)) (h ob hs hw)
  | succ e ih =>
    intro j ob hj hs hw
    have ec : (nI j).toNatClampNeg = j := nI_clamp (by omega)
    have hi : vp_in (nI j) 60 := vp_in_nI (by omega) (by omega)
    refine br_f (nI_ge (b := 60) (by omega) (by omega)) ⟨hi, hi, nm_r (e' := upd ob j (oy j)) (by rw [ec, bb_nz (hz j)]) (nm_r (nI_1 j) (ih (j + 1) _ (by omega) (fun i hi => ?_) (bb_Zu hw (hz j))))⟩
    by_cases q : i = j
    · subst q; rw [pk_us]
    · rw [pk_un q]; exact hs i (by omega)
theorem bx_ub {post : SX → Prop} {cb : Nat} {b cx : Int32} {ac dy am mk fl ob : Nat → Int32} (hc : cb ≤ 60) (h : ∀ ox : Nat → Int32, (∀ j, j < cb → ox j = ob j) → post (nI cb, b, cx, ac, dy, am, ox, mk, fl)) : ∀ (e j : Nat) (ox : Nat → Int32), j + e = cb → (∀ i, i < j → ox i = ob i) → (∀ i, j ≤ i → i < cb → (mk i = 0 → ob i = ox i) ∧ (¬ mk i = 0 → ob i = 0)) → wX_undoBatch_10 post (nI cb) b cx (e + 1) (nI j) ac dy am ox mk fl := by
  intro e
  induction e with
  | zero =>
    intro j ox hj hs hr
    have hj' : j = cb := by omega
    subst hj'
    exact br_t (nI_le (Nat.le_refl _) (by omega)) (h ox hs)
  | succ e ih =>
    intro j ox hj hs hr
    have ec : (nI j).toNatClampNeg = j := nI_clamp (by omega)
    have hi : vp_in (nI j) 60 := vp_in_nI (by omega) (by omega)
    have t := hr j (Nat.le_refl j) (by omega)
    refine br_f (nI_ge (by omega) (by omega)) ⟨hi, ?_⟩
    by_cases z : mk j = 0
    · refine br_t (by rw [ec]; exact z) (nm_r (nI_1 j) (ih (j + 1) ox (by omega) (fun i hi => ?_) (fun i h1 h2 => hr i (by omega) h2)))
      by_cases q : i = j
      · subst q; exact (t.1 z).symm
      · exact hs i (by omega)
    · refine br_f (by rw [ec]; exact z) ⟨hi, nm_r (e' := upd ox j 0) (by rw [ec, bb_n0]) (nm_r (nI_1 j) (ih (j + 1) _ (by omega) (fun i hi => ?_) (fun i h1 h2 => ?_)))⟩
      · by_cases q : i = j
        · subst q; rw [pk_us]; exact (t.2 z).symm
        · rw [pk_un q]; exact hs i (by omega)
      · rw [pk_un (by omega)]
        exact hr i (by omega) h2
theorem by_cl {post : Int32 → SY → Prop} {c b cb : Int32} {ac dy am fl ob : Nat → Int32} (hw : bb_Z ob) (h : ∀ oy : Nat → Int32, (∀ j, j < 60 → oy j = ob j) → bb_Z oy → post 0 (c, b, cb, ac, dy, am, oy, fl, ob)) : ∀ (e j : Nat) (oy : Nat → Int32), j + e = 60 → (∀ i, i < j → oy i = ob i) → bb_Z oy → wY_close_33 post c b cb (e + 1) (nI j) ac dy am oy fl ob := by
  intro e
  induction e with
  | zero =>
    intro j oy hj hs hz
    have hj' : j = 60 := by omega
    subst hj'
    exact br_t (nI_le (a := 60) (by omega) (by omega)) (h oy hs hz)
  | succ e ih =>
    intro j oy hj hs hz
    have ec : (nI j).toNatClampNeg = j := nI_clamp (by omega)
    have hi : vp_in (nI j) 60 := vp_in_nI (by omega) (by omega)
    refine br_f (nI_ge (b := 60) (by omega) (by omega)) ⟨hi, hi, nm_r (e' := upd oy j (ob j)) (by rw [ec, bb_nz (hw j)]) (nm_r (nI_1 j) (ih (j + 1) _ (by omega) (fun i hi => ?_) (bb_Zu hz (hw j))))⟩
    by_cases q : i = j
    · subst q; rw [pk_us]
    · rw [pk_un q]; exact hs i (by omega)
theorem i_vc_open {k : Nat} {u : SX} {v : SY} (I : i_Rel k u v) (hk : k + 4 ≤ 2048) : wpX_open (fun r u' => wpY_open (fun r' v' => r' = r ∧ i_Rel (k + 4) u' v') v) u := by
  have J := i_up I
  obtain ⟨c, cb, b, ac, dy, am, fl, ox, mk, oy, ob, rfl, rfl, R⟩ := I
  obtain ⟨hc, hb, hm, hf, ho, hz, hw, ht⟩ := R
  unfold wpX_open wpY_open
  by_cases h0 : b = 0
  · refine br_t h0 ⟨61, bx_op (fun mk' hmk => ?_) 60 0 mk (by omega) (fun i hi => absurd hi (Nat.not_lt_zero i))⟩
    refine br_t h0 ⟨61, by_op hz (fun ob' hob hw' => ?_) 60 0 ob (by omega) (fun i hi => absurd hi (Nat.not_lt_zero i)) hw⟩
    exact ⟨rfl, c, c, 1, _, _, _, _, _, _, _, _, rfl, rfl, hc, Or.inr rfl, hm, hf, ho, hz, hw', fun _ => ⟨Nat.le_refl c, fun j hj => ⟨fun _ => by rw [hob j (by omega), ho j hj], fun w => absurd (hmk j (by omega)) w⟩⟩⟩
  · exact br_f h0 (br_f h0 ⟨rfl, J⟩)
theorem i_vc_close {k : Nat} {u : SX} {v : SY} (I : i_Rel k u v) (hk : k + 4 ≤ 2048) : wpX_close (fun r u' => wpY_close (fun r' v' => r' = r ∧ i_Rel (k + 4) u' v') v) u := by
  have J := i_up I
  obtain ⟨c, cb, b, ac, dy, am, fl, ox, mk, oy, ob, rfl, rfl, R⟩ := I
  obtain ⟨hc, hb, hm, hf, ho, hz, hw, ht⟩ := R
  unfold wpX_close wpY_close
  by_cases h0 : b = 0
  · exact br_t h0 (br_t h0 ⟨rfl, J⟩)
  · obtain ⟨hcb, hr⟩ := ht h0
    refine br_f h0 (bx_snd hc (fun s => br_f (by decide) ?_) (fun s => br_t rfl ?_))
    · refine br_f h0 (by_snd hc ho (fun _ => br_f (by decide) ?_) (fun t => absurd s t))
      exact ⟨rfl, c, cb, 0, _, _, _, _, _, _, _, _, rfl, rfl, hc, Or.inl rfl, hm, hf, ho, hz, hw, fun w => absurd rfl w⟩
    · unfold wpX_undoBatch
      refine ⟨cb + 1, bx_ub (ob := ob) (by omega) (fun ox' hox => ?_) cb 0 ox (by omega) (fun i hi => absurd hi (Nat.not_lt_zero i)) (fun i _ hi => hr i hi)⟩
      refine br_f h0 (by_snd hc ho (fun t => absurd t s) (fun _ => br_t rfl ⟨61, by_cl hw (fun oy' hoy hz' => ?_) 60 0 oy (by omega) (fun i hi => absurd hi (Nat.not_lt_zero i)) hz⟩))
      exact ⟨rfl, cb, cb, 0, _, _, _, _, _, _, _, _, rfl, rfl, by omega, Or.inl rfl, hm, hf, fun j hj => by rw [hox j hj, hoy j (by omega)], hz', hw, fun w => absurd rfl w⟩
