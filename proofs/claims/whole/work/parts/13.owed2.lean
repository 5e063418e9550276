/-! the questions -/
theorem i_vc_best {k : Nat} {u : SX} {v : SY} (I : i_Rel k u v) (hk : k + 4 ≤ 2050) : wpX_best (fun r => wpY_best (fun r' => r' = r ∧ i_Rel (k + 4) u v) v) u := by
  obtain ⟨n, d, U, B, A, xu, xb, xa, yo, yt, ya, rfl, rfl, W, X, Y⟩ := I
  unfold wpX_best
  dsimp only
  exact wx_best W X (wy_best W Y ⟨rfl, ws_rel (k + 4) W X Y⟩)
theorem i_vc_bestCount {k : Nat} {u : SX} {v : SY} (I : i_Rel k u v) (hk : k + 4 ≤ 2050) : wpX_bestCount (fun r => wpY_bestCount (fun r' => r' = r ∧ i_Rel (k + 4) u v) v) u := by
  obtain ⟨n, d, U, B, A, xu, xb, xa, yo, yt, ya, rfl, rfl, W, X, Y⟩ := I
  unfold wpX_bestCount wpY_bestCount
  dsimp only
  exact wx_best W X (wx_ct W X (wy_best W Y (wy_bc W Y (fun a ha => ws_mn_le (ws_cob W) ha) ⟨congrArg nI (ws_count_eq (ws_cob W)).symm, ws_rel (k + 4) W X Y⟩)))
theorem i_vc_bestValue {k : Nat} {u : SX} {v : SY} (I : i_Rel k u v) (hk : k + 4 ≤ 2050) (v1 : Int32) : wpX_bestValue (fun r => wpY_bestValue (fun r' => r' = r ∧ i_Rel (k + 4) u v) v v1) u v1 := by
  obtain ⟨n, d, U, B, A, xu, xb, xa, yo, yt, ya, rfl, rfl, W, X, Y⟩ := I
  have R := ws_rel (k + 4) W X Y
  have hn6 := W.1.2
  have hd2 := W.2.1.1
  have hd3 := W.2.1.2
  have hall := ws_pow hn6 hd3
  unfold wpX_bestValue wpY_bestValue
  dsimp only
  rcases ws_var_c v1 (n := n) (by omega) with h1 | ⟨w, hw, rfl⟩
  · exact wx_var_b h1 (br_t rfl (wy_var_b h1 (br_f (by decide) ⟨rfl, R⟩)))
  · refine wx_var_g hn6 hw (br_f (by decide) (wx_best W X ?_))
    have hsp := ws_mn_spec (ws_co n d U B A) (d ^ n)
    cases hL : ws_mn (ws_co n d U B A) (d ^ n) with
    | none =>
      refine br_t rfl (wy_var_g hn6 hw (br_t rfl (wy_best W Y ?_)))
      rw [hL]
      refine wy_bv_f W Y (L := none) (fun a ha => by cases ha) (fun j hj z => ?_) ⟨rfl, R⟩
      obtain ⟨m, h2, h3⟩ := ws_hit_t z
      cases h3
    | some m =>
      have hm := ws_mn_le (ws_cob W) hL
      obtain ⟨⟨i, hi, hci⟩, hmin⟩ := hsp.2 m hL
      obtain ⟨i0, hc0, hl0⟩ := pk_least (fun j => ws_co n d U B A j = some m) ⟨i, hci⟩
      have hi0 : i0 < d ^ n := by
        rcases Nat.lt_or_ge i i0 with z | z
        · exact absurd hci (hl0 i z)
        · omega
      refine br_f (ws_ne1 (by omega)) (wx_fw W X hi0 hc0 hl0 (wx_val hn6 hd2 hd3 (by omega) hw (wy_var_g hn6 hw (br_t rfl (wy_best W Y ?_)))))
      rw [hL]
      refine wy_bv_t W Y (L := some m) (fun a ha => by cases ha; exact hm) hw hi0 (by rw [hc0, ws_hit_s]) (fun j hj z => ?_) ⟨rfl, R⟩
      obtain ⟨m1, h2, h3⟩ := ws_hit_t z
      cases h3
      exact hl0 j hj h2
theorem i_vc_bestWith {k : Nat} {u : SX} {v : SY} (I : i_Rel k u v) (hk : k + 4 ≤ 2050) (v1 : Int32) (v2 : Int32) : wpX_bestWith (fun r => wpY_bestWith (fun r' => r' = r ∧ i_Rel (k + 4) u v) v v1 v2) u v1 v2 := by
  obtain ⟨n, d, U, B, A, xu, xb, xa, yo, yt, ya, rfl, rfl, W, X, Y⟩ := I
  have R := ws_rel (k + 4) W X Y
  have hn6 := W.1.2
  have hd3 := W.2.1.2
  unfold wpX_bestWith wpY_bestWith
  dsimp only
  rcases ws_var_c v1 (n := n) (by omega) with h1 | ⟨w, hw, rfl⟩
  · exact wx_var_b h1 (br_t rfl (wy_var_b h1 (br_f (by decide) ⟨rfl, R⟩)))
  · refine wx_var_g hn6 hw (br_f (by decide) ?_)
    rcases ws_var_c v2 (n := d) (by omega) with h2 | ⟨a, ha, rfl⟩
    · exact wx_value_b h2 (br_t rfl (wy_var_g hn6 hw (br_t rfl (wy_value_b h2 (br_f (by decide) ⟨rfl, R⟩)))))
    · refine wx_value_g hd3 ha (br_f (by decide) (wx_lw W X hw hw ha ha ?_))
      cases hL : ws_mn (ws_pw (ws_co n d U B A) (fun x => ws_val n d x w) (fun x => ws_val n d x w) a a) (d ^ n) with
      | none =>
        refine br_t rfl (wy_var_g hn6 hw (br_t rfl (wy_value_g hd3 ha (br_t rfl (wy_bw W Y hw ha ?_)))))
        rw [hL]
        exact ⟨rfl, R⟩
      | some m =>
        have hm := ws_mn_le (ws_pw_le (ws_cob W)) hL
        refine br_f (ws_ne1 (by omega)) (wy_var_g hn6 hw (br_t rfl (wy_value_g hd3 ha (br_t rfl (wy_bw W Y hw ha ?_)))))
        rw [hL]
        exact ⟨rfl, R⟩
theorem i_vc_bestWithPair {k : Nat} {u : SX} {v : SY} (I : i_Rel k u v) (hk : k + 4 ≤ 2050) (v1 : Int32) (v2 : Int32) : wpX_bestWithPair (fun r => wpY_bestWithPair (fun r' => r' = r ∧ i_Rel (k + 4) u v) v v1 v2) u v1 v2 := by
  obtain ⟨n, d, U, B, A, xu, xb, xa, yo, yt, ya, rfl, rfl, W, X, Y⟩ := I
  have R := ws_rel (k + 4) W X Y
  have hn2 := W.1.1
  have hn6 := W.1.2
  have hd2 := W.2.1.1
  have hd3 := W.2.1.2
  have h36 := ws_le36 hn6
  have h9 := ws_le9 hd3
  unfold wpX_bestWithPair wpY_bestWithPair
  dsimp only
  rcases ws_pair_c v1 hn6 with h1 | ⟨p, q, hp, hq, hpq, rfl⟩
  · exact wx_pair_b hn2 hn6 h1 (br_t rfl (wy_pair_b hn2 hn6 h1 (br_f (by decide) ⟨rfl, R⟩)))
  · refine wx_pair_g hn2 hn6 hp hq hpq (br_f (by decide) ?_)
    rcases ws_two_c v2 hd3 with h2 | ⟨a, b, ha, hb, rfl⟩
    · exact wx_two_b h2 (br_t rfl (wy_pair_g hn2 hn6 hp hq hpq (br_t rfl (wy_two_b hd2 hd3 h2 (br_f (by decide) ⟨rfl, R⟩)))))
    · have hab := ws_lt2 ha hb
      have hpq2 := ws_lt2 hp hq
      have z := ws_q (u := p) hq (by omega) (by omega)
      have y := ws_q (u := a) hb (by omega) (by omega)
      have z2 := ws_dm (a := p) hq
      have y2 := ws_dm (a := a) hb
      refine wx_two_g hd3 hab (br_f (by decide) ⟨nI_ne0 (by omega) (by omega), nI_ne0 (by omega) (by omega), nI_ne0 (by omega) (by omega), nI_ne0 (by omega) (by omega), ?_⟩)
      rw [z.2, z.1, y.2, y.1]
      have GY : ∀ r : Int32, ws_en (-3) (ws_mn (ws_pw (ws_co n d U B A) (fun x => ws_val n d x p) (fun x => ws_val n d x q) a b) (d ^ n)) = r → wpY_bestWithPair (fun r' => r' = r ∧ i_Rel (k + 4) (nI n, nI d, nI (d ^ n), xu, xb, xa) (nI n, nI d, nI (d ^ n), yo, yt, ya)) (nI n, nI d, nI (d ^ n), yo, yt, ya) (nI (n * p + q)) (nI (d * a + b)) := fun r hr => by
        unfold wpY_bestWithPair
        dsimp only
        refine wy_pair_g hn2 hn6 hp hq hpq (br_t rfl (wy_two_g hd3 hab (br_t rfl (wy_over (by omega) (by omega) (by omega) (wy_rest (by omega) (by omega) (by omega) (wy_over (by omega) (by omega) (by omega) (wy_rest (by omega) (by omega) (by omega) ?_)))))))
        rw [z2.1, z2.2, y2.1, y2.2]
        exact wy_bp W Y hp hq ha hb ⟨hr, R⟩
      unfold wpY_bestWithPair at GY
      dsimp only at GY
      refine wx_lw W X hp hq ha hb ?_
      cases hL : ws_mn (ws_pw (ws_co n d U B A) (fun x => ws_val n d x p) (fun x => ws_val n d x q) a b) (d ^ n) with
      | none =>
        rw [hL] at GY
        exact br_t rfl (GY _ rfl)
      | some m =>
        have hm := ws_mn_le (ws_pw_le (ws_cob W)) hL
        rw [hL] at GY
        exact br_f (ws_ne1 (by omega)) (GY _ rfl)
theorem i_vc_countUpTo {k : Nat} {u : SX} {v : SY} (I : i_Rel k u v) (hk : k + 4 ≤ 2050) (v1 : Int32) : wpX_countUpTo (fun r => wpY_countUpTo (fun r' => r' = r ∧ i_Rel (k + 4) u v) v v1) u v1 := by
  obtain ⟨n, d, U, B, A, xu, xb, xa, yo, yt, ya, rfl, rfl, W, X, Y⟩ := I
  unfold wpX_countUpTo
  dsimp only
  exact wx_ct W X (wy_ct W Y ⟨rfl, ws_rel (k + 4) W X Y⟩)
theorem i_vc_nextCost {k : Nat} {u : SX} {v : SY} (I : i_Rel k u v) (hk : k + 4 ≤ 2050) (v1 : Int32) : wpX_nextCost (fun r => wpY_nextCost (fun r' => r' = r ∧ i_Rel (k + 4) u v) v v1) u v1 := by
  obtain ⟨n, d, U, B, A, xu, xb, xa, yo, yt, ya, rfl, rfl, W, X, Y⟩ := I
  unfold wpX_nextCost
  dsimp only
  exact wx_la W X (wy_next W Y ⟨rfl, ws_rel (k + 4) W X Y⟩)
theorem i_vc_costOf {k : Nat} {u : SX} {v : SY} (I : i_Rel k u v) (hk : k + 4 ≤ 2050) (v1 : Int32) : wpX_costOf (fun r => wpY_costOf (fun r' => r' = r ∧ i_Rel (k + 4) u v) v v1) u v1 := by
  obtain ⟨n, d, U, B, A, xu, xb, xa, yo, yt, ya, rfl, rfl, W, X, Y⟩ := I
  have R := ws_rel (k + 4) W X Y
  have hall := ws_pow W.1.2 W.2.1.2
  have hpos : 0 < d ^ n := Nat.pow_pos (by have := W.2.1.1; omega)
  unfold wpX_costOf wpY_costOf
  dsimp only
  rw [ws_m1 hpos]
  rcases ws_var_c v1 (n := d ^ n) (by omega) with (h1 | h1) | ⟨x, hx, rfl⟩
  · exact br_t h1 (br_t h1 ⟨rfl, R⟩)
  · have h2 : ¬ v1 < nI (d ^ n) := Int32.not_lt.mpr h1
    have h3 := ws_nle hpos (by omega) h1
    exact br_c (fun z => br_t z ⟨rfl, R⟩) (fun z => br_f h2 (br_f z (br_f h3 ⟨rfl, R⟩)))
  · refine br_f (nI_pos (by omega)) (br_t (nI_lt hx (by omega)) (wx_sol W X (by omega) ?_))
    cases hco : ws_co n d U B A x with
    | none =>
      refine br_t rfl (br_f (nI_pos (by omega)) (br_t (nI_le (by omega) (by omega)) (wy_cost W Y (by omega) ?_)))
      rw [hco]
      exact ⟨rfl, R⟩
    | some c =>
      have hc := ws_cob W x c hco
      refine br_f (ws_ne1 (by omega)) (br_f (nI_pos (by omega)) (br_t (nI_le (by omega) (by omega)) (wy_cost W Y (by omega) ?_)))
      rw [hco]
      exact ⟨rfl, R⟩
theorem i_vc_choices {k : Nat} {u : SX} {v : SY} (I : i_Rel k u v) (hk : k + 4 ≤ 2050) (v1 : Int32) : wpX_choices (fun r => wpY_choices (fun r' => r' = r ∧ i_Rel (k + 4) u v) v v1) u v1 := by
  obtain ⟨n, d, U, B, A, xu, xb, xa, yo, yt, ya, rfl, rfl, W, X, Y⟩ := I
  have R := ws_rel (k + 4) W X Y
  have hn6 := W.1.2
  have hd2 := W.2.1.1
  have hd3 := W.2.1.2
  unfold wpX_choices wpY_choices
  dsimp only
  rcases ws_var_c v1 (n := n) (by omega) with h1 | ⟨w, hw, rfl⟩
  · exact wx_var_b h1 (br_t rfl (wy_var_b h1 (br_f (by decide) ⟨rfl, R⟩)))
  · refine wx_var_g hn6 hw (br_f (by decide) (wx_best W X ?_))
    cases hL : ws_mn (ws_co n d U B A) (d ^ n) with
    | none =>
      refine br_t rfl (wy_var_g hn6 hw (br_t rfl (wy_best W Y ?_)))
      rw [hL]
      refine wy_ch W Y (L := none) (fun a ha => by cases ha) hw ⟨?_, R⟩
      have hb : ∀ a, (ws_mk (fun x => ws_hit none (ws_co n d U B A x)) (fun x => ws_val n d x w) (d ^ n)).testBit a = false := by
        intro a
        cases e : (ws_mk (fun x => ws_hit none (ws_co n d U B A x)) (fun x => ws_val n d x w) (d ^ n)).testBit a with
        | false => rfl
        | true =>
          obtain ⟨i, _, h2, _⟩ := (ws_mk_bit _ _ _ _).mp e
          obtain ⟨m, _, h3⟩ := ws_hit_t h2
          cases h3
      rw [hb 0, hb 1, hb 2]
      rfl
    | some m =>
      have hm := ws_mn_le (ws_cob W) hL
      refine br_f (ws_ne1 (by omega)) (wx_ch W X hw hm (wy_var_g hn6 hw (br_t rfl (wy_best W Y ?_))))
      rw [hL]
      exact wy_ch W Y (L := some m) (fun a ha => by cases ha; exact hm) hw ⟨congrArg nI (ws_ch_eq hd2 hd3 (fun i => ws_val_lt hd2) hL).symm, R⟩
