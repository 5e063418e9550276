/-! the relation; the constructors; the calls that write or read a table -/
/-- one pair of tables (costs of values, costs of pairs, allowed sets) lies in both states -/
def i_Rel (k : Nat) (u : SX) (v : SY) : Prop := ∃ (n d : Nat) (U : Nat → Nat → Nat) (B : Nat → Nat → Nat → Nat → Nat) (A : Nat → Nat) (xu xb xa yo yt ya : Nat → Int32), u = (nI n, nI d, nI (d ^ n), xu, xb, xa) ∧ v = (nI n, nI d, nI (d ^ n), yo, yt, ya) ∧ ws_wf n d U B A ∧ ws_X n d U B A xu xb xa ∧ ws_Y n d U B A yo yt ya
theorem i_up {k : Nat} {u : SX} {v : SY} (h : i_Rel k u v) : i_Rel (k + 4) u v := h
theorem ws_rel (k : Nat) {n d : Nat} {U : Nat → Nat → Nat} {B : Nat → Nat → Nat → Nat → Nat} {A : Nat → Nat} {xu xb xa yo yt ya : Nat → Int32} (W : ws_wf n d U B A) (X : ws_X n d U B A xu xb xa) (Y : ws_Y n d U B A yo yt ya) : i_Rel k (nI n, nI d, nI (d ^ n), xu, xb, xa) (nI n, nI d, nI (d ^ n), yo, yt, ya) := ⟨n, d, U, B, A, xu, xb, xa, yo, yt, ya, rfl, rfl, W, X, Y⟩
theorem ws_rel0 {n d : Nat} (hn2 : 2 ≤ n) (hn : n ≤ 6) (hd2 : 2 ≤ d) (hd : d ≤ 3) {xa ya : Nat → Int32} (hxa : ws_aa n (fun _ => 2 ^ d - 1) xa) (hya : ws_aa n (fun _ => 2 ^ d - 1) ya) : i_Rel 2 (nI n, nI d, nI (d ^ n), (fun _ => 0), (fun _ => 0), xa) (nI n, nI d, nI (d ^ n), (fun _ => 0), (fun _ => 0), ya) := by
  have h8 : 2 ^ d ≤ 2 ^ 3 := Nat.pow_le_pow_right (by decide) hd
  refine ws_rel 2 (U := fun _ _ => 0) (B := fun _ _ _ _ => 0) (A := fun _ => 2 ^ d - 1) ⟨⟨hn2, hn⟩, ⟨hd2, hd⟩, fun _ _ => Nat.zero_le _, fun _ _ _ _ => Nat.zero_le _, fun _ => ?_⟩ ⟨fun _ _ _ _ => rfl, fun u v a b _ _ _ _ _ => ?_, hxa⟩ ⟨fun _ _ _ _ => rfl, fun u v a b _ _ _ _ _ => ?_, hya⟩
  · show 2 ^ d - 1 < 8
    omega
  · show (0 : Int32) = nI (if u < v then 0 else 0)
    rw [ite_self]
    rfl
  · show (0 : Int32) = nI (if u < v then 0 else 0)
    rw [ite_self]
    rfl
theorem i_vc0 (k0 : Int32) (k1 : Int32) : wpX_init (fun u => wpY_init (fun v => i_Rel 2 u v) k0 k1) k0 k1 := by
  obtain ⟨n, hn2, hn, Fn⟩ := ws_clamp k0 2 6 (by decide) (by decide)
  obtain ⟨d, hd2, hd, Fd⟩ := ws_clamp k1 2 3 (by decide) (by decide)
  have FnX : ∀ post : Int32 → Prop, post (nI n) → wpX_clamp post k0 2 6 := fun post h => Fn post h
  have FdX : ∀ post : Int32 → Prop, post (nI d) → wpX_clamp post k1 2 3 := fun post h => Fd post h
  have GY : ∀ post : SY → Prop, (∀ ya, ws_aa n (fun _ => 2 ^ d - 1) ya → post (nI n, nI d, nI (d ^ n), (fun _ => 0), (fun _ => 0), ya)) → wpY_init post k0 k1 := fun post h =>
    Fn (fun z => wY_init_51 post k1 z 0 0 0 (fun _ => 0) (fun _ => 0) (fun _ => 0)) (Fd (fun z => ∃ n84 : Nat, wY_init_84 post (nI n) z n84 0 1 (fun _ => 0) (fun _ => 0) (fun _ => 0)) ⟨n + 1, wy_init_l hn hd h n 0 (n + 1) (fun _ => 0) (by omega) (by omega) (fun v hv => absurd hv (Nat.not_lt_zero v))⟩)
  unfold wpX_init
  refine FnX _ (FdX _ ⟨n + 1, ?_⟩)
  exact wx_init_l hn hd (fun xa hxa => GY _ (fun ya hya => ws_rel0 hn2 hn hd2 hd hxa hya)) n 0 (n + 1) (fun _ => 0) (by omega) (by omega) (fun v hv => absurd hv (Nat.not_lt_zero v))
theorem i_vc_unary {k : Nat} {u : SX} {v : SY} (I : i_Rel k u v) (hk : k + 4 ≤ 2050) (v1 : Int32) (v2 : Int32) (v3 : Int32) : wpX_unary (fun r u' => wpY_unary (fun r' v' => r' = r ∧ i_Rel (k + 4) u' v') v v1 v2 v3) u v1 v2 v3 := by
  obtain ⟨n, d, U, B, A, xu, xb, xa, yo, yt, ya, rfl, rfl, W, X, Y⟩ := I
  have R := ws_rel (k + 4) W X Y
  obtain ⟨⟨hn2, hn6⟩, ⟨hd2, hd3⟩, hU, hB, hA⟩ := W
  unfold wpX_unary
  dsimp only
  rcases ws_var_c v1 (n := n) (by omega) with h1 | ⟨w, hw, rfl⟩
  · refine wx_var_b h1 (br_t rfl ?_)
    unfold wpY_unary
    dsimp only
    exact wy_var_b h1 (br_f (by decide) ⟨rfl, R⟩)
  · refine wx_var_g hn6 hw (br_f (by decide) ?_)
    rcases ws_var_c v2 (n := d) (by omega) with h2 | ⟨a, ha, rfl⟩
    · refine wx_value_b h2 (br_t rfl ?_)
      unfold wpY_unary
      dsimp only
      exact wy_var_g hn6 hw (br_t rfl (wy_value_b h2 (br_f (by decide) ⟨rfl, R⟩)))
    · refine wx_value_g hd3 ha (br_f (by decide) ?_)
      rcases ws_cost_c v3 with h3 | ⟨c, hc, rfl⟩
      · refine wx_cost_b h3 (br_t rfl ?_)
        unfold wpY_unary
        dsimp only
        exact wy_var_g hn6 hw (br_t rfl (wy_value_g hd3 ha (br_t rfl (wy_cost_b h3 (br_f (by decide) ⟨rfl, R⟩)))))
      · have hi := ws_uc_lt hn6 hd3 hw ha
        refine wx_cost_g hc (br_f (by decide) (wx_uc ⟨vp_in_nI hi (by decide), fun x ex => ⟨vp_in_nI hi (by decide), fun xu2 exu => ?_⟩⟩))
        unfold wpY_unary
        dsimp only
        refine wy_var_g hn6 hw (br_t rfl (wy_value_g hd3 ha (br_t rfl (wy_cost_g hc (br_t rfl ?_)))))
        rw [ws_ouI]
        rw [nI_clamp (by omega)] at ex exu
        refine ⟨vp_in_nI (by omega) (by decide), fun y ey => ⟨vp_in_nI (by omega) (by decide), fun yo2 eyo => ⟨?_, ?_⟩⟩⟩
        · rw [ey, ex, nI_clamp (by omega), X.1 w a hw ha, Y.1 w a hw ha]
        · rw [nI_clamp (by omega)] at eyo
          rw [exu, eyo]
          exact ws_rel (k + 4) (U := ws_U1 U w a c) (B := B) (A := A) ⟨⟨hn2, hn6⟩, ⟨hd2, hd3⟩, ws_U1_le hU (by omega), hB, hA⟩ ⟨ws_xu_w X.1 ha, X.2.1, X.2.2⟩ ⟨ws_yu_w Y.1 hd3 ha, Y.2.1, Y.2.2⟩
theorem i_vc_binary {k : Nat} {u : SX} {v : SY} (I : i_Rel k u v) (hk : k + 4 ≤ 2050) (v1 : Int32) (v2 : Int32) (v3 : Int32) : wpX_binary (fun r u' => wpY_binary (fun r' v' => r' = r ∧ i_Rel (k + 4) u' v') v v1 v2 v3) u v1 v2 v3 := by
  obtain ⟨n, d, U, B, A, xu, xb, xa, yo, yt, ya, rfl, rfl, W, X, Y⟩ := I
  have R := ws_rel (k + 4) W X Y
  obtain ⟨⟨hn2, hn6⟩, ⟨hd2, hd3⟩, hU, hB, hA⟩ := W
  unfold wpX_binary
  dsimp only
  rcases ws_pair_c v1 hn6 with h1 | ⟨p, q, hp, hq, hpq, rfl⟩
  · refine wx_pair_b hn2 hn6 h1 (br_t rfl ?_)
    unfold wpY_binary
    dsimp only
    exact wy_pair_b hn2 hn6 h1 (br_f (by decide) ⟨rfl, R⟩)
  · refine wx_pair_g hn2 hn6 hp hq hpq (br_f (by decide) ?_)
    rcases ws_two_c v2 hd3 with h2 | ⟨a, b, ha, hb, rfl⟩
    · refine wx_two_b h2 (br_t rfl ?_)
      unfold wpY_binary
      dsimp only
      exact wy_pair_g hn2 hn6 hp hq hpq (br_t rfl (wy_two_b hd2 hd3 h2 (br_f (by decide) ⟨rfl, R⟩)))
    · have hab := ws_lt2 ha hb
      refine wx_two_g hd3 hab (br_f (by decide) ?_)
      rcases ws_cost_c v3 with h3 | ⟨c, hc, rfl⟩
      · refine wx_cost_b h3 (br_t rfl ?_)
        unfold wpY_binary
        dsimp only
        exact wy_pair_g hn2 hn6 hp hq hpq (br_t rfl (wy_two_g hd3 hab (br_t rfl (wy_cost_b h3 (br_f (by decide) ⟨rfl, R⟩)))))
      · have hi := ws_cl_lt hn6 hd3 hp hq ha hb
        have hj1 := ws_py_lt (u := p) (v := q) (a := a) (b := b) (by omega) (by omega) (by omega) (by omega)
        have hj2 := ws_py_lt (u := q) (v := p) (a := b) (b := a) (by omega) (by omega) (by omega) (by omega)
        refine wx_cost_g hc (br_f (by decide) (wx_cell hn2 hn6 hd2 hd3 hp hq hpq ha hb ⟨vp_in_nI hi (by decide), fun x ex => ⟨vp_in_nI hi (by decide), fun xb2 exb => ?_⟩⟩))
        unfold wpY_binary
        dsimp only
        refine wy_pair_g hn2 hn6 hp hq hpq (br_t rfl (wy_two_g hd3 hab (br_t rfl (wy_cost_g hc (br_t rfl (wy_place hn6 hd3 hp hq ha hb (wy_mirr hn6 hd3 hp hq ha hb ?_)))))))
        rw [nI_clamp (by omega)] at ex exb
        refine ⟨vp_in_nI hj1 (by decide), fun y ey => ⟨vp_in_nI hj1 (by decide), fun y1 ey1 => ⟨vp_in_nI hj2 (by decide), fun y2 ey2 => ⟨?_, ?_⟩⟩⟩⟩
        · rw [ey, ex, nI_clamp (by omega), X.2.1 p q a b hp hq hpq ha hb, Y.2.1 p q a b hp hq hpq ha hb]
        · rw [nI_clamp (by omega)] at ey1 ey2
          rw [exb, ey2, ey1]
          exact ws_rel (k + 4) (U := U) (B := ws_Bw B p q a b c) (A := A) ⟨⟨hn2, hn6⟩, ⟨hd2, hd3⟩, hU, ws_Bw_le hB (by omega), hA⟩ ⟨X.1, ws_xb_w X.2.1 hp hq hpq ha hb, X.2.2⟩ ⟨Y.1, ws_yb_w Y.2.1 hn6 hd3 hp hq hpq ha hb, Y.2.2⟩
theorem i_vc_relate {k : Nat} {u : SX} {v : SY} (I : i_Rel k u v) (hk : k + 4 ≤ 2050) (v1 : Int32) (v2 : Int32) (v3 : Int32) : wpX_relate (fun r u' => wpY_relate (fun r' v' => r' = r ∧ i_Rel (k + 4) u' v') v v1 v2 v3) u v1 v2 v3 := by
  obtain ⟨n, d, U, B, A, xu, xb, xa, yo, yt, ya, rfl, rfl, W, X, Y⟩ := I
  have R := ws_rel (k + 4) W X Y
  obtain ⟨⟨hn2, hn6⟩, ⟨hd2, hd3⟩, hU, hB, hA⟩ := W
  unfold wpX_relate
  dsimp only
  rcases ws_pair_c v1 hn6 with h1 | ⟨p, q, hp, hq, hpq, rfl⟩
  · refine wx_pair_b hn2 hn6 h1 (br_t rfl ?_)
    unfold wpY_relate
    dsimp only
    exact wy_pair_b hn2 hn6 h1 (br_f (by decide) ⟨rfl, R⟩)
  · refine wx_pair_g hn2 hn6 hp hq hpq (br_f (by decide) ?_)
    by_cases h2 : v2 < 0
    · refine br_t h2 ?_
      unfold wpY_relate
      dsimp only
      exact wy_pair_g hn2 hn6 hp hq hpq (br_t rfl (br_t h2 ⟨rfl, R⟩))
    · refine br_f h2 ?_
      by_cases h3 : v2 ≤ 2
      · refine br_t h3 ?_
        by_cases h4 : v3 < 0
        · refine br_t h4 ?_
          unfold wpY_relate
          dsimp only
          exact wy_pair_g hn2 hn6 hp hq hpq (br_t rfl (br_f h2 (br_t h3 (br_t h4 ⟨rfl, R⟩))))
        · refine br_f h4 ?_
          by_cases h5 : v3 ≤ 10
          · refine br_t h5 ?_
            obtain ⟨c, hc, rfl⟩ := nI_of2 (M := 2) (n := 2) (by decide) h2 h3
            obtain ⟨w, hw, rfl⟩ := nI_of2 (M := 10) (n := 10) (by decide) h4 h5
            refine ⟨d * d + 1, wx_relate_l (B := B) hn2 hn6 hd2 hd3 hp hq hpq (by omega) (fun xb2 hxb2 => ?_) (d * d) 0 (d * d + 1) xb (by omega) (by omega) X.2.1⟩
            unfold wpY_relate
            dsimp only
            refine wy_pair_g hn2 hn6 hp hq hpq (br_t rfl (br_f h2 (br_t h3 (br_f h4 (br_t h5 ⟨d + 1, wy_relate_38 (B := B) hn6 hd2 hd3 hp hq hpq (by omega) (fun yt2 hyt2 => ⟨rfl, ?_⟩) d 0 (d + 1) yt (by omega) (by omega) Y.2.1⟩)))))
            exact ws_rel (k + 4) (U := U) (B := ws_it d p q c w B (d * d)) (A := A) ⟨⟨hn2, hn6⟩, ⟨hd2, hd3⟩, hU, ws_it_le hd3 (by omega) hw hB (d * d) (Nat.le_refl _), hA⟩ ⟨X.1, hxb2, X.2.2⟩ ⟨Y.1, hyt2, Y.2.2⟩
          · refine br_f h5 ?_
            unfold wpY_relate
            dsimp only
            exact wy_pair_g hn2 hn6 hp hq hpq (br_t rfl (br_f h2 (br_t h3 (br_f h4 (br_f h5 ⟨rfl, R⟩)))))
      · refine br_f h3 ?_
        unfold wpY_relate
        dsimp only
        exact wy_pair_g hn2 hn6 hp hq hpq (br_t rfl (br_f h2 (br_f h3 ⟨rfl, R⟩)))
theorem i_vc_unaryCost {k : Nat} {u : SX} {v : SY} (I : i_Rel k u v) (hk : k + 4 ≤ 2050) (v1 : Int32) (v2 : Int32) : wpX_unaryCost (fun r => wpY_unaryCost (fun r' => r' = r ∧ i_Rel (k + 4) u v) v v1 v2) u v1 v2 := by
  obtain ⟨n, d, U, B, A, xu, xb, xa, yo, yt, ya, rfl, rfl, W, X, Y⟩ := I
  have R := ws_rel (k + 4) W X Y
  obtain ⟨⟨hn2, hn6⟩, ⟨hd2, hd3⟩, hU, hB, hA⟩ := W
  unfold wpX_unaryCost wpY_unaryCost
  dsimp only
  rcases ws_var_c v1 (n := n) (by omega) with h1 | ⟨w, hw, rfl⟩
  · exact wx_var_b h1 (br_t rfl (wy_var_b h1 (br_f (by decide) ⟨rfl, R⟩)))
  · refine wx_var_g hn6 hw (br_f (by decide) ?_)
    rcases ws_var_c v2 (n := d) (by omega) with h2 | ⟨a, ha, rfl⟩
    · exact wx_value_b h2 (br_t rfl (wy_var_g hn6 hw (br_t rfl (wy_value_b h2 (br_f (by decide) ⟨rfl, R⟩)))))
    · have hi := ws_uc_lt hn6 hd3 hw ha
      refine wx_value_g hd3 ha (br_f (by decide) (wx_uc ⟨vp_in_nI hi (by decide), ?_⟩))
      refine wy_var_g hn6 hw (br_t rfl (wy_value_g hd3 ha (br_t rfl ?_)))
      rw [ws_ouI]
      refine ⟨vp_in_nI (by omega) (by decide), ?_, R⟩
      rw [nI_clamp (by omega), nI_clamp (by omega), X.1 w a hw ha, Y.1 w a hw ha]
theorem i_vc_binaryCost {k : Nat} {u : SX} {v : SY} (I : i_Rel k u v) (hk : k + 4 ≤ 2050) (v1 : Int32) (v2 : Int32) : wpX_binaryCost (fun r => wpY_binaryCost (fun r' => r' = r ∧ i_Rel (k + 4) u v) v v1 v2) u v1 v2 := by
  obtain ⟨n, d, U, B, A, xu, xb, xa, yo, yt, ya, rfl, rfl, W, X, Y⟩ := I
  have R := ws_rel (k + 4) W X Y
  obtain ⟨⟨hn2, hn6⟩, ⟨hd2, hd3⟩, hU, hB, hA⟩ := W
  unfold wpX_binaryCost wpY_binaryCost
  dsimp only
  rcases ws_pair_c v1 hn6 with h1 | ⟨p, q, hp, hq, hpq, rfl⟩
  · exact wx_pair_b hn2 hn6 h1 (br_t rfl (wy_pair_b hn2 hn6 h1 (br_f (by decide) ⟨rfl, R⟩)))
  · refine wx_pair_g hn2 hn6 hp hq hpq (br_f (by decide) ?_)
    rcases ws_two_c v2 hd3 with h2 | ⟨a, b, ha, hb, rfl⟩
    · exact wx_two_b h2 (br_t rfl (wy_pair_g hn2 hn6 hp hq hpq (br_t rfl (wy_two_b hd2 hd3 h2 (br_f (by decide) ⟨rfl, R⟩)))))
    · have hab := ws_lt2 ha hb
      have hi := ws_cl_lt hn6 hd3 hp hq ha hb
      have hj1 := ws_py_lt (u := p) (v := q) (a := a) (b := b) (by omega) (by omega) (by omega) (by omega)
      refine wx_two_g hd3 hab (br_f (by decide) (wx_cell hn2 hn6 hd2 hd3 hp hq hpq ha hb ⟨vp_in_nI hi (by decide), ?_⟩))
      refine wy_pair_g hn2 hn6 hp hq hpq (br_t rfl (wy_two_g hd3 hab (br_t rfl (wy_place hn6 hd3 hp hq ha hb ⟨vp_in_nI hj1 (by decide), ?_, R⟩))))
      rw [nI_clamp (by omega), nI_clamp (by omega), X.2.1 p q a b hp hq hpq ha hb, Y.2.1 p q a b hp hq hpq ha hb]
theorem i_vc_allow {k : Nat} {u : SX} {v : SY} (I : i_Rel k u v) (hk : k + 4 ≤ 2050) (v1 : Int32) (v2 : Int32) : wpX_allow (fun r u' => wpY_allow (fun r' v' => r' = r ∧ i_Rel (k + 4) u' v') v v1 v2) u v1 v2 := by
  obtain ⟨n, d, U, B, A, xu, xb, xa, yo, yt, ya, rfl, rfl, W, X, Y⟩ := I
  have R := ws_rel (k + 4) W X Y
  obtain ⟨⟨hn2, hn6⟩, ⟨hd2, hd3⟩, hU, hB, hA⟩ := W
  have h8 : 2 ^ d ≤ 2 ^ 3 := Nat.pow_le_pow_right (by decide) hd3
  unfold wpX_allow
  dsimp only
  rw [ws_full d (by omega)]
  rcases ws_var_c v1 (n := n) (by omega) with h1 | ⟨w, hw, rfl⟩
  · refine wx_var_b h1 (br_t rfl ?_)
    unfold wpY_allow
    dsimp only
    exact wy_var_b h1 (br_f (by decide) ⟨rfl, R⟩)
  · refine wx_var_g hn6 hw (br_f (by decide) ?_)
    by_cases h2 : v2 < 1
    · refine br_t h2 ?_
      unfold wpY_allow
      dsimp only
      exact wy_var_g hn6 hw (br_t rfl (br_t h2 ⟨rfl, R⟩))
    · refine br_f h2 ?_
      by_cases h3 : v2 ≤ nI (2 ^ d - 1)
      · refine br_t h3 ?_
        have h0 : ¬ v2 < 0 := fun z => h2 (Int32.lt_of_lt_of_le z (by decide))
        obtain ⟨s, hs, rfl⟩ := nI_of2 (n := 2 ^ d - 1) (nI_toInt (by omega)) h0 h3
        refine ⟨vp_in_nI (by omega) (by decide), fun x ex => ⟨vp_in_nI (by omega) (by decide), fun xa2 exa => ?_⟩⟩
        rw [nI_clamp (by omega)] at ex exa
        unfold wpY_allow
        dsimp only
        rw [ws_full d (by omega)]
        refine wy_var_g hn6 hw (br_t rfl (br_f h2 (br_t h3 ⟨vp_in_nI (by omega) (by decide), fun y ey => ⟨vp_in_nI (by omega) (by decide), fun ya2 eya => ⟨?_, ?_⟩⟩⟩)))
        · rw [ey, ex, nI_clamp (by omega), X.2.2 w hw, Y.2.2 w hw]
        · rw [nI_clamp (by omega)] at eya
          rw [exa, eya]
          exact ws_rel (k + 4) (U := U) (B := B) (A := ws_A1 A w s) ⟨⟨hn2, hn6⟩, ⟨hd2, hd3⟩, hU, hB, ws_A1_lt hA (by omega)⟩ ⟨X.1, X.2.1, ws_aa_w X.2.2⟩ ⟨Y.1, Y.2.1, ws_aa_w Y.2.2⟩
      · refine br_f h3 ?_
        unfold wpY_allow
        dsimp only
        rw [ws_full d (by omega)]
        exact wy_var_g hn6 hw (br_t rfl (br_f h2 (br_f h3 ⟨rfl, R⟩)))
