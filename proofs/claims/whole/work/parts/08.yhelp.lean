/-! Y's own methods -/
theorem ws_pyI (u v a b : Nat) : ((9 * ((6 * nI u) + nI v)) + (3 * nI a)) + nI b = nI (ws_py u v a b) := by
  show ((nI 9 * ((nI 6 * nI u) + nI v)) + (nI 3 * nI a)) + nI b = _
  simp only [pk_mul, nI_add]
  rfl
theorem ws_ouI (v a : Nat) : (3 * nI v) + nI a = nI (3 * v + a) := by
  show (nI 3 * nI v) + nI a = _
  rw [pk_mul, nI_add]
section
variable {post : Int32 → Prop} {n d : Nat} {e : Int32} {yo yt ya : Nat → Int32}
theorem wy_var_g {j : Nat} (hn : n ≤ 6) (hj : j < n) (h : post 0) : wpY_badVar post (nI n, nI d, e, yo, yt, ya) (nI j) := by
  unfold wpY_badVar
  dsimp only
  exact br_f (nI_pos (by omega)) (br_f (nI_ge hj (by omega)) (br_t (nI_lt (b := 6) (by omega) (by decide)) h))
theorem wy_var_b {x : Int32} (hx : ws_vb n x) (h : post 1) : wpY_badVar post (nI n, nI d, e, yo, yt, ya) x := by
  unfold wpY_badVar
  dsimp only
  exact hx.elim (fun z => br_t z h) (fun z => br_c (fun _ => h) (fun _ => br_t z h))
theorem wy_value_g {j : Nat} (hd : d ≤ 3) (hj : j < d) (h : post 0) : wpY_badValue post (nI n, nI d, e, yo, yt, ya) (nI j) := by
  unfold wpY_badValue
  dsimp only
  exact br_f (nI_pos (by omega)) (br_f (nI_ge hj (by omega)) (br_t (nI_lt (b := 3) (by omega) (by decide)) h))
theorem wy_value_b {x : Int32} (hx : ws_vb d x) (h : post 1) : wpY_badValue post (nI n, nI d, e, yo, yt, ya) x := by
  unfold wpY_badValue
  dsimp only
  exact hx.elim (fun z => br_t z h) (fun z => br_c (fun _ => h) (fun _ => br_t z h))
theorem wy_cost_g {c : Nat} (hc : c ≤ 40 ∨ c = 99) (h : post 0) : wpY_badCost post (nI n, nI d, e, yo, yt, ya) (nI c) := by
  unfold wpY_badCost
  dsimp only
  unfold wY_badCost_10
  rcases hc with hc | rfl
  · exact br_f (nI_pos (by omega)) (br_t (nI_le (b := 40) hc (by decide)) h)
  · exact br_f (nI_pos (by omega)) (br_f (nI_ge (a := 40) (b := 99) (by decide) (by decide)) (br_t rfl h))
theorem wy_cost_b {x : Int32} (hx : ws_cb x) (h : post 1) : wpY_badCost post (nI n, nI d, e, yo, yt, ya) x := by
  unfold wpY_badCost
  dsimp only
  unfold wY_badCost_10
  exact hx.2.elim (fun z => br_t z (br_f hx.1 h)) (fun z => br_c (fun _ => br_f hx.1 h) (fun _ => br_f z (br_f hx.1 h)))
theorem wy_over {a b : Nat} (ha : a < 2 ^ 31) (hb : 0 < b) (hb2 : b < 2 ^ 31) (h : post (nI (a / b))) : wpY_over post (nI n, nI d, e, yo, yt, ya) (nI a) (nI b) := by
  unfold wpY_over
  dsimp only
  rw [pk_div ha hb hb2]
  exact br_t (nI_le (a := 1) hb hb2) ⟨nI_ne0 hb hb2, h⟩
theorem wy_rest {a b : Nat} (ha : a < 2 ^ 31) (hb : 0 < b) (hb2 : b < 2 ^ 31) (h : post (nI (a % b))) : wpY_rest post (nI n, nI d, e, yo, yt, ya) (nI a) (nI b) := by
  unfold wpY_rest
  dsimp only
  rw [pk_rem ha hb hb2]
  exact br_t (nI_le (a := 1) hb hb2) ⟨nI_ne0 hb hb2, h⟩
theorem wy_two_g {j : Nat} (hd : d ≤ 3) (hj : j < d * d) (h : post 0) : wpY_badValues post (nI n, nI d, e, yo, yt, ya) (nI j) := by
  have h9 := ws_le9 hd
  unfold wpY_badValues
  dsimp only
  rw [pk_mul, ws_m1 (by omega)]
  exact br_f (nI_pos (by omega)) (br_t (nI_le (by omega) (by omega)) h)
theorem ws_nle {m : Nat} {x : Int32} (hm : 0 < m) (hm2 : m < 2 ^ 31) (h : nI m ≤ x) : ¬ x ≤ nI (m - 1) := fun z => nI_ge (a := m - 1) (b := m) (by omega) hm2 (Int32.le_trans h z)
theorem wy_two_b {x : Int32} (hd2 : 2 ≤ d) (hd : d ≤ 3) (hx : ws_vb (d * d) x) (h : post 1) : wpY_badValues post (nI n, nI d, e, yo, yt, ya) x := by
  have h9 := ws_le9 hd
  have h4 : 2 * 2 ≤ d * d := Nat.mul_le_mul hd2 hd2
  unfold wpY_badValues
  dsimp only
  rw [pk_mul, ws_m1 (by omega)]
  exact hx.elim (fun z => br_t z h) (fun z => br_c (fun _ => h) (fun _ => br_f (ws_nle (by omega) (by omega) z) h))
theorem wy_pair_g {u v : Nat} (hn2 : 2 ≤ n) (hn : n ≤ 6) (hu : u < n) (hv : v < n) (huv : u ≠ v) (h : post 0) : wpY_badPair post (nI n, nI d, e, yo, yt, ya) (nI (n * u + v)) := by
  have h36 := ws_le36 hn
  have hlt := ws_lt2 hu hv
  have z := ws_dm (a := u) hv
  have hne : ¬ nI u = nI v := by
    rw [nI_eq (by omega) (by omega)]
    exact huv
  unfold wpY_badPair
  dsimp only
  rw [pk_mul, ws_m1 (by omega)]
  refine br_f (nI_pos (by omega)) (br_t (nI_le (by omega) (by omega)) (wy_over (by omega) (by omega) (by omega) (wy_rest (by omega) (by omega) (by omega) ?_)))
  rw [z.1, z.2]
  exact br_f hne h
theorem wy_pair_b {x : Int32} (hn2 : 2 ≤ n) (hn : n ≤ 6) (hx : ws_pb n x) (h : post 1) : wpY_badPair post (nI n, nI d, e, yo, yt, ya) x := by
  have h36 := ws_le36 hn
  have h4 : 2 * 2 ≤ n * n := Nat.mul_le_mul hn2 hn2
  unfold wpY_badPair
  dsimp only
  rw [pk_mul, ws_m1 (by omega)]
  rcases hx with (z | z) | ⟨j, hj, rfl, hjj⟩
  · exact br_t z h
  · exact br_c (fun _ => h) (fun _ => br_f (ws_nle (by omega) (by omega) z) h)
  · refine br_f (nI_pos (by omega)) (br_t (nI_le (by omega) (by omega)) (wy_over (by omega) (by omega) (by omega) (wy_rest (by omega) (by omega) (by omega) ?_)))
    rw [hjj]
    exact br_t rfl h
theorem wy_place {u v a b : Nat} (hn : n ≤ 6) (hd : d ≤ 3) (hu : u < n) (hv : v < n) (ha : a < d) (hb : b < d) (h : post (nI (ws_py u v a b))) : wpY_placeOf post (nI n, nI d, e, yo, yt, ya) (nI (n * u + v)) (nI (d * a + b)) := by
  have h36 := ws_le36 hn
  have h9 := ws_le9 hd
  have hlt := ws_lt2 hu hv
  have hlt2 := ws_lt2 ha hb
  have z := ws_dm (a := u) hv
  have y := ws_dm (a := a) hb
  unfold wpY_placeOf
  dsimp only
  refine wy_over (by omega) (by omega) (by omega) (wy_rest (by omega) (by omega) (by omega) (wy_over (by omega) (by omega) (by omega) (wy_rest (by omega) (by omega) (by omega) ?_)))
  rw [z.1, z.2, y.1, y.2]
  unfold wpY_place
  dsimp only
  rw [ws_pyI]
  exact h
theorem wy_mirr {u v a b : Nat} (hn : n ≤ 6) (hd : d ≤ 3) (hu : u < n) (hv : v < n) (ha : a < d) (hb : b < d) (h : post (nI (ws_py v u b a))) : wpY_mirrored post (nI n, nI d, e, yo, yt, ya) (nI (n * u + v)) (nI (d * a + b)) := by
  have h36 := ws_le36 hn
  have h9 := ws_le9 hd
  have hlt := ws_lt2 hu hv
  have hlt2 := ws_lt2 ha hb
  have z := ws_dm (a := u) hv
  have y := ws_dm (a := a) hb
  unfold wpY_mirrored
  dsimp only
  refine wy_over (by omega) (by omega) (by omega) (wy_rest (by omega) (by omega) (by omega) (wy_over (by omega) (by omega) (by omega) (wy_rest (by omega) (by omega) (by omega) ?_)))
  rw [z.1, z.2, y.1, y.2]
  unfold wpY_place
  dsimp only
  rw [ws_pyI]
  exact h
theorem wy_val_l (x v : Nat) (hn : n ≤ 6) (hd2 : 2 ≤ d) (hd : d ≤ 3) (hx : x < 2 ^ 31) (h : post (nI (ws_val n d x v))) : ∀ j fuel, v + j < n → j < fuel → wY_value_10 post (nI v) (nI n) (nI d) e yo yt ya fuel (nI (ws_R n d x (v + j + 1))) (nI (v + j)) := by
  intro j
  induction j with
  | zero =>
    intro fuel hj hf
    obtain ⟨m, rfl⟩ : ∃ m, fuel = m + 1 := ⟨fuel - 1, by omega⟩
    have hR := ws_R_le n d x (v + 0 + 1)
    exact br_t (nI_le (by omega) (by omega)) (wy_rest (by omega) (by omega) (by omega) h)
  | succ j ih =>
    intro fuel hj hf
    obtain ⟨m, rfl⟩ : ∃ m, fuel = m + 1 := ⟨fuel - 1, by omega⟩
    have hR := ws_R_le n d x (v + (j + 1) + 1)
    refine br_f (nI_ge (by omega) (by omega)) (wy_over (by omega) (by omega) (by omega) (fun t et => ?_))
    rw [ws_R_dn (by omega)]
    have et' : t = nI (v + j) := et.trans (pk_m1 (v + j))
    rw [et']
    exact ih m (by omega) (by omega)
theorem wy_val {x v : Nat} (hn : n ≤ 6) (hd2 : 2 ≤ d) (hd : d ≤ 3) (hx : x < 2 ^ 31) (hv : v < n) (h : post (nI (ws_val n d x v))) : wpY_value post (nI n, nI d, e, yo, yt, ya) (nI x) (nI v) := by
  unfold wpY_value
  dsimp only
  refine nm_r (ws_m1 (by omega)) ⟨n + 1, ?_⟩
  have z := wy_val_l (e := e) (yo := yo) (yt := yt) (ya := ya) x v hn hd2 hd hx h (n - 1 - v) (n + 1) (by omega) (by omega)
  rw [show v + (n - 1 - v) + 1 = n from by omega, show v + (n - 1 - v) = n - 1 from by omega, ws_R_top] at z
  exact z
end
