/-! what holds of the tables; arguments; X's own methods -/
def ws_wf (n d : Nat) (U : Nat → Nat → Nat) (B : Nat → Nat → Nat → Nat → Nat) (A : Nat → Nat) : Prop := (2 ≤ n ∧ n ≤ 6) ∧ (2 ≤ d ∧ d ≤ 3) ∧ (∀ v a, U v a ≤ 99) ∧ (∀ u v a b, B u v a b ≤ 99) ∧ ∀ v, A v < 8
def ws_X (n d : Nat) (U : Nat → Nat → Nat) (B : Nat → Nat → Nat → Nat → Nat) (A : Nat → Nat) (xu xb xa : Nat → Int32) : Prop := ws_xu n d U xu ∧ ws_xb n d B xb ∧ ws_aa n A xa
def ws_Y (n d : Nat) (U : Nat → Nat → Nat) (B : Nat → Nat → Nat → Nat → Nat) (A : Nat → Nat) (yo yt ya : Nat → Int32) : Prop := ws_yu n d U yo ∧ ws_yb n d B yt ∧ ws_aa n A ya
def ws_cv (e : Int32) (b : Bool) (t : Nat) : Int32 := if b = true then e else nI t
theorem ws_cv_t {e : Int32} {b : Bool} {t : Nat} (h : b = true) : ws_cv e b t = e := if_pos h
theorem ws_cv_f {e : Int32} {b : Bool} {t : Nat} (h : b = false) : ws_cv e b t = nI t := if_neg (by rw [h]; decide)
theorem ws_en_co (e : Int32) (n d : Nat) (U : Nat → Nat → Nat) (B : Nat → Nat → Nat → Nat → Nat) (A : Nat → Nat) (x : Nat) : ws_en e (ws_co n d U B A x) = ws_cv e (ws_bad n d U B A x) (ws_tot n d U B x) := by
  unfold ws_co ws_cv
  by_cases h : ws_bad n d U B A x = true
  · rw [if_pos h, if_pos h]
    rfl
  · rw [if_neg h, if_neg h]
    rfl
theorem ws_an_t {b : Nat → Bool} {k : Nat} (h : b k = true) : ws_an b (k + 1) = true := by
  show (ws_an b k || b k) = true
  rw [h, Bool.or_true]
theorem ws_an_f {b : Nat → Bool} {k : Nat} (h : b k = false) : ws_an b (k + 1) = ws_an b k := by
  show (ws_an b k || b k) = _
  rw [h, Bool.or_false]
theorem ws_q {n u v : Nat} (hv : v < n) (hn : n < 2 ^ 31) (h : n * u + v < 2 ^ 31) : nI (n * u + v) / nI n = nI u ∧ nI (n * u + v) - nI (n * u + v) / nI n * nI n = nI v := by
  have z := ws_dm (a := u) hv
  exact ⟨by rw [pk_div h (by omega) hn, z.1], by rw [pk_rem h (by omega) hn, z.2]⟩
theorem ws_m1 {a : Nat} (h : 1 ≤ a) : nI a - 1 = nI (a - 1) := pk_sub h
theorem ws_m1' (a : Nat) : nI a - 1 = nI a + (-1) := Int32.sub_eq_add_neg _ _
def ws_vb (n : Nat) (x : Int32) : Prop := x < 0 ∨ nI n ≤ x
def ws_cb (x : Int32) : Prop := ¬ x = 99 ∧ (x < 0 ∨ ¬ x ≤ 40)
def ws_pb (n : Nat) (x : Int32) : Prop := ws_vb (n * n) x ∨ ∃ j, j < n * n ∧ x = nI j ∧ j / n = j % n
theorem ws_var_c (x : Int32) {n : Nat} (hn : n < 2 ^ 31) : ws_vb n x ∨ ∃ j, j < n ∧ x = nI j := by
  rcases pk_ix x hn with h | h | h
  · exact Or.inl (Or.inl h)
  · exact Or.inl (Or.inr h)
  · exact Or.inr h
theorem ws_cost_c (x : Int32) : ws_cb x ∨ ∃ c, (c ≤ 40 ∨ c = 99) ∧ x = nI c := by
  by_cases h9 : x = 99
  · exact Or.inr ⟨99, Or.inr rfl, h9⟩
  · by_cases h0 : x < 0
    · exact Or.inl ⟨h9, Or.inl h0⟩
    · by_cases h4 : x ≤ 40
      · obtain ⟨j, hj, e⟩ := nI_of2 (M := 40) (n := 40) (by decide) h0 h4
        exact Or.inr ⟨j, Or.inl hj, e⟩
      · exact Or.inl ⟨h9, Or.inr h4⟩
theorem ws_pair_c (x : Int32) {n : Nat} (hn : n ≤ 6) : ws_pb n x ∨ ∃ u v, u < n ∧ v < n ∧ u ≠ v ∧ x = nI (n * u + v) := by
  have h36 := ws_le36 hn
  rcases ws_var_c x (n := n * n) (by omega) with h | ⟨j, hj, rfl⟩
  · exact Or.inl (Or.inl h)
  · obtain ⟨h1, h2, h3⟩ := ws_split hj
    by_cases e : j / n = j % n
    · exact Or.inl (Or.inr ⟨j, hj, rfl, e⟩)
    · exact Or.inr ⟨j / n, j % n, h1, h2, e, congrArg nI h3⟩
theorem ws_two_c (x : Int32) {d : Nat} (hd : d ≤ 3) : ws_vb (d * d) x ∨ ∃ a b, a < d ∧ b < d ∧ x = nI (d * a + b) := by
  have h9 := ws_le9 hd
  rcases ws_var_c x (n := d * d) (by omega) with h | ⟨j, hj, rfl⟩
  · exact Or.inl h
  · obtain ⟨h1, h2, h3⟩ := ws_split hj
    exact Or.inr ⟨j / d, j % d, h1, h2, congrArg nI h3⟩
section
variable {post : Int32 → Prop} {n d : Nat} {e : Int32} {xu xb xa : Nat → Int32}
theorem wx_var_g {j : Nat} (hn : n ≤ 6) (hj : j < n) (h : post 1) : wpX_isVariable post (nI n, nI d, e, xu, xb, xa) (nI j) := by
  unfold wpX_isVariable
  dsimp only
  exact br_f (nI_pos (by omega)) (br_f (nI_ge hj (by omega)) h)
theorem wx_var_b {x : Int32} (hx : ws_vb n x) (h : post 0) : wpX_isVariable post (nI n, nI d, e, xu, xb, xa) x := by
  unfold wpX_isVariable
  dsimp only
  exact hx.elim (fun z => br_t z h) (fun z => br_c (fun _ => h) (fun _ => br_t z h))
theorem wx_value_g {j : Nat} (hd : d ≤ 3) (hj : j < d) (h : post 1) : wpX_isValue post (nI n, nI d, e, xu, xb, xa) (nI j) := by
  unfold wpX_isValue
  dsimp only
  exact br_f (nI_pos (by omega)) (br_f (nI_ge hj (by omega)) h)
theorem wx_value_b {x : Int32} (hx : ws_vb d x) (h : post 0) : wpX_isValue post (nI n, nI d, e, xu, xb, xa) x := by
  unfold wpX_isValue
  dsimp only
  exact hx.elim (fun z => br_t z h) (fun z => br_c (fun _ => h) (fun _ => br_t z h))
theorem wx_cost_g {c : Nat} (hc : c ≤ 40 ∨ c = 99) (h : post 1) : wpX_isCost post (nI c) := by
  unfold wpX_isCost wX_isCost_10
  rcases hc with hc | rfl
  · exact br_f (nI_pos (by omega)) (br_t (nI_le (b := 40) hc (by decide)) h)
  · exact br_f (nI_pos (by omega)) (br_f (nI_ge (a := 40) (b := 99) (by decide) (by decide)) (br_t rfl h))
theorem wx_cost_b {x : Int32} (hx : ws_cb x) (h : post 0) : wpX_isCost post x := by
  unfold wpX_isCost wX_isCost_10
  exact hx.2.elim (fun z => br_t z (br_f hx.1 h)) (fun z => br_c (fun _ => br_f hx.1 h) (fun _ => br_f z (br_f hx.1 h)))
theorem wx_two_g {j : Nat} (hd : d ≤ 3) (hj : j < d * d) (h : post 1) : wpX_isTwoValues post (nI n, nI d, e, xu, xb, xa) (nI j) := by
  have h9 := ws_le9 hd
  unfold wpX_isTwoValues
  dsimp only
  rw [pk_mul]
  exact br_f (nI_pos (by omega)) (br_f (nI_ge hj (by omega)) h)
theorem wx_two_b {x : Int32} (hx : ws_vb (d * d) x) (h : post 0) : wpX_isTwoValues post (nI n, nI d, e, xu, xb, xa) x := by
  unfold wpX_isTwoValues
  dsimp only
  rw [pk_mul]
  exact hx.elim (fun z => br_t z h) (fun z => br_c (fun _ => h) (fun _ => br_t z h))
theorem wx_pair_g {u v : Nat} (hn2 : 2 ≤ n) (hn : n ≤ 6) (hu : u < n) (hv : v < n) (huv : u ≠ v) (h : post 1) : wpX_isPair post (nI n, nI d, e, xu, xb, xa) (nI (n * u + v)) := by
  have h36 := ws_le36 hn
  have hlt := ws_lt2 hu hv
  have z := ws_q (u := u) hv (by omega) (by omega)
  have hne : ¬ nI u = nI v := by
    rw [nI_eq (by omega) (by omega)]
    exact huv
  unfold wpX_isPair
  dsimp only
  rw [z.2, z.1, pk_mul]
  exact br_f (nI_pos (by omega)) (br_f (nI_ge hlt (by omega)) ⟨nI_ne0 (by omega) (by omega), nI_ne0 (by omega) (by omega), br_f hne h⟩)
theorem wx_pair_b {x : Int32} (hn2 : 2 ≤ n) (hn : n ≤ 6) (hx : ws_pb n x) (h : post 0) : wpX_isPair post (nI n, nI d, e, xu, xb, xa) x := by
  have h36 := ws_le36 hn
  unfold wpX_isPair
  dsimp only
  rw [pk_mul]
  rcases hx with (z | z) | ⟨j, hj, rfl, hjj⟩
  · exact br_t z h
  · exact br_c (fun _ => h) (fun _ => br_t z h)
  · have hr := pk_rem (a := j) (d := n) (by omega) (by omega) (by omega)
    have hq := pk_div (a := j) (d := n) (by omega) (by omega) (by omega)
    have he : nI j / nI n = nI j - nI j / nI n * nI n := by rw [hr, hq, hjj]
    exact br_f (nI_pos (by omega)) (br_f (nI_ge hj (by omega)) ⟨nI_ne0 (by omega) (by omega), nI_ne0 (by omega) (by omega), br_t he h⟩)
theorem wx_uc {v a : Nat} (h : post (nI (v * d + a))) : wpX_unaryCell post (nI n, nI d, e, xu, xb, xa) (nI v) (nI a) := by
  unfold wpX_unaryCell
  dsimp only
  rw [pk_mul, nI_add]
  exact h
theorem wx_cell {u v a b : Nat} (hn2 : 2 ≤ n) (hn : n ≤ 6) (hd2 : 2 ≤ d) (hd : d ≤ 3) (hu : u < n) (hv : v < n) (huv : u ≠ v) (ha : a < d) (hb : b < d) (h : post (nI (ws_cl n d u v a b))) : wpX_binaryCell post (nI n, nI d, e, xu, xb, xa) (nI (n * u + v)) (nI (d * a + b)) := by
  have h36 := ws_le36 hn
  have h9 := ws_le9 hd
  have hlt := ws_lt2 hu hv
  have hlt2 := ws_lt2 ha hb
  have z := ws_q (u := u) hv (by omega) (by omega)
  have y := ws_q (u := a) hb (by omega) (by omega)
  unfold ws_cl at h
  unfold wpX_binaryCell
  dsimp only
  rw [z.2, z.1, y.2, y.1]
  refine ⟨nI_ne0 (by omega) (by omega), nm_e ⟨nI_ne0 (by omega) (by omega), nm_e ?_⟩⟩
  by_cases huv' : u < v
  · rw [if_pos huv'] at h
    refine br_f (nI_ge huv' (by omega)) ?_
    rw [pk_mul, pk_mul, nI_add]
    exact h
  · rw [if_neg huv'] at h
    refine br_t (nI_le (by omega) (by omega)) ⟨nI_ne0 (by omega) (by omega), nm_e ⟨nI_ne0 (by omega) (by omega), nm_e ?_⟩⟩
    simp only [pk_mul, nI_add, Nat.add_assoc]
    exact h
theorem wx_rel {k a b : Nat} (hk : k < 3) (ha : a < 3) (hb : b < 3) (h : post (nI (ws_tt k a b))) : wpX_relation post (nI k) (nI a) (nI b) := by
  unfold wpX_relation
  rcases (by omega : k = 0 ∨ k = 1 ∨ k = 2) with rfl | rfl | rfl
  · refine br_t rfl (pk_le a b (fun z => ?_) (fun z => ?_))
    · have e1 : ws_tt 0 a b = b - a := by
        show (if a < b then b - a else a - b) = b - a
        by_cases h1 : a < b
        · rw [if_pos h1]
        · rw [if_neg h1]
          omega
      rw [pk_sub z, ← e1]
      exact h
    · have e1 : ws_tt 0 a b = a - b := by
        show (if a < b then b - a else a - b) = a - b
        rw [if_neg (by omega)]
      rw [pk_sub (by omega), ← e1]
      exact h
  · refine br_f (by decide) (br_t rfl (pk_eq a b (fun z => ?_) (fun z => ?_)))
    · have e1 : ws_tt 1 a b = 1 := if_pos z
      rw [e1] at h
      exact h
    · have e1 : ws_tt 1 a b = 0 := if_neg z
      rw [e1] at h
      exact h
  · refine br_f (by decide) (br_f (by decide) ?_)
    rw [pk_mul]
    exact h
theorem wx_val_l (x v : Nat) (hn : n ≤ 6) (hd2 : 2 ≤ d) (hd : d ≤ 3) (hx : x < 2 ^ 31) (h : post (nI (ws_val n d x v))) : ∀ j fuel, v + j < n → j < fuel → wX_valueIn_10 post (nI v) (nI n) (nI d) e xu xb xa fuel (nI (ws_R n d x (v + j + 1))) (nI (v + j)) := by
  intro j
  induction j with
  | zero =>
    intro fuel hj hf
    obtain ⟨m, rfl⟩ : ∃ m, fuel = m + 1 := ⟨fuel - 1, by omega⟩
    have hR := ws_R_le n d x (v + 0 + 1)
    refine br_t (nI_le (by omega) (by omega)) ⟨nI_ne0 (by omega) (by omega), ?_⟩
    rw [pk_rem (by omega) (by omega) (by omega)]
    exact h
  | succ j ih =>
    intro fuel hj hf
    obtain ⟨m, rfl⟩ : ∃ m, fuel = m + 1 := ⟨fuel - 1, by omega⟩
    have hR := ws_R_le n d x (v + (j + 1) + 1)
    refine br_f (nI_ge (by omega) (by omega)) ⟨nI_ne0 (by omega) (by omega), fun y ey t et => ?_⟩
    rw [pk_div (by omega) (by omega) (by omega), ws_R_dn (by omega)] at ey
    have et' : t = nI (v + j) := et.trans (pk_m1 (v + j))
    rw [ey, et']
    exact ih m (by omega) (by omega)
theorem wx_val {x v : Nat} (hn : n ≤ 6) (hd2 : 2 ≤ d) (hd : d ≤ 3) (hx : x < 2 ^ 31) (hv : v < n) (h : post (nI (ws_val n d x v))) : wpX_valueIn post (nI n, nI d, e, xu, xb, xa) (nI x) (nI v) := by
  unfold wpX_valueIn
  dsimp only
  refine nm_r (ws_m1 (by omega)) ⟨n + 1, ?_⟩
  have z := wx_val_l (e := e) (xu := xu) (xb := xb) (xa := xa) x v hn hd2 hd hx h (n - 1 - v) (n + 1) (by omega) (by omega)
  rw [show v + (n - 1 - v) + 1 = n from by omega, show v + (n - 1 - v) = n - 1 from by omega, ws_R_top] at z
  exact z
end
