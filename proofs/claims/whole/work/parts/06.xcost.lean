/-! X: the cost of a number -/
section
variable {post : Int32 → Prop} {n d : Nat} {e : Int32} {U : Nat → Nat → Nat} {B : Nat → Nat → Nat → Nat → Nat} {A : Nat → Nat} {xu xb xa : Nat → Int32}
theorem wx_cwe_l (W : ws_wf n d U B A) (X : ws_X n d U B A xu xb xa) (x v : Nat) (hx : x < 2 ^ 31) (hv : v < n) : ∀ k acc fuel, k ≤ v → k < fuel → post (ws_cv (-1) (ws_an (fun u => decide (ws_f n d B x u v = 99)) k) (acc + ws_sm (fun u => ws_f n d B x u v) k)) → wX_costWithEarlier_11 post (nI v) (nI (ws_val n d x v)) (nI n) (nI d) e xu xb xa fuel (nI acc) (nI (ws_R n d x k)) (nI k + (-1)) := by
  obtain ⟨⟨hn2, hn6⟩, ⟨hd2, hd3⟩, hU, hB, hA⟩ := W
  intro k
  induction k with
  | zero =>
    intro acc fuel hk hf hp
    obtain ⟨m, rfl⟩ : ∃ m, fuel = m + 1 := ⟨fuel - 1, by omega⟩
    exact br_t (by decide) hp
  | succ k ih =>
    intro acc fuel hk hf hp
    obtain ⟨m, rfl⟩ : ∃ m, fuel = m + 1 := ⟨fuel - 1, by omega⟩
    have hR := ws_R_le n d x (k + 1)
    rw [pk_m1]
    refine br_f (nI_pos (by omega)) ⟨nI_ne0 (by omega) (by omega), fun b eb => ⟨nI_ne0 (by omega) (by omega), fun r er => ?_⟩⟩
    rw [pk_rem (by omega) (by omega) (by omega)] at eb
    rw [pk_div (by omega) (by omega) (by omega), ws_R_dn (by omega)] at er
    have eb' : b = nI (ws_val n d x k) := eb
    rw [eb', er, show nI n * nI k + nI v = nI (n * k + v) from by rw [pk_mul, nI_add], show nI d * nI (ws_val n d x k) + nI (ws_val n d x v) = nI (d * ws_val n d x k + ws_val n d x v) from by rw [pk_mul, nI_add]]
    have hc := ws_cl_lt (u := k) (v := v) hn6 hd3 (by omega) hv (ws_val_lt (n := n) (x := x) (v := k) hd2) (ws_val_lt (n := n) (x := x) (v := v) hd2)
    refine wx_cell hn2 hn6 hd2 hd3 (by omega) hv (by omega) (ws_val_lt hd2) (ws_val_lt hd2) ⟨vp_in_nI hc (by decide), fun c ec => ?_⟩
    rw [nI_clamp (by omega), X.2.1 k v _ _ (by omega) hv (by omega) (ws_val_lt hd2) (ws_val_lt hd2), ws_Br_lt (by omega)] at ec
    have ec' : c = nI (ws_f n d B x k v) := ec
    have hf99 : ws_f n d B x k v ≤ 99 := hB _ _ _ _
    rw [ec']
    by_cases h9 : ws_f n d B x k v = 99
    · refine br_t (by rw [h9]; rfl) ?_
      rw [ws_cv_t (ws_an_t (decide_eq_true h9))] at hp
      exact hp
    · refine br_f (fun z => h9 ((nI_eq (b := 99) (by omega) (by decide)).mp z)) (fun s es t et => ?_)
      rw [nI_add] at es
      rw [es, et]
      refine ih _ m (by omega) (by omega) ?_
      rw [ws_an_f (decide_eq_false h9)] at hp
      have e1 : acc + ws_sm (fun u => ws_f n d B x u v) (k + 1) = acc + ws_f n d B x k v + ws_sm (fun u => ws_f n d B x u v) k := by
        show acc + (ws_sm (fun u => ws_f n d B x u v) k + ws_f n d B x k v) = _
        omega
      rw [e1] at hp
      exact hp
theorem wx_cwe (W : ws_wf n d U B A) (X : ws_X n d U B A xu xb xa) {x v : Nat} (hx : x < 2 ^ 31) (hv : v < n) (h : post (ws_cv (-1) (ws_fb n d B x v) (ws_sm (fun u => ws_f n d B x u v) v))) : wpX_costWithEarlier post (nI n, nI d, e, xu, xb, xa) (nI (ws_R n d x v)) (nI v) (nI (ws_val n d x v)) := by
  unfold wpX_costWithEarlier
  dsimp only
  refine nm_r (ws_m1' v) ⟨v + 1, ?_⟩
  refine wx_cwe_l W X x v hx hv v 0 (v + 1) (Nat.le_refl _) (by omega) ?_
  rw [Nat.zero_add]
  exact h
theorem wx_al (W : ws_wf n d U B A) (X : ws_X n d U B A xu xb xa) {x v : Nat} (hv : v < n) (h0 : ws_al n d A x v = 0 → post 0) (h1 : ¬ ws_al n d A x v = 0 → post 1) : wpX_isAllowed post (nI n, nI d, e, xu, xb, xa) (nI v) (nI (ws_val n d x v)) := by
  obtain ⟨⟨hn2, hn6⟩, ⟨hd2, hd3⟩, hU, hB, hA⟩ := W
  have hw := ws_val_lt (n := n) (x := x) (v := v) hd2
  unfold wpX_isAllowed
  dsimp only
  refine ⟨vp_in_nI (by omega) (by decide), ?_⟩
  rw [nI_clamp (by omega), X.2.2 v hv, ws_bit (A v) (hA v) _ (by omega)]
  have hm : ws_al n d A x v < 2 := Nat.mod_lt _ (by decide)
  show (nI (ws_al n d A x v) = 1 → _) ∧ (¬ nI (ws_al n d A x v) = 1 → _)
  by_cases z : ws_al n d A x v = 0
  · rw [z]
    exact br_f (by decide) (h0 z)
  · rw [show ws_al n d A x v = 1 from by omega]
    exact br_t rfl (h1 z)
theorem wx_sol_l (W : ws_wf n d U B A) (X : ws_X n d U B A xu xb xa) (x : Nat) (hx : x < 2 ^ 31) : ∀ k acc fuel, k ≤ n → k < fuel → post (ws_cv (-1) (ws_an (fun v => ws_ub n d U A x v || ws_fb n d B x v) k) (acc + ws_sm (fun v => ws_g n d U x v + ws_sm (fun u => ws_f n d B x u v) v) k)) → wX_solutionCost_12 post (nI n) (nI d) e xu xb xa fuel (nI acc) (nI (ws_R n d x k)) (nI k + (-1)) := by
  have W' := W
  obtain ⟨⟨hn2, hn6⟩, ⟨hd2, hd3⟩, hU, hB, hA⟩ := W
  intro k
  induction k with
  | zero =>
    intro acc fuel hk hf hp
    obtain ⟨m, rfl⟩ : ∃ m, fuel = m + 1 := ⟨fuel - 1, by omega⟩
    exact br_t (by decide) hp
  | succ k ih =>
    intro acc fuel hk hf hp
    obtain ⟨m, rfl⟩ : ∃ m, fuel = m + 1 := ⟨fuel - 1, by omega⟩
    have hR := ws_R_le n d x (k + 1)
    have hw := ws_val_lt (n := n) (x := x) (v := k) hd2
    rw [pk_m1]
    refine br_f (nI_pos (by omega)) ⟨nI_ne0 (by omega) (by omega), fun a ea => ⟨nI_ne0 (by omega) (by omega), fun r er => ?_⟩⟩
    rw [pk_rem (by omega) (by omega) (by omega)] at ea
    rw [pk_div (by omega) (by omega) (by omega), ws_R_dn (by omega)] at er
    have ea' : a = nI (ws_val n d x k) := ea
    rw [ea', er]
    have hc := ws_uc_lt hn6 hd3 (show k < n by omega) hw
    refine wx_uc ⟨vp_in_nI hc (by decide), fun c ec => ?_⟩
    rw [nI_clamp (by omega), X.1 k _ (by omega) hw] at ec
    have ec' : c = nI (ws_g n d U x k) := ec
    have hg : ws_g n d U x k ≤ 99 := hU _ _
    rw [ec']
    refine wx_cwe W' X hx (by omega) ?_
    refine wx_al W' X (by omega) (fun z => ?_) (fun z => ?_)
    · refine br_t rfl ?_
      rw [ws_cv_t (ws_an_t (by unfold ws_ub; rw [decide_eq_true z]; rfl))] at hp
      exact hp
    · refine br_f (by decide) ?_
      by_cases h9 : ws_g n d U x k = 99
      · refine br_t (by rw [h9]; rfl) ?_
        rw [ws_cv_t (ws_an_t (by unfold ws_ub; rw [decide_eq_true h9, Bool.or_true]; rfl))] at hp
        exact hp
      · refine br_f (fun z => h9 ((nI_eq (b := 99) (by omega) (by decide)).mp z)) ?_
        have hub : ws_ub n d U A x k = false := by
          unfold ws_ub
          rw [decide_eq_false z, decide_eq_false h9]
          rfl
        cases hfb : ws_fb n d B x k with
        | true =>
          refine br_t rfl ?_
          rw [ws_cv_t (ws_an_t (by rw [hfb, Bool.or_true]))] at hp
          exact hp
        | false =>
          have hs : ws_sm (fun u => ws_f n d B x u k) k ≤ k * 99 := ws_sm_le (fun u _ => hB _ _ _ _)
          rw [ws_cv_f rfl]
          refine br_f (ws_ne1 (by omega)) (fun s es t et => ?_)
          rw [nI_add, nI_add] at es
          rw [es, et]
          refine ih _ m (by omega) (by omega) ?_
          rw [ws_an_f (by rw [hub, hfb]; rfl)] at hp
          have e1 : acc + ws_sm (fun v => ws_g n d U x v + ws_sm (fun u => ws_f n d B x u v) v) (k + 1) = acc + ws_g n d U x k + ws_sm (fun u => ws_f n d B x u k) k + ws_sm (fun v => ws_g n d U x v + ws_sm (fun u => ws_f n d B x u v) v) k := by
            show acc + (ws_sm (fun v => ws_g n d U x v + ws_sm (fun u => ws_f n d B x u v) v) k + (ws_g n d U x k + ws_sm (fun u => ws_f n d B x u k) k)) = _
            omega
          rw [e1] at hp
          exact hp
theorem wx_sol (W : ws_wf n d U B A) (X : ws_X n d U B A xu xb xa) {x : Nat} (hx : x < 2 ^ 31) (h : post (ws_en (-1) (ws_co n d U B A x))) : wpX_solutionCost post (nI n, nI d, e, xu, xb, xa) (nI x) := by
  unfold wpX_solutionCost
  dsimp only
  refine nm_r (ws_m1' n) ⟨n + 1, ?_⟩
  have z := wx_sol_l (post := post) (e := e) W X x hx n 0 (n + 1) (Nat.le_refl _) (by omega) (by
    rw [Nat.zero_add]
    rw [ws_en_co] at h
    exact h)
  rw [ws_R_top] at z
  exact z
end
