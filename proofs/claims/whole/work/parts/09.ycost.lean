/-! Y: the cost of a number -/
section
variable {post : Int32 → Prop} {n d : Nat} {e : Int32} {U : Nat → Nat → Nat} {B : Nat → Nat → Nat → Nat → Nat} {A : Nat → Nat} {yo yt ya : Nat → Int32}
theorem wy_row_l (W : ws_wf n d U B A) (Y : ws_Y n d U B A yo yt ya) (x u s0 : Nat) (hx : x < 2 ^ 31) (hu : u < n) (J : Int32 → Int32 → Prop) (hJ : ws_fbY n d B x u n = false → J (nI (s0 + ws_rsY n d B x u n)) (nI (u + 1))) (hP : ws_fbY n d B x u n = true → post (-2)) : ∀ m v fuel, v + m = n → m < fuel → u < v → ws_fbY n d B x u v = false → wY_cost_81 post J (nI x) (nI u) (nI (ws_val n d x u)) (nI n) (nI d) e yo yt ya fuel (nI (s0 + ws_rsY n d B x u v)) (nI v) := by
  obtain ⟨⟨hn2, hn6⟩, ⟨hd2, hd3⟩, hU, hB, hA⟩ := W
  intro m
  induction m with
  | zero =>
    intro v fuel hv hf huv hb
    obtain ⟨m, rfl⟩ : ∃ m, fuel = m + 1 := ⟨fuel - 1, by omega⟩
    have hvn : v = n := hv
    rw [hvn] at hb ⊢
    refine br_t (nI_le (Nat.le_refl _) (by omega)) (fun t et => ?_)
    rw [et, nI_1 u]
    exact hJ hb
  | succ m ih =>
    intro v fuel hv hf huv hb
    obtain ⟨f', rfl⟩ : ∃ m, fuel = m + 1 := ⟨fuel - 1, by omega⟩
    have hwu := ws_val_lt (n := n) (x := x) (v := u) hd2
    have hwv := ws_val_lt (n := n) (x := x) (v := v) hd2
    have hp := ws_py_lt (u := u) (v := v) (a := ws_val n d x u) (b := ws_val n d x v) (by omega) (by omega) (by omega) (by omega)
    refine br_f (nI_ge (a := v) (b := n) (by omega) (by omega)) (br_f (nI_ge (a := v) (b := 6) (by omega) (by decide)) (wy_val hn6 hd2 hd3 hx (by omega) ?_))
    rw [ws_pyI]
    refine ⟨vp_in_nI hp (by decide), fun c ec => ?_⟩
    rw [nI_clamp (by omega), Y.2.1 u v _ _ hu (by omega) (by omega) hwu hwv, ws_Br_lt huv] at ec
    have ec' : c = nI (ws_f n d B x u v) := ec
    have hf99 : ws_f n d B x u v ≤ 99 := hB _ _ _ _
    rw [ec']
    by_cases h9 : ws_f n d B x u v = 99
    · refine br_t (by rw [h9]; rfl) (hP ?_)
      exact ws_an_mem (i := v) (by omega) (by rw [decide_eq_true huv, decide_eq_true h9]; rfl)
    · refine br_f (fun z => h9 ((nI_eq (b := 99) (by omega) (by decide)).mp z)) (fun s es t et => ?_)
      rw [nI_add] at es
      rw [es, et, nI_1 v]
      have e1 : s0 + ws_rsY n d B x u v + ws_f n d B x u v = s0 + ws_rsY n d B x u (v + 1) := by
        have e2 : ws_rsY n d B x u (v + 1) = ws_rsY n d B x u v + (if u < v then ws_f n d B x u v else 0) := rfl
        rw [e2, if_pos huv, Nat.add_assoc]
      rw [e1]
      exact ih (v + 1) f' (by omega) (by omega) (by omega) (ws_an_s hb (by rw [decide_eq_false h9, Bool.and_false]))
theorem wy_cost_l (W : ws_wf n d U B A) (Y : ws_Y n d U B A yo yt ya) (x : Nat) (hx : x < 2 ^ 31) (h1 : ws_badY n d U B A x n = false → post (nI (ws_totY n d U B x n))) (h2 : ws_badY n d U B A x n = true → post (-2)) : ∀ m u fuel, u + m = n → m < fuel → ws_badY n d U B A x u = false → wY_cost_4 post (nI x) (nI n) (nI d) e yo yt ya fuel (nI (ws_totY n d U B x u)) (nI u) := by
  have W' := W
  obtain ⟨⟨hn2, hn6⟩, ⟨hd2, hd3⟩, hU, hB, hA⟩ := W
  intro m
  induction m with
  | zero =>
    intro u fuel hu hf hb
    obtain ⟨m, rfl⟩ : ∃ m, fuel = m + 1 := ⟨fuel - 1, by omega⟩
    have hun : u = n := hu
    rw [hun] at hb ⊢
    exact br_t (nI_le (Nat.le_refl _) (by omega)) (h1 hb)
  | succ m ih =>
    intro u fuel hu hf hb
    obtain ⟨f', rfl⟩ : ∃ m, fuel = m + 1 := ⟨fuel - 1, by omega⟩
    have hw := ws_val_lt (n := n) (x := x) (v := u) hd2
    refine br_f (nI_ge (a := u) (b := n) (by omega) (by omega)) (br_f (nI_ge (a := u) (b := 6) (by omega) (by decide)) (wy_val hn6 hd2 hd3 hx (by omega) ?_))
    refine ⟨vp_in_nI (by omega) (by decide), ?_⟩
    rw [nI_clamp (by omega), Y.2.2 u (by omega), ws_bit (A u) (hA u) _ (by omega), ws_ouI]
    have hm : ws_al n d A x u < 2 := Nat.mod_lt _ (by decide)
    show (nI (ws_al n d A x u) = 0 → _) ∧ (¬ nI (ws_al n d A x u) = 0 → _)
    by_cases z : ws_al n d A x u = 0
    · refine br_t (by rw [z]; rfl) (h2 ?_)
      exact ws_an_mem (i := u) (by omega) (by unfold ws_ub; rw [decide_eq_true z]; rfl)
    · refine br_f (nI_ne0 (by omega) (by omega)) ⟨vp_in_nI (by omega) (by decide), ?_⟩
      rw [nI_clamp (by omega), Y.1 u _ (by omega) hw]
      have hg : ws_g n d U x u ≤ 99 := hU _ _
      show (nI (ws_g n d U x u) = 99 → _) ∧ (¬ nI (ws_g n d U x u) = 99 → _)
      by_cases h9 : ws_g n d U x u = 99
      · refine br_t (by rw [h9]; rfl) (h2 ?_)
        exact ws_an_mem (i := u) (by omega) (by unfold ws_ub; rw [decide_eq_true h9, Bool.or_true]; rfl)
      · refine br_f (fun z => h9 ((nI_eq (b := 99) (by omega) (by decide)).mp z)) ⟨vp_in_nI (by omega) (by decide), fun s es t et => ⟨n + 1, ?_⟩⟩
        have es' : s = nI (ws_totY n d U B x u + ws_g n d U x u) := es.trans (nI_add _ _)
        have hub : ws_ub n d U A x u = false := by
          unfold ws_ub
          rw [decide_eq_false z, decide_eq_false h9]
          rfl
        have hr0 : ws_rsY n d B x u (u + 1) = 0 := ws_sm_zero (fun i hi => if_neg (by omega))
        have hf0 : ws_fbY n d B x u (u + 1) = false := ws_an_none (fun i hi => by rw [decide_eq_false (show ¬ u < i by omega), Bool.false_and])
        rw [es', et, nI_1 u]
        have R := wy_row_l (post := post) (e := e) W' Y x u (ws_totY n d U B x u + ws_g n d U x u) hx (by omega) (wY_cost_4 post (nI x) (nI n) (nI d) e yo yt ya f')
          (fun hfb => by
            have e1 : ws_totY n d U B x u + ws_g n d U x u + ws_rsY n d B x u n = ws_totY n d U B x (u + 1) := by
              have e2 : ws_totY n d U B x (u + 1) = ws_totY n d U B x u + (ws_g n d U x u + ws_rsY n d B x u n) := rfl
              rw [e2, Nat.add_assoc]
            rw [e1]
            exact ih (u + 1) f' (by omega) (by omega) (ws_an_s hb (by rw [hub, hfb]; rfl)))
          (fun hfb => h2 (ws_an_mem (i := u) (by omega) (by rw [hfb, Bool.or_true])))
          (n - (u + 1)) (u + 1) (n + 1) (by omega) (by omega) (by omega) hf0
        rw [hr0, Nat.add_zero] at R
        exact R
theorem wy_cost (W : ws_wf n d U B A) (Y : ws_Y n d U B A yo yt ya) {x : Nat} (hx : x < 2 ^ 31) (h : post (ws_en (-2) (ws_co n d U B A x))) : wpY_cost post (nI n, nI d, e, yo, yt, ya) (nI x) := by
  rw [ws_en_co] at h
  unfold wpY_cost
  dsimp only
  exact ⟨n + 1, wy_cost_l W Y x hx
    (fun hb => by
      rw [ws_badY_eq] at hb
      rw [ws_cv_f hb] at h
      rw [ws_totY_eq]
      exact h)
    (fun hb => by
      rw [ws_badY_eq] at hb
      rw [ws_cv_t hb] at h
      exact h) n 0 (n + 1) (by omega) (by omega) rfl⟩
end
