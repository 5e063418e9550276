/-! Y: the loops over all numbers -/
theorem ws_hitY {K1 K0 : Prop} {c L : Option Nat} (hc : ∀ a, c = some a → a ≤ 4158) (hL : ∀ a, L = some a → a ≤ 4158) (h1 : ws_hit L c = true → K1) (h0 : ws_hit L c = false → K0) : (ws_en (-2) c < 0 → K0) ∧ (¬ ws_en (-2) c < 0 → ((ws_en (-2) c = ws_en (-1) L → K1) ∧ (¬ ws_en (-2) c = ws_en (-1) L → K0))) := by
  cases c with
  | none => exact br_t (by decide) (h0 rfl)
  | some k =>
    have hk := hc k rfl
    refine br_f (nI_pos (by omega)) ?_
    cases L with
    | none => exact br_f (ws_ne1 (by omega)) (h0 (by simp [ws_hit]))
    | some m =>
      have hm := hL m rfl
      by_cases z : k = m
      · rw [z]
        exact br_t rfl (h1 (by rw [z, ws_hit_s]))
      · exact br_f (fun y => z ((nI_eq (a := k) (b := m) (by omega) (by omega)).mp y)) (h0 (ws_hit_n z))
section
variable {post : Int32 → Prop} {n d : Nat} {U : Nat → Nat → Nat} {B : Nat → Nat → Nat → Nat → Nat} {A : Nat → Nat} {yo yt ya : Nat → Int32}
theorem wy_best (W : ws_wf n d U B A) (Y : ws_Y n d U B A yo yt ya) (h : post (ws_en (-1) (ws_mn (ws_co n d U B A) (d ^ n)))) : wpY_best post (nI n, nI d, nI (d ^ n), yo, yt, ya) := by
  have hall := ws_pow W.1.2 W.2.1.2
  unfold wpY_best
  dsimp only
  obtain ⟨m, hm⟩ := loop_0 (fun fuel i s => wY_best_4 post (nI n) (nI d) (nI (d ^ n)) yo yt ya fuel s (nI i)) (fun i s => s = ws_en (-1) (ws_mn (ws_co n d U B A) i)) (d ^ n) (-1) rfl
    (fun m s hs => by
      rw [hs]
      exact br_t (nI_le (Nat.le_refl _) (by omega)) h)
    (fun m i s hi hs hk => by
      have hK : ∀ z, z = ws_en (-1) (ws_mn (ws_co n d U B A) (i + 1)) → ∀ t, t = nI i + 1 → wY_best_4 post (nI n) (nI d) (nI (d ^ n)) yo yt ya m z t := fun z hz t et => by
        rw [et, nI_1 i]
        exact hk z hz
      have e1 : ws_mn (ws_co n d U B A) (i + 1) = ws_st (ws_mn (ws_co n d U B A) i) (ws_co n d U B A i) := rfl
      rw [hs]
      refine br_f (nI_ge hi (by omega)) (wy_cost W Y (by omega) ?_)
      cases hco : ws_co n d U B A i with
      | none =>
        rw [hco] at e1
        exact br_t (by decide) (hK _ (by rw [e1]; rfl))
      | some c =>
        have hc := ws_cob W i c hco
        rw [hco] at e1
        exact br_f (nI_pos (by omega)) (ws_upY (K := fun z => ∀ t, t = nI i + 1 → wY_best_4 post (nI n) (nI d) (nI (d ^ n)) yo yt ya m z t) (by decide) (fun a ha => ws_mn_le (ws_cob W) ha) hc (hK _ (by rw [e1]))))
  exact ⟨m, hm⟩
theorem wy_next (W : ws_wf n d U B A) (Y : ws_Y n d U B A yo yt ya) {y : Int32} (h : post (ws_en (-1) (ws_mn (fun x => ws_of (fun c => decide (¬ nI c ≤ y)) (ws_co n d U B A x)) (d ^ n)))) : wpY_nextCost post (nI n, nI d, nI (d ^ n), yo, yt, ya) y := by
  have hall := ws_pow W.1.2 W.2.1.2
  have hb := ws_of_le (fun c => decide (¬ nI c ≤ y)) (ws_cob W)
  unfold wpY_nextCost
  dsimp only
  obtain ⟨m, hm⟩ := loop_0 (fun fuel i s => wY_nextCost_4 post y (nI n) (nI d) (nI (d ^ n)) yo yt ya fuel s (nI i)) (fun i s => s = ws_en (-1) (ws_mn (fun x => ws_of (fun c => decide (¬ nI c ≤ y)) (ws_co n d U B A x)) i)) (d ^ n) (-1) rfl
    (fun m s hs => by
      rw [hs]
      exact br_t (nI_le (Nat.le_refl _) (by omega)) h)
    (fun m i s hi hs hk => by
      have hK : ∀ z, z = ws_en (-1) (ws_mn (fun x => ws_of (fun c => decide (¬ nI c ≤ y)) (ws_co n d U B A x)) (i + 1)) → ∀ t, t = nI i + 1 → wY_nextCost_4 post y (nI n) (nI d) (nI (d ^ n)) yo yt ya m z t := fun z hz t et => by
        rw [et, nI_1 i]
        exact hk z hz
      have e1 : ws_mn (fun x => ws_of (fun c => decide (¬ nI c ≤ y)) (ws_co n d U B A x)) (i + 1) = ws_st (ws_mn (fun x => ws_of (fun c => decide (¬ nI c ≤ y)) (ws_co n d U B A x)) i) (ws_of (fun c => decide (¬ nI c ≤ y)) (ws_co n d U B A i)) := rfl
      rw [hs]
      refine br_f (nI_ge hi (by omega)) (wy_cost W Y (by omega) ?_)
      cases hco : ws_co n d U B A i with
      | none =>
        rw [hco] at e1
        exact br_t (by decide) (hK _ (by rw [e1]; rfl))
      | some c =>
        have hc := ws_cob W i c hco
        rw [hco] at e1
        have e2 : ws_of (fun c => decide (¬ nI c ≤ y)) (some c) = if decide (¬ nI c ≤ y) = true then some c else none := rfl
        refine br_f (nI_pos (by omega)) ?_
        by_cases hq : nI c ≤ y
        · rw [e2, if_neg (by simp [hq])] at e1
          exact br_t hq (hK _ (by rw [e1]; rfl))
        · rw [e2, if_pos (decide_eq_true hq)] at e1
          exact br_f hq (ws_upY (K := fun z => ∀ t, t = nI i + 1 → wY_nextCost_4 post y (nI n) (nI d) (nI (d ^ n)) yo yt ya m z t) (by decide) (fun a ha => ws_mn_le hb ha) hc (hK _ (by rw [e1]))))
  exact ⟨m, hm⟩
theorem wy_ct (W : ws_wf n d U B A) (Y : ws_Y n d U B A yo yt ya) {y : Int32} (h : post (nI (ws_sm (fun x => ws_b1 (ws_oq (fun c => decide (nI c ≤ y)) (ws_co n d U B A x))) (d ^ n)))) : wpY_countUpTo post (nI n, nI d, nI (d ^ n), yo, yt, ya) y := by
  have hall := ws_pow W.1.2 W.2.1.2
  unfold wpY_countUpTo
  dsimp only
  obtain ⟨m, hm⟩ := loop_0 (fun fuel i s => wY_countUpTo_4 post y (nI n) (nI d) (nI (d ^ n)) yo yt ya fuel s (nI i)) (fun i s => s = nI (ws_sm (fun x => ws_b1 (ws_oq (fun c => decide (nI c ≤ y)) (ws_co n d U B A x))) i)) (d ^ n) 0 rfl
    (fun m s hs => by
      rw [hs]
      exact br_t (nI_le (Nat.le_refl _) (by omega)) h)
    (fun m i s hi hs hk => by
      have hK : ∀ z, z = nI (ws_sm (fun x => ws_b1 (ws_oq (fun c => decide (nI c ≤ y)) (ws_co n d U B A x))) (i + 1)) → ∀ t, t = nI i + 1 → wY_countUpTo_4 post y (nI n) (nI d) (nI (d ^ n)) yo yt ya m z t := fun z hz t et => by
        rw [et, nI_1 i]
        exact hk z hz
      have e1 : ws_sm (fun x => ws_b1 (ws_oq (fun c => decide (nI c ≤ y)) (ws_co n d U B A x))) (i + 1) = ws_sm (fun x => ws_b1 (ws_oq (fun c => decide (nI c ≤ y)) (ws_co n d U B A x))) i + ws_b1 (ws_oq (fun c => decide (nI c ≤ y)) (ws_co n d U B A i)) := rfl
      rw [hs]
      refine br_f (nI_ge hi (by omega)) (wy_cost W Y (by omega) ?_)
      cases hco : ws_co n d U B A i with
      | none =>
        rw [hco] at e1
        exact br_t (by decide) (hK _ (by rw [e1]; rfl))
      | some c =>
        have hc := ws_cob W i c hco
        rw [hco] at e1
        have e2 : ws_oq (fun c => decide (nI c ≤ y)) (some c) = decide (nI c ≤ y) := rfl
        refine br_f (nI_pos (by omega)) ?_
        by_cases hq : y < nI c
        · rw [e2, decide_eq_false (Int32.not_le.mpr hq)] at e1
          exact br_t hq (hK _ (by rw [e1]; rfl))
        · rw [e2, decide_eq_true (Int32.not_lt.mp hq)] at e1
          refine br_f hq (fun z ez => hK z ?_)
          rw [ez, e1, nI_1]
          rfl)
  exact ⟨m, hm⟩
theorem wy_bc (W : ws_wf n d U B A) (Y : ws_Y n d U B A yo yt ya) {L : Option Nat} (hL : ∀ a, L = some a → a ≤ 4158) (h : post (nI (ws_sm (fun x => ws_b1 (ws_hit L (ws_co n d U B A x))) (d ^ n)))) : ∃ fuel, wY_bestCount_9 post (ws_en (-1) L) (nI n) (nI d) (nI (d ^ n)) yo yt ya fuel 0 0 := by
  have hall := ws_pow W.1.2 W.2.1.2
  obtain ⟨m, hm⟩ := loop_0 (fun fuel i s => wY_bestCount_9 post (ws_en (-1) L) (nI n) (nI d) (nI (d ^ n)) yo yt ya fuel s (nI i)) (fun i s => s = nI (ws_sm (fun x => ws_b1 (ws_hit L (ws_co n d U B A x))) i)) (d ^ n) 0 rfl
    (fun m s hs => by
      rw [hs]
      exact br_t (nI_le (Nat.le_refl _) (by omega)) h)
    (fun m i s hi hs hk => by
      have hK : ∀ z, z = nI (ws_sm (fun x => ws_b1 (ws_hit L (ws_co n d U B A x))) (i + 1)) → ∀ t, t = nI i + 1 → wY_bestCount_9 post (ws_en (-1) L) (nI n) (nI d) (nI (d ^ n)) yo yt ya m z t := fun z hz t et => by
        rw [et, nI_1 i]
        exact hk z hz
      have e1 : ws_sm (fun x => ws_b1 (ws_hit L (ws_co n d U B A x))) (i + 1) = ws_sm (fun x => ws_b1 (ws_hit L (ws_co n d U B A x))) i + ws_b1 (ws_hit L (ws_co n d U B A i)) := rfl
      rw [hs]
      refine br_f (nI_ge hi (by omega)) (wy_cost W Y (by omega) ?_)
      refine ws_hitY (fun a ha => ws_cob W i a ha) hL (fun z => ?_) (fun z => ?_)
      · rw [z] at e1
        refine fun s2 es2 => hK s2 ?_
        rw [es2, e1, nI_1]
        rfl
      · rw [z] at e1
        exact hK _ (by rw [e1]; rfl))
  exact ⟨m, hm⟩
theorem wy_bv_t (W : ws_wf n d U B A) (Y : ws_Y n d U B A yo yt ya) {L : Option Nat} (hL : ∀ a, L = some a → a ≤ 4158) {v i0 : Nat} (hv : v < n) (hi0 : i0 < d ^ n) (h0 : ws_hit L (ws_co n d U B A i0) = true) (hl : ∀ j, j < i0 → ¬ ws_hit L (ws_co n d U B A j) = true) (h : post (nI (ws_val n d i0 v))) : ∃ fuel, wY_bestValue_17 post (nI v) (ws_en (-1) L) (nI n) (nI d) (nI (d ^ n)) yo yt ya fuel 0 := by
  have hall := ws_pow W.1.2 W.2.1.2
  have key : ∀ k i fuel, i + k = i0 → k < fuel → wY_bestValue_17 post (nI v) (ws_en (-1) L) (nI n) (nI d) (nI (d ^ n)) yo yt ya fuel (nI i) := by
    intro k
    induction k with
    | zero =>
      intro i fuel hi hf
      obtain ⟨m, rfl⟩ : ∃ m, fuel = m + 1 := ⟨fuel - 1, by omega⟩
      have hii : i = i0 := hi
      rw [hii]
      refine br_f (nI_ge hi0 (by omega)) (wy_cost W Y (by omega) ?_)
      refine ws_hitY (fun a ha => ws_cob W i0 a ha) hL (fun z => ?_) (fun z => ?_)
      · exact wy_val W.1.2 W.2.1.1 W.2.1.2 (by omega) hv h
      · rw [h0] at z
        cases z
    | succ k ih =>
      intro i fuel hi hf
      obtain ⟨m, rfl⟩ : ∃ m, fuel = m + 1 := ⟨fuel - 1, by omega⟩
      refine br_f (nI_ge (a := i) (b := d ^ n) (by omega) (by omega)) (wy_cost W Y (by omega) ?_)
      refine ws_hitY (fun a ha => ws_cob W i a ha) hL (fun z => absurd z (hl i (by omega))) (fun z t et => ?_)
      rw [et, nI_1 i]
      exact ih (i + 1) m (by omega) (by omega)
  exact ⟨i0 + 1, key i0 0 (i0 + 1) (by omega) (by omega)⟩
theorem wy_bv_f (W : ws_wf n d U B A) (Y : ws_Y n d U B A yo yt ya) {L : Option Nat} (hL : ∀ a, L = some a → a ≤ 4158) {v : Nat} (hl : ∀ j, j < d ^ n → ¬ ws_hit L (ws_co n d U B A j) = true) (h : post (-2)) : ∃ fuel, wY_bestValue_17 post (nI v) (ws_en (-1) L) (nI n) (nI d) (nI (d ^ n)) yo yt ya fuel 0 := by
  have hall := ws_pow W.1.2 W.2.1.2
  have key : ∀ k i fuel, i + k = d ^ n → k < fuel → wY_bestValue_17 post (nI v) (ws_en (-1) L) (nI n) (nI d) (nI (d ^ n)) yo yt ya fuel (nI i) := by
    intro k
    induction k with
    | zero =>
      intro i fuel hi hf
      obtain ⟨m, rfl⟩ : ∃ m, fuel = m + 1 := ⟨fuel - 1, by omega⟩
      exact br_t (nI_le (by omega) (by omega)) h
    | succ k ih =>
      intro i fuel hi hf
      obtain ⟨m, rfl⟩ : ∃ m, fuel = m + 1 := ⟨fuel - 1, by omega⟩
      refine br_f (nI_ge (a := i) (b := d ^ n) (by omega) (by omega)) (wy_cost W Y (by omega) ?_)
      refine ws_hitY (fun a ha => ws_cob W i a ha) hL (fun z => absurd z (hl i (by omega))) (fun z t et => ?_)
      rw [et, nI_1 i]
      exact ih (i + 1) m (by omega) (by omega)
  exact ⟨d ^ n + 1, key (d ^ n) 0 (d ^ n + 1) (by omega) (by omega)⟩
theorem wy_bw (W : ws_wf n d U B A) (Y : ws_Y n d U B A yo yt ya) {v a : Nat} (hv : v < n) (ha : a < d) (h : post (ws_en (-3) (ws_mn (ws_pw (ws_co n d U B A) (fun x => ws_val n d x v) (fun x => ws_val n d x v) a a) (d ^ n)))) : ∃ fuel, wY_bestWith_27 post (nI v) (nI a) (nI n) (nI d) (nI (d ^ n)) yo yt ya fuel (-3) 0 := by
  have hall := ws_pow W.1.2 W.2.1.2
  have hb2 := ws_pw_le (w1 := fun x => ws_val n d x v) (w2 := fun x => ws_val n d x v) (a := a) (b := a) (ws_cob W)
  have hn6 := W.1.2
  have hd2 := W.2.1.1
  have hd3 := W.2.1.2
  obtain ⟨m, hm⟩ := loop_0 (fun fuel i s => wY_bestWith_27 post (nI v) (nI a) (nI n) (nI d) (nI (d ^ n)) yo yt ya fuel s (nI i)) (fun i s => s = ws_en (-3) (ws_mn (ws_pw (ws_co n d U B A) (fun x => ws_val n d x v) (fun x => ws_val n d x v) a a) i)) (d ^ n) (-3) rfl
    (fun m s hs => by
      rw [hs]
      exact br_t (nI_le (Nat.le_refl _) (by omega)) h)
    (fun m i s hi hs hk => by
      have hK : ∀ z, z = ws_en (-3) (ws_mn (ws_pw (ws_co n d U B A) (fun x => ws_val n d x v) (fun x => ws_val n d x v) a a) (i + 1)) → ∀ t, t = nI i + 1 → wY_bestWith_27 post (nI v) (nI a) (nI n) (nI d) (nI (d ^ n)) yo yt ya m z t := fun z hz t et => by
        rw [et, nI_1 i]
        exact hk z hz
      have e1 : ws_mn (ws_pw (ws_co n d U B A) (fun x => ws_val n d x v) (fun x => ws_val n d x v) a a) (i + 1) = ws_st (ws_mn (ws_pw (ws_co n d U B A) (fun x => ws_val n d x v) (fun x => ws_val n d x v) a a) i) (ws_pw (ws_co n d U B A) (fun x => ws_val n d x v) (fun x => ws_val n d x v) a a i) := rfl
      have e2 : ws_pw (ws_co n d U B A) (fun x => ws_val n d x v) (fun x => ws_val n d x v) a a i = if ws_val n d i v = a ∧ ws_val n d i v = a then ws_co n d U B A i else none := rfl
      have hwv := ws_val_lt (n := n) (x := i) (v := v) hd2
      rw [hs]
      refine br_f (nI_ge hi (by omega)) (wy_cost W Y (by omega) ?_)
      cases hco : ws_co n d U B A i with
      | none =>
        rw [e2, hco, ite_self] at e1
        exact br_t (by decide) (hK _ (by rw [e1]; rfl))
      | some c =>
        have hc := ws_cob W i c hco
        refine br_f (nI_pos (by omega)) (wy_val hn6 hd2 hd3 (by omega) hv ?_)
        by_cases h2 : ws_val n d i v = a
        · rw [e2, if_pos ⟨h2, h2⟩, hco] at e1
          exact br_t (congrArg nI h2) (ws_upY (K := fun z => ∀ t, t = nI i + 1 → wY_bestWith_27 post (nI v) (nI a) (nI n) (nI d) (nI (d ^ n)) yo yt ya m z t) (by decide) (fun a ha => ws_mn_le hb2 ha) hc (hK _ (by rw [e1])))
        · rw [e2, if_neg (fun z => h2 z.2)] at e1
          exact br_f (fun z => h2 ((nI_eq (by omega) (by omega)).mp z)) (hK _ (by rw [e1]; rfl)))
  exact ⟨m, hm⟩
theorem wy_bp (W : ws_wf n d U B A) (Y : ws_Y n d U B A yo yt ya) {u a v b : Nat} (hu : u < n) (hv : v < n) (ha : a < d) (hb : b < d) (h : post (ws_en (-3) (ws_mn (ws_pw (ws_co n d U B A) (fun x => ws_val n d x u) (fun x => ws_val n d x v) a b) (d ^ n)))) : ∃ fuel, wY_bestWithPair_71 post (nI u) (nI v) (nI a) (nI b) (nI n) (nI d) (nI (d ^ n)) yo yt ya fuel (-3) 0 := by
  have hall := ws_pow W.1.2 W.2.1.2
  have hb2 := ws_pw_le (w1 := fun x => ws_val n d x u) (w2 := fun x => ws_val n d x v) (a := a) (b := b) (ws_cob W)
  have hn6 := W.1.2
  have hd2 := W.2.1.1
  have hd3 := W.2.1.2
  obtain ⟨m, hm⟩ := loop_0 (fun fuel i s => wY_bestWithPair_71 post (nI u) (nI v) (nI a) (nI b) (nI n) (nI d) (nI (d ^ n)) yo yt ya fuel s (nI i)) (fun i s => s = ws_en (-3) (ws_mn (ws_pw (ws_co n d U B A) (fun x => ws_val n d x u) (fun x => ws_val n d x v) a b) i)) (d ^ n) (-3) rfl
    (fun m s hs => by
      rw [hs]
      exact br_t (nI_le (Nat.le_refl _) (by omega)) h)
    (fun m i s hi hs hk => by
      have hK : ∀ z, z = ws_en (-3) (ws_mn (ws_pw (ws_co n d U B A) (fun x => ws_val n d x u) (fun x => ws_val n d x v) a b) (i + 1)) → ∀ t, t = nI i + 1 → wY_bestWithPair_71 post (nI u) (nI v) (nI a) (nI b) (nI n) (nI d) (nI (d ^ n)) yo yt ya m z t := fun z hz t et => by
        rw [et, nI_1 i]
        exact hk z hz
      have e1 : ws_mn (ws_pw (ws_co n d U B A) (fun x => ws_val n d x u) (fun x => ws_val n d x v) a b) (i + 1) = ws_st (ws_mn (ws_pw (ws_co n d U B A) (fun x => ws_val n d x u) (fun x => ws_val n d x v) a b) i) (ws_pw (ws_co n d U B A) (fun x => ws_val n d x u) (fun x => ws_val n d x v) a b i) := rfl
      have e2 : ws_pw (ws_co n d U B A) (fun x => ws_val n d x u) (fun x => ws_val n d x v) a b i = if ws_val n d i u = a ∧ ws_val n d i v = b then ws_co n d U B A i else none := rfl
      have hwu := ws_val_lt (n := n) (x := i) (v := u) hd2
      have hwv := ws_val_lt (n := n) (x := i) (v := v) hd2
      rw [hs]
      refine br_f (nI_ge hi (by omega)) (wy_cost W Y (by omega) ?_)
      cases hco : ws_co n d U B A i with
      | none =>
        rw [e2, hco, ite_self] at e1
        exact br_t (by decide) (hK _ (by rw [e1]; rfl))
      | some c =>
        have hc := ws_cob W i c hco
        refine br_f (nI_pos (by omega)) (wy_val hn6 hd2 hd3 (by omega) hu ?_)
        by_cases h1 : ws_val n d i u = a
        · refine br_t (congrArg nI h1) (wy_val hn6 hd2 hd3 (by omega) hv ?_)
          by_cases h2 : ws_val n d i v = b
          · rw [e2, if_pos ⟨h1, h2⟩, hco] at e1
            exact br_t (congrArg nI h2) (ws_upY (K := fun z => ∀ t, t = nI i + 1 → wY_bestWithPair_71 post (nI u) (nI v) (nI a) (nI b) (nI n) (nI d) (nI (d ^ n)) yo yt ya m z t) (by decide) (fun a ha => ws_mn_le hb2 ha) hc (hK _ (by rw [e1])))
          · rw [e2, if_neg (fun z => h2 z.2)] at e1
            exact br_f (fun z => h2 ((nI_eq (by omega) (by omega)).mp z)) (hK _ (by rw [e1]; rfl))
        · rw [e2, if_neg (fun z => h1 z.1)] at e1
          exact br_f (fun z => h1 ((nI_eq (by omega) (by omega)).mp z)) (hK _ (by rw [e1]; rfl)))
  exact ⟨m, hm⟩
theorem wy_ch (W : ws_wf n d U B A) (Y : ws_Y n d U B A yo yt ya) {L : Option Nat} (hL : ∀ a, L = some a → a ≤ 4158) {v : Nat} (hv : v < n) (h : post (nI (ws_b1 ((ws_mk (fun x => ws_hit L (ws_co n d U B A x)) (fun x => ws_val n d x v) (d ^ n)).testBit 0) + ws_b1 ((ws_mk (fun x => ws_hit L (ws_co n d U B A x)) (fun x => ws_val n d x v) (d ^ n)).testBit 1) + ws_b1 ((ws_mk (fun x => ws_hit L (ws_co n d U B A x)) (fun x => ws_val n d x v) (d ^ n)).testBit 2)))) : ∃ fuel, wY_choices_20 post (nI v) (ws_en (-1) L) (nI n) (nI d) (nI (d ^ n)) yo yt ya fuel 0 0 := by
  have hall := ws_pow W.1.2 W.2.1.2
  have hn6 := W.1.2
  have hd2 := W.2.1.1
  have hd3 := W.2.1.2
  have hlt := ws_mk_lt (q := fun x => ws_hit L (ws_co n d U B A x)) (w := fun x => ws_val n d x v) (fun i => Nat.lt_of_lt_of_le (ws_val_lt (n := n) (x := i) (v := v) hd2) hd3)
  obtain ⟨m, hm⟩ := loop_0 (fun fuel i s => wY_choices_20 post (nI v) (ws_en (-1) L) (nI n) (nI d) (nI (d ^ n)) yo yt ya fuel s (nI i)) (fun i s => s = nI (ws_mk (fun x => ws_hit L (ws_co n d U B A x)) (fun x => ws_val n d x v) i)) (d ^ n) 0 rfl
    (fun m s hs => by
      rw [hs]
      refine br_t (nI_le (Nat.le_refl _) (by omega)) ?_
      rw [ws_pop _ (hlt (d ^ n))]
      exact h)
    (fun m i s hi hs hk => by
      have hK : ∀ z, z = nI (ws_mk (fun x => ws_hit L (ws_co n d U B A x)) (fun x => ws_val n d x v) (i + 1)) → ∀ t, t = nI i + 1 → wY_choices_20 post (nI v) (ws_en (-1) L) (nI n) (nI d) (nI (d ^ n)) yo yt ya m z t := fun z hz t et => by
        rw [et, nI_1 i]
        exact hk z hz
      have e1 : ws_mk (fun x => ws_hit L (ws_co n d U B A x)) (fun x => ws_val n d x v) (i + 1) = if ws_hit L (ws_co n d U B A i) = true then ws_mk (fun x => ws_hit L (ws_co n d U B A x)) (fun x => ws_val n d x v) i ||| 2 ^ ws_val n d i v else ws_mk (fun x => ws_hit L (ws_co n d U B A x)) (fun x => ws_val n d x v) i := rfl
      have hwv := ws_val_lt (n := n) (x := i) (v := v) hd2
      rw [hs]
      refine br_f (nI_ge hi (by omega)) (wy_cost W Y (by omega) (wy_val hn6 hd2 hd3 (by omega) hv ?_))
      refine ws_hitY (fun a ha => ws_cob W i a ha) hL (fun z => ?_) (fun z => ?_)
      · rw [if_pos z] at e1
        refine fun s2 es2 => hK s2 ?_
        rw [es2, e1]
        exact (ws_or8 _ (hlt i) _ (by omega)).2
      · rw [if_neg (by rw [z]; decide)] at e1
        exact hK _ (by rw [e1]))
  exact ⟨m, hm⟩
end
