/-! X: the loops over all numbers -/
theorem ws_upX {K : Int32 → Prop} {m : Option Nat} {c : Nat} (hm : ∀ a, m = some a → a ≤ 4158) (hc : c ≤ 4158) (h : K (ws_en (-1) (ws_st m (some c)))) : (ws_en (-1) m = -1 → K (nI c)) ∧ (¬ ws_en (-1) m = -1 → ((ws_en (-1) m ≤ nI c → K (ws_en (-1) m)) ∧ (¬ ws_en (-1) m ≤ nI c → K (nI c)))) := by
  cases m with
  | none => exact br_t rfl h
  | some a =>
    have ha := hm a rfl
    have e1 : ws_st (some a) (some c) = if c < a then some c else some a := rfl
    rw [e1] at h
    refine br_f (ws_ne1 (by omega)) ?_
    by_cases z : c < a
    · rw [if_pos z] at h
      exact br_f (nI_ge z (by omega)) h
    · rw [if_neg z] at h
      exact br_t (nI_le (by omega) (by omega)) h
theorem ws_upY {K : Int32 → Prop} {e : Int32} (he : e < 0) {m : Option Nat} {c : Nat} (hm : ∀ a, m = some a → a ≤ 4158) (hc : c ≤ 4158) (h : K (ws_en e (ws_st m (some c)))) : (ws_en e m < 0 → K (nI c)) ∧ (¬ ws_en e m < 0 → ((ws_en e m ≤ nI c → K (ws_en e m)) ∧ (¬ ws_en e m ≤ nI c → K (nI c)))) := by
  cases m with
  | none => exact br_t he h
  | some a =>
    have ha := hm a rfl
    have e1 : ws_st (some a) (some c) = if c < a then some c else some a := rfl
    rw [e1] at h
    refine br_f (nI_pos (by omega)) ?_
    by_cases z : c < a
    · rw [if_pos z] at h
      exact br_f (nI_ge z (by omega)) h
    · rw [if_neg z] at h
      exact br_t (nI_le (by omega) (by omega)) h
section
variable {post : Int32 → Prop} {n d : Nat} {U : Nat → Nat → Nat} {B : Nat → Nat → Nat → Nat → Nat} {A : Nat → Nat} {xu xb xa : Nat → Int32}
theorem ws_cob (W : ws_wf n d U B A) : ∀ i c, ws_co n d U B A i = some c → c ≤ 4158 := fun _ _ h => ws_co_le W.1.2 W.2.2.1 W.2.2.2.1 h
theorem wx_la (W : ws_wf n d U B A) (X : ws_X n d U B A xu xb xa) {y : Int32} (h : post (ws_en (-1) (ws_mn (fun x => ws_of (fun c => decide (¬ nI c ≤ y)) (ws_co n d U B A x)) (d ^ n)))) : wpX_leastAbove post (nI n, nI d, nI (d ^ n), xu, xb, xa) y := by
  have hall := ws_pow W.1.2 W.2.1.2
  have hb := ws_of_le (fun c => decide (¬ nI c ≤ y)) (ws_cob W)
  unfold wpX_leastAbove
  dsimp only
  obtain ⟨m, hm⟩ := loop_0 (fun fuel i s => wX_leastAbove_4 post y (nI n) (nI d) (nI (d ^ n)) xu xb xa fuel s (nI i)) (fun i s => s = ws_en (-1) (ws_mn (fun x => ws_of (fun c => decide (¬ nI c ≤ y)) (ws_co n d U B A x)) i)) (d ^ n) (-1) rfl
    (fun m s hs => by
      rw [hs]
      exact br_t (nI_le (Nat.le_refl _) (by omega)) h)
    (fun m i s hi hs hk => by
      have hK : ∀ z, z = ws_en (-1) (ws_mn (fun x => ws_of (fun c => decide (¬ nI c ≤ y)) (ws_co n d U B A x)) (i + 1)) → ∀ t, t = nI i + 1 → wX_leastAbove_4 post y (nI n) (nI d) (nI (d ^ n)) xu xb xa m z t := fun z hz t et => by
        rw [et, nI_1 i]
        exact hk z hz
      have e1 : ws_mn (fun x => ws_of (fun c => decide (¬ nI c ≤ y)) (ws_co n d U B A x)) (i + 1) = ws_st (ws_mn (fun x => ws_of (fun c => decide (¬ nI c ≤ y)) (ws_co n d U B A x)) i) (ws_of (fun c => decide (¬ nI c ≤ y)) (ws_co n d U B A i)) := rfl
      rw [hs]
      refine br_f (nI_ge hi (by omega)) (wx_sol W X (by omega) ?_)
      cases hco : ws_co n d U B A i with
      | none =>
        rw [hco] at e1
        exact br_t rfl (hK _ (by rw [e1]; rfl))
      | some c =>
        have hc := ws_cob W i c hco
        rw [hco] at e1
        have e2 : ws_of (fun c => decide (¬ nI c ≤ y)) (some c) = if decide (¬ nI c ≤ y) = true then some c else none := rfl
        refine br_f (ws_ne1 (by omega)) ?_
        by_cases hq : nI c ≤ y
        · rw [e2, if_neg (by simp [hq])] at e1
          exact br_t hq (hK _ (by rw [e1]; rfl))
        · rw [e2, if_pos (decide_eq_true hq)] at e1
          exact br_f hq (ws_upX (K := fun z => ∀ t, t = nI i + 1 → wX_leastAbove_4 post y (nI n) (nI d) (nI (d ^ n)) xu xb xa m z t) (fun a ha => ws_mn_le hb ha) hc (hK _ (by rw [e1]))))
  exact ⟨m, hm⟩
theorem wx_best (W : ws_wf n d U B A) (X : ws_X n d U B A xu xb xa) (h : post (ws_en (-1) (ws_mn (ws_co n d U B A) (d ^ n)))) : wpX_leastAbove post (nI n, nI d, nI (d ^ n), xu, xb, xa) (-1) := by
  refine wx_la W X ?_
  have e1 : ws_mn (fun x => ws_of (fun c => decide (¬ nI c ≤ -1)) (ws_co n d U B A x)) (d ^ n) = ws_mn (ws_co n d U B A) (d ^ n) := by
    refine ws_mn_congr (fun i hi => ?_)
    show ws_of (fun c => decide (¬ nI c ≤ -1)) (ws_co n d U B A i) = _
    cases hco : ws_co n d U B A i with
    | none => rfl
    | some c =>
      have hc := ws_cob W i c hco
      have hq : ¬ nI c ≤ -1 := by
        intro z
        have z2 : nI c < 0 := Int32.lt_of_le_of_lt z (by decide)
        exact nI_pos (by omega) z2
      exact if_pos (decide_eq_true hq)
  rw [e1]
  exact h
theorem wx_ct (W : ws_wf n d U B A) (X : ws_X n d U B A xu xb xa) {y : Int32} (h : post (nI (ws_sm (fun x => ws_b1 (ws_oq (fun c => decide (nI c ≤ y)) (ws_co n d U B A x))) (d ^ n)))) : wpX_countAtMost post (nI n, nI d, nI (d ^ n), xu, xb, xa) y := by
  have hall := ws_pow W.1.2 W.2.1.2
  unfold wpX_countAtMost
  dsimp only
  obtain ⟨m, hm⟩ := loop_0 (fun fuel i s => wX_countAtMost_4 post y (nI n) (nI d) (nI (d ^ n)) xu xb xa fuel s (nI i)) (fun i s => s = nI (ws_sm (fun x => ws_b1 (ws_oq (fun c => decide (nI c ≤ y)) (ws_co n d U B A x))) i)) (d ^ n) 0 rfl
    (fun m s hs => by
      rw [hs]
      exact br_t (nI_le (Nat.le_refl _) (by omega)) h)
    (fun m i s hi hs hk => by
      have hK : ∀ z, z = nI (ws_sm (fun x => ws_b1 (ws_oq (fun c => decide (nI c ≤ y)) (ws_co n d U B A x))) (i + 1)) → ∀ t, t = nI i + 1 → wX_countAtMost_4 post y (nI n) (nI d) (nI (d ^ n)) xu xb xa m z t := fun z hz t et => by
        rw [et, nI_1 i]
        exact hk z hz
      have e1 : ws_sm (fun x => ws_b1 (ws_oq (fun c => decide (nI c ≤ y)) (ws_co n d U B A x))) (i + 1) = ws_sm (fun x => ws_b1 (ws_oq (fun c => decide (nI c ≤ y)) (ws_co n d U B A x))) i + ws_b1 (ws_oq (fun c => decide (nI c ≤ y)) (ws_co n d U B A i)) := rfl
      rw [hs]
      refine br_f (nI_ge hi (by omega)) (wx_sol W X (by omega) ?_)
      cases hco : ws_co n d U B A i with
      | none =>
        rw [hco] at e1
        exact br_t rfl (hK _ (by rw [e1]; rfl))
      | some c =>
        have hc := ws_cob W i c hco
        rw [hco] at e1
        have e2 : ws_oq (fun c => decide (nI c ≤ y)) (some c) = decide (nI c ≤ y) := rfl
        refine br_f (ws_ne1 (by omega)) ?_
        by_cases hq : y < nI c
        · rw [e2, decide_eq_false (Int32.not_le.mpr hq)] at e1
          exact br_t hq (hK _ (by rw [e1]; rfl))
        · rw [e2, decide_eq_true (Int32.not_lt.mp hq)] at e1
          refine br_f hq (fun z ez => hK z ?_)
          rw [ez, e1, nI_1]
          rfl)
  exact ⟨m, hm⟩
theorem wx_fw (W : ws_wf n d U B A) (X : ws_X n d U B A xu xb xa) {i0 c0 : Nat} (hi0 : i0 < d ^ n) (hc0 : ws_co n d U B A i0 = some c0) (hl : ∀ j, j < i0 → ¬ ws_co n d U B A j = some c0) (h : post (nI i0)) : wpX_firstWithCost post (nI n, nI d, nI (d ^ n), xu, xb, xa) (nI c0) := by
  have hall := ws_pow W.1.2 W.2.1.2
  have hcb := ws_cob W i0 c0 hc0
  have key : ∀ k i fuel, i + k = i0 → k < fuel → wX_firstWithCost_2 post (nI c0) (nI n) (nI d) (nI (d ^ n)) xu xb xa fuel (nI i) := by
    intro k
    induction k with
    | zero =>
      intro i fuel hi hf
      obtain ⟨m, rfl⟩ : ∃ m, fuel = m + 1 := ⟨fuel - 1, by omega⟩
      have hii : i = i0 := hi
      rw [hii]
      refine br_f (nI_ge hi0 (by omega)) (wx_sol W X (by omega) ?_)
      rw [hc0]
      exact br_t rfl h
    | succ k ih =>
      intro i fuel hi hf
      obtain ⟨m, rfl⟩ : ∃ m, fuel = m + 1 := ⟨fuel - 1, by omega⟩
      refine br_f (nI_ge (a := i) (b := d ^ n) (by omega) (by omega)) (wx_sol W X (by omega) ?_)
      refine br_f ?_ (fun t et => ?_)
      · cases hco : ws_co n d U B A i with
        | none => exact fun z => ws_ne1 (c := c0) (by omega) z.symm
        | some c =>
          have hc := ws_cob W i c hco
          intro z
          have z2 := (nI_eq (a := c) (b := c0) (by omega) (by omega)).mp z
          exact hl i (by omega) (by rw [hco, z2])
      · rw [et, nI_1 i]
        exact ih (i + 1) m (by omega) (by omega)
  unfold wpX_firstWithCost
  dsimp only
  exact ⟨i0 + 1, key i0 0 (i0 + 1) (by omega) (by omega)⟩
theorem wx_lw (W : ws_wf n d U B A) (X : ws_X n d U B A xu xb xa) {u a v b : Nat} (hu : u < n) (hv : v < n) (ha : a < d) (hb : b < d) (h : post (ws_en (-1) (ws_mn (ws_pw (ws_co n d U B A) (fun x => ws_val n d x u) (fun x => ws_val n d x v) a b) (d ^ n)))) : wpX_leastWith post (nI n, nI d, nI (d ^ n), xu, xb, xa) (nI u) (nI a) (nI v) (nI b) := by
  have hall := ws_pow W.1.2 W.2.1.2
  have hb2 := ws_pw_le (w1 := fun x => ws_val n d x u) (w2 := fun x => ws_val n d x v) (a := a) (b := b) (ws_cob W)
  have hn6 := W.1.2
  have hd2 := W.2.1.1
  have hd3 := W.2.1.2
  unfold wpX_leastWith
  dsimp only
  obtain ⟨m, hm⟩ := loop_0 (fun fuel i s => wX_leastWith_6 post (nI u) (nI a) (nI v) (nI b) (nI n) (nI d) (nI (d ^ n)) xu xb xa fuel s (nI i)) (fun i s => s = ws_en (-1) (ws_mn (ws_pw (ws_co n d U B A) (fun x => ws_val n d x u) (fun x => ws_val n d x v) a b) i)) (d ^ n) (-1) rfl
    (fun m s hs => by
      rw [hs]
      exact br_t (nI_le (Nat.le_refl _) (by omega)) h)
    (fun m i s hi hs hk => by
      have hK : ∀ z, z = ws_en (-1) (ws_mn (ws_pw (ws_co n d U B A) (fun x => ws_val n d x u) (fun x => ws_val n d x v) a b) (i + 1)) → ∀ t, t = nI i + 1 → wX_leastWith_6 post (nI u) (nI a) (nI v) (nI b) (nI n) (nI d) (nI (d ^ n)) xu xb xa m z t := fun z hz t et => by
        rw [et, nI_1 i]
        exact hk z hz
      have e1 : ws_mn (ws_pw (ws_co n d U B A) (fun x => ws_val n d x u) (fun x => ws_val n d x v) a b) (i + 1) = ws_st (ws_mn (ws_pw (ws_co n d U B A) (fun x => ws_val n d x u) (fun x => ws_val n d x v) a b) i) (ws_pw (ws_co n d U B A) (fun x => ws_val n d x u) (fun x => ws_val n d x v) a b i) := rfl
      have e2 : ws_pw (ws_co n d U B A) (fun x => ws_val n d x u) (fun x => ws_val n d x v) a b i = if ws_val n d i u = a ∧ ws_val n d i v = b then ws_co n d U B A i else none := rfl
      have hwu := ws_val_lt (n := n) (x := i) (v := u) hd2
      have hwv := ws_val_lt (n := n) (x := i) (v := v) hd2
      rw [hs]
      refine br_f (nI_ge hi (by omega)) (wx_val hn6 hd2 hd3 (by omega) hu ?_)
      by_cases h1 : ws_val n d i u = a
      · refine br_t (congrArg nI h1) (wx_val hn6 hd2 hd3 (by omega) hv ?_)
        by_cases h2 : ws_val n d i v = b
        · refine br_t (congrArg nI h2) (wx_sol W X (by omega) ?_)
          rw [e2, if_pos ⟨h1, h2⟩] at e1
          cases hco : ws_co n d U B A i with
          | none =>
            rw [hco] at e1
            exact br_t rfl (hK _ (by rw [e1]; rfl))
          | some c =>
            have hc := ws_cob W i c hco
            rw [hco] at e1
            exact br_f (ws_ne1 (by omega)) (ws_upX (K := fun z => ∀ t, t = nI i + 1 → wX_leastWith_6 post (nI u) (nI a) (nI v) (nI b) (nI n) (nI d) (nI (d ^ n)) xu xb xa m z t) (fun a ha => ws_mn_le hb2 ha) hc (hK _ (by rw [e1])))
        · rw [e2, if_neg (fun z => h2 z.2)] at e1
          exact br_f (fun z => h2 ((nI_eq (by omega) (by omega)).mp z)) (hK _ (by rw [e1]; rfl))
      · rw [e2, if_neg (fun z => h1 z.1)] at e1
        exact br_f (fun z => h1 ((nI_eq (by omega) (by omega)).mp z)) (hK _ (by rw [e1]; rfl)))
  exact ⟨m, hm⟩
end
