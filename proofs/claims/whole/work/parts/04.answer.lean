/-! pure facts on the answers -/
def ws_oq (q : Nat → Bool) : Option Nat → Bool
  | none => false
  | some c => q c
def ws_of (q : Nat → Bool) : Option Nat → Option Nat
  | none => none
  | some c => if q c = true then some c else none
def ws_hit (L c : Option Nat) : Bool := c.isSome && decide (c = L)
def ws_pw (co : Nat → Option Nat) (w1 w2 : Nat → Nat) (a b x : Nat) : Option Nat := if w1 x = a ∧ w2 x = b then co x else none
theorem ws_hit_t {L c : Option Nat} (h : ws_hit L c = true) : ∃ m, c = some m ∧ L = some m := by
  unfold ws_hit at h
  rw [Bool.and_eq_true] at h
  have e : c = L := of_decide_eq_true h.2
  cases c with
  | none => cases h.1
  | some m => exact ⟨m, rfl, e.symm⟩
theorem ws_hit_s (m : Nat) : ws_hit (some m) (some m) = true := by simp [ws_hit]
theorem ws_hit_n {m k : Nat} (h : k ≠ m) : ws_hit (some m) (some k) = false := by simp [ws_hit, h]
theorem ws_mn_le {p : Nat → Option Nat} {k m M : Nat} (h : ∀ i c, p i = some c → c ≤ M) (hm : ws_mn p k = some m) : m ≤ M := by
  obtain ⟨⟨i, _, hi⟩, _⟩ := (ws_mn_spec p k).2 m hm
  exact h i m hi
theorem ws_of_le {p : Nat → Option Nat} {M : Nat} (q : Nat → Bool) (h : ∀ i c, p i = some c → c ≤ M) : ∀ i c, ws_of q (p i) = some c → c ≤ M := by
  intro i c hc
  cases e : p i with
  | none =>
    rw [e] at hc
    cases hc
  | some k =>
    rw [e] at hc
    have hc' : (if q k = true then some k else none) = some c := hc
    by_cases z : q k = true
    · rw [if_pos z] at hc'
      cases hc'
      exact h i _ e
    · rw [if_neg z] at hc'
      cases hc'
theorem ws_pw_le {co : Nat → Option Nat} {w1 w2 : Nat → Nat} {a b M : Nat} (h : ∀ i c, co i = some c → c ≤ M) : ∀ i c, ws_pw co w1 w2 a b i = some c → c ≤ M := by
  intro i c hc
  unfold ws_pw at hc
  by_cases z : w1 i = a ∧ w2 i = b
  · rw [if_pos z] at hc
    exact h i c hc
  · rw [if_neg z] at hc
    cases hc
theorem ws_count_eq {co : Nat → Option Nat} {k : Nat} (hc : ∀ i c, co i = some c → c ≤ 4158) : ws_sm (fun x => ws_b1 (ws_oq (fun c => decide (nI c ≤ ws_en (-1) (ws_mn co k))) (co x))) k = ws_sm (fun x => ws_b1 (ws_hit (ws_mn co k) (co x))) k := by
  refine ws_sm_congr (fun i hi => congrArg ws_b1 ?_)
  show ws_oq (fun c => decide (nI c ≤ ws_en (-1) (ws_mn co k))) (co i) = ws_hit (ws_mn co k) (co i)
  cases h : co i with
  | none => rfl
  | some c =>
    cases hm : ws_mn co k with
    | none =>
      have z := (ws_mn_spec co k).1 hm i hi
      rw [h] at z
      cases z
    | some m =>
      have h1 := ((ws_mn_spec co k).2 m hm).2 i c hi h
      have h2 := hc i c h
      have h3 := ws_mn_le hc hm
      show decide (nI c ≤ nI m) = ws_hit (some m) (some c)
      by_cases e : c = m
      · rw [e, decide_eq_true (nI_le (Nat.le_refl m) (by omega)), ws_hit_s]
      · rw [decide_eq_false (nI_ge (a := m) (b := c) (by omega) (by omega)), ws_hit_n e]
theorem ws_pw_eq {co : Nat → Option Nat} {w : Nat → Nat} {k m : Nat} (hm : ws_mn co k = some m) (a : Nat) : decide (ws_mn (ws_pw co w w a a) k = some m) = (ws_mk (fun x => ws_hit (some m) (co x)) w k).testBit a := by
  apply Bool.eq_iff_iff.mpr
  rw [decide_eq_true_iff, ws_mk_bit]
  constructor
  · intro h
    obtain ⟨⟨i, hi, h1⟩, _⟩ := (ws_mn_spec _ k).2 m h
    unfold ws_pw at h1
    by_cases e : w i = a ∧ w i = a
    · rw [if_pos e] at h1
      refine ⟨i, hi, ?_, e.1⟩
      show ws_hit (some m) (co i) = true
      rw [h1, ws_hit_s]
    · rw [if_neg e] at h1
      cases h1
  · rintro ⟨i, hi, h1, h2⟩
    obtain ⟨m1, hc, e1⟩ := ws_hit_t h1
    cases e1
    have hp : ws_pw co w w a a i = some m := (if_pos ⟨h2, h2⟩).trans hc
    cases hq : ws_mn (ws_pw co w w a a) k with
    | none =>
      have z := (ws_mn_spec _ k).1 hq i hi
      rw [hp] at z
      cases z
    | some m' =>
      obtain ⟨⟨j, hj, h3⟩, h4⟩ := (ws_mn_spec _ k).2 m' hq
      have h5 := h4 i m hi hp
      unfold ws_pw at h3
      by_cases e : w j = a ∧ w j = a
      · rw [if_pos e] at h3
        have h6 := ((ws_mn_spec co k).2 m hm).2 j m' hj h3
        rw [show m' = m from by omega]
      · rw [if_neg e] at h3
        cases h3
theorem ws_ch_eq {co : Nat → Option Nat} {w : Nat → Nat} {k m d : Nat} (hd2 : 2 ≤ d) (hd : d ≤ 3) (hw : ∀ i, w i < d) (hm : ws_mn co k = some m) : ws_sm (fun a => ws_b1 (decide (ws_mn (ws_pw co w w a a) k = some m))) d = ws_b1 ((ws_mk (fun x => ws_hit (some m) (co x)) w k).testBit 0) + ws_b1 ((ws_mk (fun x => ws_hit (some m) (co x)) w k).testBit 1) + ws_b1 ((ws_mk (fun x => ws_hit (some m) (co x)) w k).testBit 2) := by
  have hs : ∀ F : Nat → Nat, ws_sm F 3 = F 0 + F 1 + F 2 := fun F => by
    show 0 + F 0 + F 1 + F 2 = _
    rw [Nat.zero_add]
  have hs2 : ∀ F : Nat → Nat, ws_sm F 2 = F 0 + F 1 := fun F => by
    show 0 + F 0 + F 1 = _
    rw [Nat.zero_add]
  rcases (by omega : d = 2 ∨ d = 3) with rfl | rfl
  · have h2 : (ws_mk (fun x => ws_hit (some m) (co x)) w k).testBit 2 = false := by
      cases e : (ws_mk (fun x => ws_hit (some m) (co x)) w k).testBit 2 with
      | false => rfl
      | true =>
        obtain ⟨i, _, _, h⟩ := (ws_mk_bit _ _ _ _).mp e
        have := hw i
        omega
    rw [hs2, ws_pw_eq hm 0, ws_pw_eq hm 1, h2]
    rfl
  · rw [hs, ws_pw_eq hm 0, ws_pw_eq hm 1, ws_pw_eq hm 2]
/-! arguments -/
theorem ws_cl3 (x : Int32) {lo hi : Nat} (hl : lo < 2 ^ 31) (hh : hi < 2 ^ 31) : x < nI lo ∨ (¬ x < nI lo ∧ nI hi < x) ∨ (¬ x < nI lo ∧ ¬ nI hi < x ∧ ∃ j, lo ≤ j ∧ j ≤ hi ∧ x = nI j) := by
  by_cases h1 : x < nI lo
  · exact Or.inl h1
  · by_cases h2 : nI hi < x
    · exact Or.inr (Or.inl ⟨h1, h2⟩)
    · have h0 : ¬ x < 0 := Int32.not_lt.mpr (Int32.le_trans (nI_pos' hl) (Int32.not_lt.mp h1))
      obtain ⟨j, hj, rfl⟩ := nI_of h0
      refine Or.inr (Or.inr ⟨h1, h2, j, ?_, ?_, rfl⟩)
      · rw [nI_ltI hj hl] at h1
        omega
      · rw [nI_ltI hh hj] at h2
        omega
