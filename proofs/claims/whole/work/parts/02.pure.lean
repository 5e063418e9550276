/-! pure rows: sums, 'some', digits, the cost of a number, least, masks -/
def ws_sm (f : Nat → Nat) : Nat → Nat
  | 0 => 0
  | k + 1 => ws_sm f k + f k
def ws_an (b : Nat → Bool) : Nat → Bool
  | 0 => false
  | k + 1 => ws_an b k || b k
theorem ws_an_iff (b : Nat → Bool) (k : Nat) : ws_an b k = true ↔ ∃ i, i < k ∧ b i = true := by
  induction k with
  | zero => simp [ws_an]
  | succ k ih =>
    show (ws_an b k || b k) = true ↔ _
    rw [Bool.or_eq_true, ih]
    constructor
    · rintro (⟨i, hi, h⟩ | h)
      · exact ⟨i, by omega, h⟩
      · exact ⟨k, by omega, h⟩
    · rintro ⟨i, hi, h⟩
      by_cases e : i = k
      · subst e
        exact Or.inr h
      · exact Or.inl ⟨i, by omega, h⟩
theorem ws_an_mem {b : Nat → Bool} {k i : Nat} (hi : i < k) (h : b i = true) : ws_an b k = true := (ws_an_iff b k).mpr ⟨i, hi, h⟩
theorem ws_an_none {b : Nat → Bool} {k : Nat} (h : ∀ i, i < k → b i = false) : ws_an b k = false := by
  cases e : ws_an b k with
  | false => rfl
  | true =>
    obtain ⟨i, hi, hb⟩ := (ws_an_iff b k).mp e
    rw [h i hi] at hb
    cases hb
theorem ws_an_s {b : Nat → Bool} {k : Nat} (h : ws_an b k = false) (hk : b k = false) : ws_an b (k + 1) = false := by
  show (ws_an b k || b k) = false
  rw [h, hk]
  rfl
theorem ws_an_ext {b c : Nat → Bool} {k l : Nat} (h : (∃ i, i < k ∧ b i = true) ↔ ∃ i, i < l ∧ c i = true) : ws_an b k = ws_an c l := by
  apply Bool.eq_iff_iff.mpr
  rw [ws_an_iff, ws_an_iff]
  exact h
theorem ws_sm_congr {f g : Nat → Nat} {k : Nat} (h : ∀ i, i < k → f i = g i) : ws_sm f k = ws_sm g k := by
  induction k with
  | zero => rfl
  | succ k ih =>
    show ws_sm f k + f k = ws_sm g k + g k
    rw [ih (fun i hi => h i (by omega)), h k (by omega)]
theorem ws_sm_zero {f : Nat → Nat} {k : Nat} (h : ∀ i, i < k → f i = 0) : ws_sm f k = 0 := by
  induction k with
  | zero => rfl
  | succ k ih =>
    show ws_sm f k + f k = 0
    rw [ih (fun i hi => h i (by omega)), h k (by omega)]
theorem ws_sm_add (f g : Nat → Nat) (k : Nat) : ws_sm (fun i => f i + g i) k = ws_sm f k + ws_sm g k := by
  induction k with
  | zero => rfl
  | succ k ih =>
    show ws_sm (fun i => f i + g i) k + (f k + g k) = (ws_sm f k + f k) + (ws_sm g k + g k)
    rw [ih]
    omega
theorem ws_sm_le {f : Nat → Nat} {c k : Nat} (h : ∀ i, i < k → f i ≤ c) : ws_sm f k ≤ k * c := by
  induction k with
  | zero => exact Nat.zero_le _
  | succ k ih =>
    show ws_sm f k + f k ≤ (k + 1) * c
    have h1 := ih (fun i hi => h i (by omega))
    have h2 := h k (by omega)
    rw [Nat.add_mul, Nat.one_mul]
    omega
theorem ws_fub (f : Nat → Nat → Nat) (n : Nat) : ws_sm (fun v => ws_sm (fun u => f u v) v) n = ws_sm (fun u => ws_sm (fun v => if u < v then f u v else 0) n) n := by
  induction n with
  | zero => rfl
  | succ n ih =>
    have h1 : ws_sm (fun v => if n < v then f n v else 0) (n + 1) = 0 := ws_sm_zero (fun i hi => if_neg (by omega))
    have h2 : ws_sm (fun u => ws_sm (fun v => if u < v then f u v else 0) (n + 1)) n = ws_sm (fun u => ws_sm (fun v => if u < v then f u v else 0) n + f u n) n := by
      refine ws_sm_congr (fun i hi => ?_)
      show ws_sm (fun v => if i < v then f i v else 0) n + (if i < n then f i n else 0) = _
      rw [if_pos hi]
    have h3 : ws_sm (fun u => ws_sm (fun v => if u < v then f u v else 0) n + f u n) n = ws_sm (fun u => ws_sm (fun v => if u < v then f u v else 0) n) n + ws_sm (fun u => f u n) n := ws_sm_add _ _ n
    show ws_sm (fun v => ws_sm (fun u => f u v) v) n + ws_sm (fun u => f u n) n = ws_sm (fun u => ws_sm (fun v => if u < v then f u v else 0) (n + 1)) n + ws_sm (fun v => if n < v then f n v else 0) (n + 1)
    rw [h1, h2, h3, ih, Nat.add_zero]
/-! two digits in one number -/
theorem ws_dm {d a b : Nat} (hb : b < d) : (d * a + b) / d = a ∧ (d * a + b) % d = b :=
  ⟨by rw [Nat.mul_add_div (by omega), Nat.div_eq_of_lt hb, Nat.add_zero], by rw [Nat.mul_add_mod, Nat.mod_eq_of_lt hb]⟩
theorem ws_inj {m a b r s : Nat} (hr : r < m) (hs : s < m) (h : m * a + r = m * b + s) : a = b ∧ r = s := by
  have h1 := ws_dm (a := a) hr
  have h2 := ws_dm (a := b) hs
  rw [h] at h1
  exact ⟨h1.1.symm.trans h2.1, h1.2.symm.trans h2.2⟩
theorem ws_lt2 {d a b : Nat} (ha : a < d) (hb : b < d) : d * a + b < d * d := by
  have h : d * (a + 1) ≤ d * d := Nat.mul_le_mul_left d ha
  rw [Nat.mul_add, Nat.mul_one] at h
  omega
theorem ws_split {n j : Nat} (h : j < n * n) : j / n < n ∧ j % n < n ∧ j = n * (j / n) + j % n := by
  have h0 : 0 < n := by
    cases n with
    | zero => omega
    | succ n => omega
  exact ⟨Nat.div_lt_of_lt_mul h, Nat.mod_lt _ h0, (Nat.div_add_mod j n).symm⟩
theorem ws_le36 {n : Nat} (hn : n ≤ 6) : n * n ≤ 36 := Nat.mul_le_mul hn hn
theorem ws_le9 {d : Nat} (hd : d ≤ 3) : d * d ≤ 9 := Nat.mul_le_mul hd hd
theorem ws_pow {n d : Nat} (hn : n ≤ 6) (hd : d ≤ 3) : d ^ n ≤ 729 := Nat.le_trans (Nat.pow_le_pow_left hd n) (Nat.pow_le_pow_right (n := 3) (by decide) hn)
/-! the digits of a number: ws_R k is what is left when variable k - 1 is the last digit -/
def ws_R (n d x k : Nat) : Nat := x / d ^ (n - k)
def ws_val (n d x v : Nat) : Nat := ws_R n d x (v + 1) % d
theorem ws_R_top (n d x : Nat) : ws_R n d x n = x := by
  unfold ws_R
  rw [Nat.sub_self, Nat.pow_zero, Nat.div_one]
theorem ws_R_dn {n d x k : Nat} (h : k < n) : ws_R n d x (k + 1) / d = ws_R n d x k := by
  unfold ws_R
  rw [Nat.div_div_eq_div_mul, ← Nat.pow_succ, show (n - (k + 1)).succ = n - k from by omega]
theorem ws_R_le (n d x k : Nat) : ws_R n d x k ≤ x := Nat.div_le_self _ _
theorem ws_val_lt {n d x v : Nat} (hd : 2 ≤ d) : ws_val n d x v < d := Nat.mod_lt _ (by omega)
/-! the cost of a number -/
def ws_f (n d : Nat) (B : Nat → Nat → Nat → Nat → Nat) (x u v : Nat) : Nat := B u v (ws_val n d x u) (ws_val n d x v)
def ws_g (n d : Nat) (U : Nat → Nat → Nat) (x v : Nat) : Nat := U v (ws_val n d x v)
def ws_al (n d : Nat) (A : Nat → Nat) (x v : Nat) : Nat := A v / 2 ^ (ws_val n d x v) % 2
def ws_ub (n d : Nat) (U : Nat → Nat → Nat) (A : Nat → Nat) (x v : Nat) : Bool := decide (ws_al n d A x v = 0) || decide (ws_g n d U x v = 99)
def ws_fb (n d : Nat) (B : Nat → Nat → Nat → Nat → Nat) (x v : Nat) : Bool := ws_an (fun u => decide (ws_f n d B x u v = 99)) v
def ws_bad (n d : Nat) (U : Nat → Nat → Nat) (B : Nat → Nat → Nat → Nat → Nat) (A : Nat → Nat) (x : Nat) : Bool := ws_an (fun v => ws_ub n d U A x v || ws_fb n d B x v) n
def ws_tot (n d : Nat) (U : Nat → Nat → Nat) (B : Nat → Nat → Nat → Nat → Nat) (x : Nat) : Nat := ws_sm (fun v => ws_g n d U x v + ws_sm (fun u => ws_f n d B x u v) v) n
def ws_co (n d : Nat) (U : Nat → Nat → Nat) (B : Nat → Nat → Nat → Nat → Nat) (A : Nat → Nat) (x : Nat) : Option Nat := if ws_bad n d U B A x = true then none else some (ws_tot n d U B x)
def ws_en (e : Int32) : Option Nat → Int32
  | none => e
  | some c => nI c
def ws_fbY (n d : Nat) (B : Nat → Nat → Nat → Nat → Nat) (x u : Nat) (k : Nat) : Bool := ws_an (fun v => decide (u < v) && decide (ws_f n d B x u v = 99)) k
def ws_rsY (n d : Nat) (B : Nat → Nat → Nat → Nat → Nat) (x u : Nat) (k : Nat) : Nat := ws_sm (fun v => if u < v then ws_f n d B x u v else 0) k
def ws_badY (n d : Nat) (U : Nat → Nat → Nat) (B : Nat → Nat → Nat → Nat → Nat) (A : Nat → Nat) (x k : Nat) : Bool := ws_an (fun u => ws_ub n d U A x u || ws_fbY n d B x u n) k
def ws_totY (n d : Nat) (U : Nat → Nat → Nat) (B : Nat → Nat → Nat → Nat → Nat) (x k : Nat) : Nat := ws_sm (fun u => ws_g n d U x u + ws_rsY n d B x u n) k
theorem ws_badY_eq (n d : Nat) (U : Nat → Nat → Nat) (B : Nat → Nat → Nat → Nat → Nat) (A : Nat → Nat) (x : Nat) : ws_badY n d U B A x n = ws_bad n d U B A x := by
  refine ws_an_ext ⟨?_, ?_⟩
  · rintro ⟨i, hi, h⟩
    rcases (Bool.or_eq_true _ _).mp h with h | h
    · exact ⟨i, hi, by rw [h]; rfl⟩
    · obtain ⟨j, hj, h2⟩ := (ws_an_iff _ _).mp h
      rw [Bool.and_eq_true] at h2
      have hij : i < j := of_decide_eq_true h2.1
      have h3 : ws_fb n d B x j = true := ws_an_mem (i := i) hij h2.2
      exact ⟨j, hj, by rw [h3, Bool.or_true]⟩
  · rintro ⟨i, hi, h⟩
    rcases (Bool.or_eq_true _ _).mp h with h | h
    · exact ⟨i, hi, by rw [h]; rfl⟩
    · obtain ⟨j, hj, h2⟩ := (ws_an_iff _ _).mp h
      have h3 : ws_fbY n d B x j n = true := ws_an_mem (i := i) hi (by rw [Bool.and_eq_true]; exact ⟨decide_eq_true hj, h2⟩)
      exact ⟨j, by omega, by rw [h3, Bool.or_true]⟩
theorem ws_totY_eq (n d : Nat) (U : Nat → Nat → Nat) (B : Nat → Nat → Nat → Nat → Nat) (x : Nat) : ws_totY n d U B x n = ws_tot n d U B x := by
  unfold ws_totY ws_tot ws_rsY
  rw [ws_sm_add, ws_sm_add, ws_fub]
theorem ws_tot_le {n d : Nat} {U : Nat → Nat → Nat} {B : Nat → Nat → Nat → Nat → Nat} (x : Nat) (hn : n ≤ 6) (hU : ∀ v a, U v a ≤ 99) (hB : ∀ u v a b, B u v a b ≤ 99) : ws_tot n d U B x ≤ 4158 := by
  have h : ws_tot n d U B x ≤ n * 693 := by
    refine ws_sm_le (fun v hv => ?_)
    have h1 : ws_g n d U x v ≤ 99 := hU _ _
    have h2 : ws_sm (fun u => ws_f n d B x u v) v ≤ v * 99 := ws_sm_le (fun u _ => hB _ _ _ _)
    omega
  omega
theorem ws_co_le {n d : Nat} {U : Nat → Nat → Nat} {B : Nat → Nat → Nat → Nat → Nat} {A : Nat → Nat} {x c : Nat} (hn : n ≤ 6) (hU : ∀ v a, U v a ≤ 99) (hB : ∀ u v a b, B u v a b ≤ 99) (h : ws_co n d U B A x = some c) : c ≤ 4158 := by
  unfold ws_co at h
  by_cases e : ws_bad n d U B A x = true
  · rw [if_pos e] at h
    cases h
  · rw [if_neg e] at h
    cases h
    exact ws_tot_le x hn hU hB
theorem ws_ne1 {c : Nat} (h : c < 2 ^ 31) : ¬ nI c = -1 := by
  intro e
  have h1 := congrArg Int32.toInt e
  rw [nI_toInt h, show (-1 : Int32).toInt = -1 from by decide] at h1
  omega
/-! the least of what p gives -/
def ws_st (m p : Option Nat) : Option Nat :=
  match p with
  | none => m
  | some c => match m with
    | none => some c
    | some a => if c < a then some c else some a
def ws_mn (p : Nat → Option Nat) : Nat → Option Nat
  | 0 => none
  | k + 1 => ws_st (ws_mn p k) (p k)
theorem ws_mn_spec (p : Nat → Option Nat) (k : Nat) : (ws_mn p k = none → ∀ i, i < k → p i = none) ∧ (∀ m, ws_mn p k = some m → (∃ i, i < k ∧ p i = some m) ∧ ∀ i c, i < k → p i = some c → m ≤ c) := by
  induction k with
  | zero => exact ⟨fun _ i hi => absurd hi (Nat.not_lt_zero i), fun m h => by simp [ws_mn] at h⟩
  | succ k ih =>
    obtain ⟨ih1, ih2⟩ := ih
    have e : ws_mn p (k + 1) = ws_st (ws_mn p k) (p k) := rfl
    rw [e]
    cases hp : p k with
    | none =>
      have e1 : ws_st (ws_mn p k) none = ws_mn p k := rfl
      rw [e1]
      refine ⟨fun hm i hi => ?_, fun m hm => ?_⟩
      · by_cases hik : i = k
        · rw [hik, hp]
        · exact ih1 hm i (by omega)
      · obtain ⟨⟨i, hi, hpi⟩, hl⟩ := ih2 m hm
        refine ⟨⟨i, by omega, hpi⟩, fun j c hj hc => ?_⟩
        by_cases hjk : j = k
        · rw [hjk, hp] at hc
          cases hc
        · exact hl j c (by omega) hc
    | some c0 =>
      cases hm : ws_mn p k with
      | none =>
        have e1 : ws_st none (some c0) = some c0 := rfl
        rw [e1]
        refine ⟨fun h => (by cases h), fun m h => ?_⟩
        cases h
        refine ⟨⟨k, by omega, hp⟩, fun j c hj hc => ?_⟩
        by_cases hjk : j = k
        · rw [hjk, hp] at hc
          cases hc
          exact Nat.le_refl _
        · rw [ih1 hm j (by omega)] at hc
          cases hc
      | some m0 =>
        obtain ⟨⟨i, hi, hpi⟩, hl⟩ := ih2 m0 hm
        have e1 : ws_st (some m0) (some c0) = if c0 < m0 then some c0 else some m0 := rfl
        rw [e1]
        by_cases hc0 : c0 < m0
        · rw [if_pos hc0]
          refine ⟨fun h => (by cases h), fun m h => ?_⟩
          cases h
          refine ⟨⟨k, by omega, hp⟩, fun j c hj hc => ?_⟩
          by_cases hjk : j = k
          · rw [hjk, hp] at hc
            cases hc
            exact Nat.le_refl _
          · have := hl j c (by omega) hc
            omega
        · rw [if_neg hc0]
          refine ⟨fun h => (by cases h), fun m h => ?_⟩
          cases h
          refine ⟨⟨i, by omega, hpi⟩, fun j c hj hc => ?_⟩
          by_cases hjk : j = k
          · rw [hjk, hp] at hc
            cases hc
            omega
          · exact hl j c (by omega) hc
theorem ws_mn_congr {p q : Nat → Option Nat} {k : Nat} (h : ∀ i, i < k → p i = q i) : ws_mn p k = ws_mn q k := by
  induction k with
  | zero => rfl
  | succ k ih =>
    show ws_st (ws_mn p k) (p k) = ws_st (ws_mn q k) (q k)
    rw [ih (fun i hi => h i (by omega)), h k (by omega)]
/-- keep what passes -/
def ws_fl (q : Bool) (c : Option Nat) : Option Nat := if q = true then c else none
/-! masks of values -/
def ws_mk (q : Nat → Bool) (w : Nat → Nat) : Nat → Nat
  | 0 => 0
  | k + 1 => if q k = true then ws_mk q w k ||| 2 ^ w k else ws_mk q w k
theorem ws_mk_bit (q : Nat → Bool) (w : Nat → Nat) (k a : Nat) : (ws_mk q w k).testBit a = true ↔ ∃ i, i < k ∧ q i = true ∧ w i = a := by
  induction k with
  | zero => simp [ws_mk]
  | succ k ih =>
    have e : ws_mk q w (k + 1) = if q k = true then ws_mk q w k ||| 2 ^ w k else ws_mk q w k := rfl
    rw [e]
    by_cases hq : q k = true
    · rw [if_pos hq, Nat.testBit_or, Bool.or_eq_true, ih, Nat.testBit_two_pow]
      constructor
      · rintro (⟨i, hi, h⟩ | h)
        · exact ⟨i, by omega, h⟩
        · exact ⟨k, by omega, hq, of_decide_eq_true h⟩
      · rintro ⟨i, hi, h1, h2⟩
        by_cases hik : i = k
        · subst hik
          exact Or.inr (decide_eq_true h2)
        · exact Or.inl ⟨i, by omega, h1, h2⟩
    · rw [if_neg hq, ih]
      constructor
      · rintro ⟨i, hi, h⟩
        exact ⟨i, by omega, h⟩
      · rintro ⟨i, hi, h1, h2⟩
        by_cases hik : i = k
        · subst hik
          exact absurd h1 hq
        · exact ⟨i, by omega, h1, h2⟩
theorem ws_or8 : ∀ s, s < 8 → ∀ a, a < 3 → s ||| 2 ^ a < 8 ∧ nI s ||| ((1 : Int32) <<< (nI a &&& 31)) = nI (s ||| 2 ^ a) := by decide +kernel
theorem ws_mk_lt {q : Nat → Bool} {w : Nat → Nat} (hw : ∀ i, w i < 3) (k : Nat) : ws_mk q w k < 8 := by
  induction k with
  | zero => exact (by decide : (0 : Nat) < 8)
  | succ k ih =>
    have e : ws_mk q w (k + 1) = if q k = true then ws_mk q w k ||| 2 ^ w k else ws_mk q w k := rfl
    rw [e]
    by_cases hq : q k = true
    · rw [if_pos hq]
      exact (ws_or8 _ ih _ (hw k)).1
    · rw [if_neg hq]
      exact ih
def ws_b1 (b : Bool) : Nat := if b = true then 1 else 0
theorem ws_pop : ∀ s, s < 8 → ((nI s &&& 1) + ((nI s >>> ((1 : Int32) &&& 31)) &&& 1)) + ((nI s >>> ((2 : Int32) &&& 31)) &&& 1) = nI (ws_b1 (s.testBit 0) + ws_b1 (s.testBit 1) + ws_b1 (s.testBit 2)) := by decide +kernel
theorem ws_bit : ∀ s, s < 8 → ∀ a, a < 3 → (nI s >>> (nI a &&& 31)) &&& 1 = nI (s / 2 ^ a % 2) := by decide +kernel
theorem ws_full : ∀ d, d < 4 → ((1 : Int32) <<< (nI d &&& 31)) - 1 = nI (2 ^ d - 1) := by decide +kernel
