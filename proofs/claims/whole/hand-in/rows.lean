section
theorem pk_us {f : Nat → Int32} {k : Nat} {x : Int32} : upd f k x k = x := if_pos rfl
theorem pk_un {f : Nat → Int32} {k j : Nat} {x : Int32} (h : j ≠ k) : upd f k x j = f j := if_neg h
theorem pk_sub {a b : Nat} (h : b ≤ a) : nI a - nI b = nI (a - b) := by
  obtain ⟨c, rfl⟩ : ∃ c, a = c + b := ⟨a - b, by omega⟩
  rw [← nI_add, Int32.add_sub_cancel, Nat.add_sub_cancel]
theorem pk_m1 (n : Nat) : nI (n + 1) + (-1) = nI n := by
  rw [← nI_1, Int32.add_assoc, show (1 : Int32) + (-1) = 0 from rfl, Int32.add_zero]
theorem pk_mul (a b : Nat) : nI a * nI b = nI (a * b) := (Int32.ofNat_mul a b).symm
theorem pk_div {a d : Nat} (ha : a < 2 ^ 31) (h0 : 0 < d) (hd : d < 2 ^ 31) : nI a / nI d = nI (a / d) := by
  apply Int32.toInt_inj.mp
  rw [lg_idiv_nonneg (by rw [nI_toInt ha]; omega) (by rw [nI_toInt hd]; omega), nI_toInt ha, nI_toInt hd, nI_toInt (Nat.lt_of_le_of_lt (Nat.div_le_self a d) ha)]
  first | rfl | exact (Int.natCast_ediv _ _).symm
theorem pk_rem {a d : Nat} (ha : a < 2 ^ 31) (h0 : 0 < d) (hd : d < 2 ^ 31) : nI a - nI a / nI d * nI d = nI (a % d) := by
  rw [pk_div ha h0 hd, pk_mul, pk_sub (Nat.div_mul_le_self a d)]
  exact congrArg nI (by have := Nat.div_add_mod' a d; omega)
theorem pk_ix (x : Int32) {n : Nat} (hn : n < 2 ^ 31) : x < 0 ∨ nI n ≤ x ∨ ∃ j : Nat, j < n ∧ x = nI j := by
  by_cases h : x < 0
  · exact Or.inl h
  · obtain ⟨j, hj, rfl⟩ := nI_of h
    by_cases h2 : j < n
    · exact Or.inr (Or.inr ⟨j, h2, rfl⟩)
    · exact Or.inr (Or.inl (nI_le (by omega) hj))
theorem pk_le {x y : Int32} {A B : Prop} (a b : Nat) (f : a ≤ b → A) (g : b < a → B) (hx : x = nI a := by rfl) (hy : y = nI b := by rfl) (ha : a < 2 ^ 31 := by omega) (hb : b < 2 ^ 31 := by omega) : (x ≤ y → A) ∧ (¬ x ≤ y → B) := by
  subst hx hy
  rw [nI_leI ha hb]
  exact ⟨f, fun z => g (by omega)⟩
theorem pk_lt {x y : Int32} {A B : Prop} (a b : Nat) (f : a < b → A) (g : b ≤ a → B) (hx : x = nI a := by rfl) (hy : y = nI b := by rfl) (ha : a < 2 ^ 31 := by omega) (hb : b < 2 ^ 31 := by omega) : (x < y → A) ∧ (¬ x < y → B) := by
  subst hx hy
  rw [nI_ltI ha hb]
  exact ⟨f, fun z => g (by omega)⟩
theorem pk_eq {x y : Int32} {A B : Prop} (a b : Nat) (f : a = b → A) (g : a ≠ b → B) (hx : x = nI a := by rfl) (hy : y = nI b := by rfl) (ha : a < 2 ^ 31 := by omega) (hb : b < 2 ^ 31 := by omega) : (x = y → A) ∧ (¬ x = y → B) := by
  subst hx hy
  rw [nI_eq ha hb]
  exact ⟨f, g⟩
theorem pk_in {x : Int32} (n N : Nat) (h : n < N) (hx : x = nI n := by rfl) (hN : N < 2 ^ 31 := by omega) : vp_in x N := by
  subst hx
  exact vp_in_nI h hN
theorem pk_cl {x : Int32} (n : Nat) (hx : x = nI n := by rfl) (h : n < 2 ^ 31 := by omega) : x.toNatClampNeg = n := by
  subst hx
  exact nI_clamp h
theorem pk_loop {σ : Type} (W : Nat → Nat → σ → Prop) (I : Nat → σ → Prop) (e i0 : Nat) (s : σ) (hi : i0 ≤ e) (h0 : I i0 s) (hx : ∀ n s, I e s → W (n + 1) e s)
    (hs : ∀ n i s, i < e → I i s → (∀ s', I (i + 1) s' → W n (i + 1) s') → W (n + 1) i s) : ∃ n, W n i0 s :=
  ⟨e + 1, loop_i W I e hx hs (e + 1) i0 s hi (by omega) h0⟩
theorem pk_least (P : Nat → Prop) (h : ∃ k, P k) : ∃ k, P k ∧ ∀ j, j < k → ¬ P j := by
  obtain ⟨k, hk⟩ := h
  induction k using Nat.strongRecOn with
  | ind k ih =>
    by_cases e : ∃ j, j < k ∧ P j
    · obtain ⟨j, hj, pj⟩ := e
      exact ih j hj pj
    · exact ⟨k, hk, fun j hj pj => e ⟨j, hj, pj⟩⟩
end
section
/-! pure rows: sums, 'some', digits, the cost of a number, least, masks -/
def ws_sm (f : Nat → Nat) : Nat → Nat
  | 0 => 0
  | k + 1 => ws_sm f k + f k
def ws_an (b : Nat → Bool) : Nat → Bool
  | 0 => false
  | k + 1 => ws_an b k || b k
theorem ws_an_iff (b : Nat → Bool) (k : Nat) : ws_an b k = true ↔ ∃ i, i < k ∧ b i = true := by
  induction k with
  | zero => simp [ws_an]
  | succ k ih =>
    show (ws_an b k || b k) = true ↔ _
    rw [Bool.or_eq_true, ih]
    constructor
    · rintro (⟨i, hi, h⟩ | h)
      · exact ⟨i, by omega, h⟩
      · exact ⟨k, by omega, h⟩
    · rintro ⟨i, hi, h⟩
      by_cases e : i = k
      · subst e
        exact Or.inr h
      · exact Or.inl ⟨i, by omega, h⟩
theorem ws_an_mem {b : Nat → Bool} {k i : Nat} (hi : i < k) (h : b i = true) : ws_an b k = true := (ws_an_iff b k).mpr ⟨i, hi, h⟩
theorem ws_an_none {b : Nat → Bool} {k : Nat} (h : ∀ i, i < k → b i = false) : ws_an b k = false := by
  cases e : ws_an b k with
  | false => rfl
  | true =>
    obtain ⟨i, hi, hb⟩ := (ws_an_iff b k).mp e
    rw [h i hi] at hb
    cases hb
theorem ws_an_s {b : Nat → Bool} {k : Nat} (h : ws_an b k = false) (hk : b k = false) : ws_an b (k + 1) = false := by
  show (ws_an b k || b k) = false
  rw [h, hk]
  rfl
theorem ws_an_ext {b c : Nat → Bool} {k l : Nat} (h : (∃ i, i < k ∧ b i = true) ↔ ∃ i, i < l ∧ c i = true) : ws_an b k = ws_an c l := by
  apply Bool.eq_iff_iff.mpr
  rw [ws_an_iff, ws_an_iff]
  exact h
theorem ws_sm_congr {f g : Nat → Nat} {k : Nat} (h : ∀ i, i < k → f i = g i) : ws_sm f k = ws_sm g k := by
  induction k with
  | zero => rfl
  | succ k ih =>
    show ws_sm f k + f k = ws_sm g k + g k
    rw [ih (fun i hi => h i (by omega)), h k (by omega)]
theorem ws_sm_zero {f : Nat → Nat} {k : Nat} (h : ∀ i, i < k → f i = 0) : ws_sm f k = 0 := by
  induction k with
  | zero => rfl
  | succ k ih =>
    show ws_sm f k + f k = 0
    rw [ih (fun i hi => h i (by omega)), h k (by omega)]
theorem ws_sm_add (f g : Nat → Nat) (k : Nat) : ws_sm (fun i => f i + g i) k = ws_sm f k + ws_sm g k := by
  induction k with
  | zero => rfl
  | succ k ih =>
    show ws_sm (fun i => f i + g i) k + (f k + g k) = (ws_sm f k + f k) + (ws_sm g k + g k)
    rw [ih]
    omega
theorem ws_sm_le {f : Nat → Nat} {c k : Nat} (h : ∀ i, i < k → f i ≤ c) : ws_sm f k ≤ k * c := by
  induction k with
  | zero => exact Nat.zero_le _
  | succ k ih =>
    show ws_sm f k + f k ≤ (k + 1) * c
    have h1 := ih (fun i hi => h i (by omega))
    have h2 := h k (by omega)
    rw [Nat.add_mul, Nat.one_mul]
    omega
theorem ws_fub (f : Nat → Nat → Nat) (n : Nat) : ws_sm (fun v => ws_sm (fun u => f u v) v) n = ws_sm (fun u => ws_sm (fun v => if u < v then f u v else 0) n) n := by
  induction n with
  | zero => rfl
  | succ n ih =>
    have h1 : ws_sm (fun v => if n < v then f n v else 0) (n + 1) = 0 := ws_sm_zero (fun i hi => if_neg (by omega))
    have h2 : ws_sm (fun u => ws_sm (fun v => if u < v then f u v else 0) (n + 1)) n = ws_sm (fun u => ws_sm (fun v => if u < v then f u v else 0) n + f u n) n := by
      refine ws_sm_congr (fun i hi => ?_)
      show ws_sm (fun v => if i < v then f i v else 0) n + (if i < n then f i n else 0) = _
      rw [if_pos hi]
    have h3 : ws_sm (fun u => ws_sm (fun v => if u < v then f u v else 0) n + f u n) n = ws_sm (fun u => ws_sm (fun v => if u < v then f u v else 0) n) n + ws_sm (fun u => f u n) n := ws_sm_add _ _ n
    show ws_sm (fun v => ws_sm (fun u => f u v) v) n + ws_sm (fun u => f u n) n = ws_sm (fun u => ws_sm (fun v => if u < v then f u v else 0) (n + 1)) n + ws_sm (fun v => if n < v then f n v else 0) (n + 1)
    rw [h1, h2, h3, ih, Nat.add_zero]
/-! two digits in one number -/
theorem ws_dm {d a b : Nat} (hb : b < d) : (d * a + b) / d = a ∧ (d * a + b) % d = b :=
  ⟨by rw [Nat.mul_add_div (by omega), Nat.div_eq_of_lt hb, Nat.add_zero], by rw [Nat.mul_add_mod, Nat.mod_eq_of_lt hb]⟩
theorem ws_inj {m a b r s : Nat} (hr : r < m) (hs : s < m) (h : m * a + r = m * b + s) : a = b ∧ r = s := by
  have h1 := ws_dm (a := a) hr
  have h2 := ws_dm (a := b) hs
  rw [h] at h1
  exact ⟨h1.1.symm.trans h2.1, h1.2.symm.trans h2.2⟩
theorem ws_lt2 {d a b : Nat} (ha : a < d) (hb : b < d) : d * a + b < d * d := by
  have h : d * (a + 1) ≤ d * d := Nat.mul_le_mul_left d ha
  rw [Nat.mul_add, Nat.mul_one] at h
  omega
theorem ws_split {n j : Nat} (h : j < n * n) : j / n < n ∧ j % n < n ∧ j = n * (j / n) + j % n := by
  have h0 : 0 < n := by
    cases n with
    | zero => omega
    | succ n => omega
  exact ⟨Nat.div_lt_of_lt_mul h, Nat.mod_lt _ h0, (Nat.div_add_mod j n).symm⟩
theorem ws_le36 {n : Nat} (hn : n ≤ 6) : n * n ≤ 36 := Nat.mul_le_mul hn hn
theorem ws_le9 {d : Nat} (hd : d ≤ 3) : d * d ≤ 9 := Nat.mul_le_mul hd hd
theorem ws_pow {n d : Nat} (hn : n ≤ 6) (hd : d ≤ 3) : d ^ n ≤ 729 := Nat.le_trans (Nat.pow_le_pow_left hd n) (Nat.pow_le_pow_right (n := 3) (by decide) hn)
/-! the digits of a number: ws_R k is what is left when variable k - 1 is the last digit -/
def ws_R (n d x k : Nat) : Nat := x / d ^ (n - k)
def ws_val (n d x v : Nat) : Nat := ws_R n d x (v + 1) % d
theorem ws_R_top (n d x : Nat) : ws_R n d x n = x := by
  unfold ws_R
  rw [Nat.sub_self, Nat.pow_zero, Nat.div_one]
theorem ws_R_dn {n d x k : Nat} (h : k < n) : ws_R n d x (k + 1) / d = ws_R n d x k := by
  unfold ws_R
  rw [Nat.div_div_eq_div_mul, ← Nat.pow_succ, show (n - (k + 1)).succ = n - k from by omega]
theorem ws_R_le (n d x k : Nat) : ws_R n d x k ≤ x := Nat.div_le_self _ _
theorem ws_val_lt {n d x v : Nat} (hd : 2 ≤ d) : ws_val n d x v < d := Nat.mod_lt _ (by omega)
/-! the cost of a number -/
def ws_f (n d : Nat) (B : Nat → Nat → Nat → Nat → Nat) (x u v : Nat) : Nat := B u v (ws_val n d x u) (ws_val n d x v)
def ws_g (n d : Nat) (U : Nat → Nat → Nat) (x v : Nat) : Nat := U v (ws_val n d x v)
def ws_al (n d : Nat) (A : Nat → Nat) (x v : Nat) : Nat := A v / 2 ^ (ws_val n d x v) % 2
def ws_ub (n d : Nat) (U : Nat → Nat → Nat) (A : Nat → Nat) (x v : Nat) : Bool := decide (ws_al n d A x v = 0) || decide (ws_g n d U x v = 99)
def ws_fb (n d : Nat) (B : Nat → Nat → Nat → Nat → Nat) (x v : Nat) : Bool := ws_an (fun u => decide (ws_f n d B x u v = 99)) v
def ws_bad (n d : Nat) (U : Nat → Nat → Nat) (B : Nat → Nat → Nat → Nat → Nat) (A : Nat → Nat) (x : Nat) : Bool := ws_an (fun v => ws_ub n d U A x v || ws_fb n d B x v) n
def ws_tot (n d : Nat) (U : Nat → Nat → Nat) (B : Nat → Nat → Nat → Nat → Nat) (x : Nat) : Nat := ws_sm (fun v => ws_g n d U x v + ws_sm (fun u => ws_f n d B x u v) v) n
def ws_co (n d : Nat) (U : Nat → Nat → Nat) (B : Nat → Nat → Nat → Nat → Nat) (A : Nat → Nat) (x : Nat) : Option Nat := if ws_bad n d U B A x = true then none else some (ws_tot n d U B x)
def ws_en (e : Int32) : Option Nat → Int32
  | none => e
  | some c => nI c
def ws_fbY (n d : Nat) (B : Nat → Nat → Nat → Nat → Nat) (x u : Nat) (k : Nat) : Bool := ws_an (fun v => decide (u < v) && decide (ws_f n d B x u v = 99)) k
def ws_rsY (n d : Nat) (B : Nat → Nat → Nat → Nat → Nat) (x u : Nat) (k : Nat) : Nat := ws_sm (fun v => if u < v then ws_f n d B x u v else 0) k
def ws_badY (n d : Nat) (U : Nat → Nat → Nat) (B : Nat → Nat → Nat → Nat → Nat) (A : Nat → Nat) (x k : Nat) : Bool := ws_an (fun u => ws_ub n d U A x u || ws_fbY n d B x u n) k
def ws_totY (n d : Nat) (U : Nat → Nat → Nat) (B : Nat → Nat → Nat → Nat → Nat) (x k : Nat) : Nat := ws_sm (fun u => ws_g n d U x u + ws_rsY n d B x u n) k
theorem ws_badY_eq (n d : Nat) (U : Nat → Nat → Nat) (B : Nat → Nat → Nat → Nat → Nat) (A : Nat → Nat) (x : Nat) : ws_badY n d U B A x n = ws_bad n d U B A x := by
  refine ws_an_ext ⟨?_, ?_⟩
  · rintro ⟨i, hi, h⟩
    rcases (Bool.or_eq_true _ _).mp h with h | h
    · exact ⟨i, hi, by rw [h]; rfl⟩
    · obtain ⟨j, hj, h2⟩ := (ws_an_iff _ _).mp h
      rw [Bool.and_eq_true] at h2
      have hij : i < j := of_decide_eq_true h2.1
      have h3 : ws_fb n d B x j = true := ws_an_mem (i := i) hij h2.2
      exact ⟨j, hj, by rw [h3, Bool.or_true]⟩
  · rintro ⟨i, hi, h⟩
    rcases (Bool.or_eq_true _ _).mp h with h | h
    · exact ⟨i, hi, by rw [h]; rfl⟩
    · obtain ⟨j, hj, h2⟩ := (ws_an_iff _ _).mp h
      have h3 : ws_fbY n d B x j n = true := ws_an_mem (i := i) hi (by rw [Bool.and_eq_true]; exact ⟨decide_eq_true hj, h2⟩)
      exact ⟨j, by omega, by rw [h3, Bool.or_true]⟩
theorem ws_totY_eq (n d : Nat) (U : Nat → Nat → Nat) (B : Nat → Nat → Nat → Nat → Nat) (x : Nat) : ws_totY n d U B x n = ws_tot n d U B x := by
  unfold ws_totY ws_tot ws_rsY
  rw [ws_sm_add, ws_sm_add, ws_fub]
theorem ws_tot_le {n d : Nat} {U : Nat → Nat → Nat} {B : Nat → Nat → Nat → Nat → Nat} (x : Nat) (hn : n ≤ 6) (hU : ∀ v a, U v a ≤ 99) (hB : ∀ u v a b, B u v a b ≤ 99) : ws_tot n d U B x ≤ 4158 := by
  have h : ws_tot n d U B x ≤ n * 693 := by
    refine ws_sm_le (fun v hv => ?_)
    have h1 : ws_g n d U x v ≤ 99 := hU _ _
    have h2 : ws_sm (fun u => ws_f n d B x u v) v ≤ v * 99 := ws_sm_le (fun u _ => hB _ _ _ _)
    omega
  omega
theorem ws_co_le {n d : Nat} {U : Nat → Nat → Nat} {B : Nat → Nat → Nat → Nat → Nat} {A : Nat → Nat} {x c : Nat} (hn : n ≤ 6) (hU : ∀ v a, U v a ≤ 99) (hB : ∀ u v a b, B u v a b ≤ 99) (h : ws_co n d U B A x = some c) : c ≤ 4158 := by
  unfold ws_co at h
  by_cases e : ws_bad n d U B A x = true
  · rw [if_pos e] at h
    cases h
  · rw [if_neg e] at h
    cases h
    exact ws_tot_le x hn hU hB
theorem ws_ne1 {c : Nat} (h : c < 2 ^ 31) : ¬ nI c = -1 := by
  intro e
  have h1 := congrArg Int32.toInt e
  rw [nI_toInt h, show (-1 : Int32).toInt = -1 from by decide] at h1
  omega
/-! the least of what p gives -/
def ws_st (m p : Option Nat) : Option Nat :=
  match p with
  | none => m
  | some c => match m with
    | none => some c
    | some a => if c < a then some c else some a
def ws_mn (p : Nat → Option Nat) : Nat → Option Nat
  | 0 => none
  | k + 1 => ws_st (ws_mn p k) (p k)
theorem ws_mn_spec (p : Nat → Option Nat) (k : Nat) : (ws_mn p k = none → ∀ i, i < k → p i = none) ∧ (∀ m, ws_mn p k = some m → (∃ i, i < k ∧ p i = some m) ∧ ∀ i c, i < k → p i = some c → m ≤ c) := by
  induction k with
  | zero => exact ⟨fun _ i hi => absurd hi (Nat.not_lt_zero i), fun m h => by simp [ws_mn] at h⟩
  | succ k ih =>
    obtain ⟨ih1, ih2⟩ := ih
    have e : ws_mn p (k + 1) = ws_st (ws_mn p k) (p k) := rfl
    rw [e]
    cases hp : p k with
    | none =>
      have e1 : ws_st (ws_mn p k) none = ws_mn p k := rfl
      rw [e1]
      refine ⟨fun hm i hi => ?_, fun m hm => ?_⟩
      · by_cases hik : i = k
        · rw [hik, hp]
        · exact ih1 hm i (by omega)
      · obtain ⟨⟨i, hi, hpi⟩, hl⟩ := ih2 m hm
        refine ⟨⟨i, by omega, hpi⟩, fun j c hj hc => ?_⟩
        by_cases hjk : j = k
        · rw [hjk, hp] at hc
          cases hc
        · exact hl j c (by omega) hc
    | some c0 =>
      cases hm : ws_mn p k with
      | none =>
        have e1 : ws_st none (some c0) = some c0 := rfl
        rw [e1]
        refine ⟨fun h => (by cases h), fun m h => ?_⟩
        cases h
        refine ⟨⟨k, by omega, hp⟩, fun j c hj hc => ?_⟩
        by_cases hjk : j = k
        · rw [hjk, hp] at hc
          cases hc
          exact Nat.le_refl _
        · rw [ih1 hm j (by omega)] at hc
          cases hc
      | some m0 =>
        obtain ⟨⟨i, hi, hpi⟩, hl⟩ := ih2 m0 hm
        have e1 : ws_st (some m0) (some c0) = if c0 < m0 then some c0 else some m0 := rfl
        rw [e1]
        by_cases hc0 : c0 < m0
        · rw [if_pos hc0]
          refine ⟨fun h => (by cases h), fun m h => ?_⟩
          cases h
          refine ⟨⟨k, by omega, hp⟩, fun j c hj hc => ?_⟩
          by_cases hjk : j = k
          · rw [hjk, hp] at hc
            cases hc
            exact Nat.le_refl _
          · have := hl j c (by omega) hc
            omega
        · rw [if_neg hc0]
          refine ⟨fun h => (by cases h), fun m h => ?_⟩
          cases h
          refine ⟨⟨i, by omega, hpi⟩, fun j c hj hc => ?_⟩
          by_cases hjk : j = k
          · rw [hjk, hp] at hc
            cases hc
            omega
          · exact hl j c (by omega) hc
theorem ws_mn_congr {p q : Nat → Option Nat} {k : Nat} (h : ∀ i, i < k → p i = q i) : ws_mn p k = ws_mn q k := by
  induction k with
  | zero => rfl
  | succ k ih =>
    show ws_st (ws_mn p k) (p k) = ws_st (ws_mn q k) (q k)
    rw [ih (fun i hi => h i (by omega)), h k (by omega)]
/-- keep what passes -/
def ws_fl (q : Bool) (c : Option Nat) : Option Nat := if q = true then c else none
/-! masks of values -/
def ws_mk (q : Nat → Bool) (w : Nat → Nat) : Nat → Nat
  | 0 => 0
  | k + 1 => if q k = true then ws_mk q w k ||| 2 ^ w k else ws_mk q w k
theorem ws_mk_bit (q : Nat → Bool) (w : Nat → Nat) (k a : Nat) : (ws_mk q w k).testBit a = true ↔ ∃ i, i < k ∧ q i = true ∧ w i = a := by
  induction k with
  | zero => simp [ws_mk]
  | succ k ih =>
    have e : ws_mk q w (k + 1) = if q k = true then ws_mk q w k ||| 2 ^ w k else ws_mk q w k := rfl
    rw [e]
    by_cases hq : q k = true
    · rw [if_pos hq, Nat.testBit_or, Bool.or_eq_true, ih, Nat.testBit_two_pow]
      constructor
      · rintro (⟨i, hi, h⟩ | h)
        · exact ⟨i, by omega, h⟩
        · exact ⟨k, by omega, hq, of_decide_eq_true h⟩
      · rintro ⟨i, hi, h1, h2⟩
        by_cases hik : i = k
        · subst hik
          exact Or.inr (decide_eq_true h2)
        · exact Or.inl ⟨i, by omega, h1, h2⟩
    · rw [if_neg hq, ih]
      constructor
      · rintro ⟨i, hi, h⟩
        exact ⟨i, by omega, h⟩
      · rintro ⟨i, hi, h1, h2⟩
        by_cases hik : i = k
        · subst hik
          exact absurd h1 hq
        · exact ⟨i, by omega, h1, h2⟩
theorem ws_or8 : ∀ s, s < 8 → ∀ a, a < 3 → s ||| 2 ^ a < 8 ∧ nI s ||| ((1 : Int32) <<< (nI a &&& 31)) = nI (s ||| 2 ^ a) := by decide +kernel
theorem ws_mk_lt {q : Nat → Bool} {w : Nat → Nat} (hw : ∀ i, w i < 3) (k : Nat) : ws_mk q w k < 8 := by
  induction k with
  | zero => exact (by decide : (0 : Nat) < 8)
  | succ k ih =>
    have e : ws_mk q w (k + 1) = if q k = true then ws_mk q w k ||| 2 ^ w k else ws_mk q w k := rfl
    rw [e]
    by_cases hq : q k = true
    · rw [if_pos hq]
      exact (ws_or8 _ ih _ (hw k)).1
    · rw [if_neg hq]
      exact ih
def ws_b1 (b : Bool) : Nat := if b = true then 1 else 0
theorem ws_pop : ∀ s, s < 8 → ((nI s &&& 1) + ((nI s >>> ((1 : Int32) &&& 31)) &&& 1)) + ((nI s >>> ((2 : Int32) &&& 31)) &&& 1) = nI (ws_b1 (s.testBit 0) + ws_b1 (s.testBit 1) + ws_b1 (s.testBit 2)) := by decide +kernel
theorem ws_bit : ∀ s, s < 8 → ∀ a, a < 3 → (nI s >>> (nI a &&& 31)) &&& 1 = nI (s / 2 ^ a % 2) := by decide +kernel
theorem ws_full : ∀ d, d < 4 → ((1 : Int32) <<< (nI d &&& 31)) - 1 = nI (2 ^ d - 1) := by decide +kernel
end
section
/-! the tables: reading and writing -/
def ws_U1 (U : Nat → Nat → Nat) (v0 a0 c v a : Nat) : Nat := if v = v0 ∧ a = a0 then c else U v a
def ws_B1 (B : Nat → Nat → Nat → Nat → Nat) (u0 v0 a0 b0 c u v a b : Nat) : Nat := if u = u0 ∧ v = v0 ∧ a = a0 ∧ b = b0 then c else B u v a b
def ws_Br (B : Nat → Nat → Nat → Nat → Nat) (u v a b : Nat) : Nat := if u < v then B u v a b else B v u b a
def ws_Bw (B : Nat → Nat → Nat → Nat → Nat) (u0 v0 a0 b0 c u v a b : Nat) : Nat := if u0 < v0 then ws_B1 B u0 v0 a0 b0 c u v a b else ws_B1 B v0 u0 b0 a0 c u v a b
def ws_A1 (A : Nat → Nat) (v0 s v : Nat) : Nat := if v = v0 then s else A v
def ws_cN (n d u v a b : Nat) : Nat := (n * u + v) * d * d + (d * a + b)
def ws_cl (n d u v a b : Nat) : Nat := if u < v then ws_cN n d u v a b else ws_cN n d v u b a
def ws_py (u v a b : Nat) : Nat := 9 * (6 * u + v) + 3 * a + b
def ws_xu (n d : Nat) (U : Nat → Nat → Nat) (xu : Nat → Int32) : Prop := ∀ v a, v < n → a < d → xu (v * d + a) = nI (U v a)
def ws_xb (n d : Nat) (B : Nat → Nat → Nat → Nat → Nat) (xb : Nat → Int32) : Prop := ∀ u v a b, u < n → v < n → u ≠ v → a < d → b < d → xb (ws_cl n d u v a b) = nI (ws_Br B u v a b)
def ws_aa (n : Nat) (A : Nat → Nat) (al : Nat → Int32) : Prop := ∀ v, v < n → al v = nI (A v)
def ws_yu (n d : Nat) (U : Nat → Nat → Nat) (yo : Nat → Int32) : Prop := ∀ v a, v < n → a < d → yo (3 * v + a) = nI (U v a)
def ws_yb (n d : Nat) (B : Nat → Nat → Nat → Nat → Nat) (yt : Nat → Int32) : Prop := ∀ u v a b, u < n → v < n → u ≠ v → a < d → b < d → yt (ws_py u v a b) = nI (ws_Br B u v a b)
theorem ws_Br_lt {B : Nat → Nat → Nat → Nat → Nat} {u v a b : Nat} (h : u < v) : ws_Br B u v a b = B u v a b := if_pos h
theorem ws_Br_w {B : Nat → Nat → Nat → Nat → Nat} {u0 v0 a0 b0 c : Nat} : ws_Br (ws_Bw B u0 v0 a0 b0 c) u0 v0 a0 b0 = c := by
  unfold ws_Br ws_Bw
  by_cases h : u0 < v0
  · rw [if_pos h, if_pos h]
    exact if_pos ⟨rfl, rfl, rfl, rfl⟩
  · rw [if_neg h, if_neg h]
    exact if_pos ⟨rfl, rfl, rfl, rfl⟩
theorem ws_Br_m {B : Nat → Nat → Nat → Nat → Nat} {u0 v0 a0 b0 c : Nat} (hne : u0 ≠ v0) : ws_Br (ws_Bw B u0 v0 a0 b0 c) v0 u0 b0 a0 = c := by
  unfold ws_Br ws_Bw
  by_cases h : u0 < v0
  · have h' : ¬ v0 < u0 := by omega
    rw [if_neg h', if_pos h]
    exact if_pos ⟨rfl, rfl, rfl, rfl⟩
  · have h' : v0 < u0 := by omega
    rw [if_pos h', if_neg h]
    exact if_pos ⟨rfl, rfl, rfl, rfl⟩
theorem ws_Br_o {B : Nat → Nat → Nat → Nat → Nat} {u0 v0 a0 b0 c u v a b : Nat} (e : ¬ ((u = u0 ∧ v = v0 ∧ a = a0 ∧ b = b0) ∨ (u = v0 ∧ v = u0 ∧ a = b0 ∧ b = a0))) : ws_Br (ws_Bw B u0 v0 a0 b0 c) u v a b = ws_Br B u v a b := by
  unfold ws_Br ws_Bw
  by_cases h1 : u < v
  · rw [if_pos h1, if_pos h1]
    by_cases h2 : u0 < v0
    · rw [if_pos h2]
      exact if_neg (fun z => e (Or.inl z))
    · rw [if_neg h2]
      exact if_neg (fun z => e (Or.inr z))
  · rw [if_neg h1, if_neg h1]
    by_cases h2 : u0 < v0
    · rw [if_pos h2]
      exact if_neg (fun z => e (Or.inr ⟨z.2.1, z.1, z.2.2.2, z.2.2.1⟩))
    · rw [if_neg h2]
      exact if_neg (fun z => e (Or.inl ⟨z.2.1, z.1, z.2.2.2, z.2.2.1⟩))
theorem ws_cN_inj {n d u v a b u0 v0 a0 b0 : Nat} (hv : v < n) (hv0 : v0 < n) (ha : a < d) (hb : b < d) (ha0 : a0 < d) (hb0 : b0 < d) (h : ws_cN n d u v a b = ws_cN n d u0 v0 a0 b0) : u = u0 ∧ v = v0 ∧ a = a0 ∧ b = b0 := by
  have e1 : (n * u + v) * d * d = (d * d) * (n * u + v) := (Nat.mul_assoc _ _ _).trans (Nat.mul_comm _ _)
  have e2 : (n * u0 + v0) * d * d = (d * d) * (n * u0 + v0) := (Nat.mul_assoc _ _ _).trans (Nat.mul_comm _ _)
  have h' : (d * d) * (n * u + v) + (d * a + b) = (d * d) * (n * u0 + v0) + (d * a0 + b0) := by
    rw [← e1, ← e2]
    exact h
  obtain ⟨h1, h2⟩ := ws_inj (ws_lt2 ha hb) (ws_lt2 ha0 hb0) h'
  obtain ⟨h3, h4⟩ := ws_inj hv hv0 h1
  obtain ⟨h5, h6⟩ := ws_inj hb hb0 h2
  exact ⟨h3, h4, h5, h6⟩
theorem ws_cl_inj {n d u v a b u0 v0 a0 b0 : Nat} (hu : u < n) (hv : v < n) (hu0 : u0 < n) (hv0 : v0 < n) (ha : a < d) (hb : b < d) (ha0 : a0 < d) (hb0 : b0 < d) (h : ws_cl n d u v a b = ws_cl n d u0 v0 a0 b0) : (u = u0 ∧ v = v0 ∧ a = a0 ∧ b = b0) ∨ (u = v0 ∧ v = u0 ∧ a = b0 ∧ b = a0) := by
  unfold ws_cl at h
  by_cases h1 : u < v
  · rw [if_pos h1] at h
    by_cases h2 : u0 < v0
    · rw [if_pos h2] at h
      exact Or.inl (ws_cN_inj hv hv0 ha hb ha0 hb0 h)
    · rw [if_neg h2] at h
      exact Or.inr (ws_cN_inj hv hu0 ha hb hb0 ha0 h)
  · rw [if_neg h1] at h
    by_cases h2 : u0 < v0
    · rw [if_pos h2] at h
      have z := ws_cN_inj hu hv0 hb ha ha0 hb0 h
      exact Or.inr ⟨z.2.1, z.1, z.2.2.2, z.2.2.1⟩
    · rw [if_neg h2] at h
      have z := ws_cN_inj hu hu0 hb ha hb0 ha0 h
      exact Or.inl ⟨z.2.1, z.1, z.2.2.2, z.2.2.1⟩
theorem ws_cl_sym {n d u v a b : Nat} (h : u ≠ v) : ws_cl n d v u b a = ws_cl n d u v a b := by
  unfold ws_cl
  by_cases h1 : u < v
  · have h2 : ¬ v < u := by omega
    rw [if_pos h1, if_neg h2]
  · have h2 : v < u := by omega
    rw [if_neg h1, if_pos h2]
theorem ws_cN_lt {n d u v a b : Nat} (hn : n ≤ 6) (hd : d ≤ 3) (hu : u < n) (hv : v < n) (ha : a < d) (hb : b < d) : ws_cN n d u v a b < 324 := by
  have h1 : n * u + v < n * n := ws_lt2 hu hv
  have h2 : d * a + b < d * d := ws_lt2 ha hb
  have h3 : n * n ≤ 36 := ws_le36 hn
  have h4 : d * d ≤ 9 := ws_le9 hd
  have e1 : (n * u + v) * d * d = (n * u + v) * (d * d) := Nat.mul_assoc _ _ _
  have h5 : (n * u + v) * (d * d) ≤ 35 * 9 := Nat.mul_le_mul (by omega) h4
  unfold ws_cN
  rw [e1]
  omega
theorem ws_cl_lt {n d u v a b : Nat} (hn : n ≤ 6) (hd : d ≤ 3) (hu : u < n) (hv : v < n) (ha : a < d) (hb : b < d) : ws_cl n d u v a b < 324 := by
  unfold ws_cl
  by_cases h : u < v
  · rw [if_pos h]
    exact ws_cN_lt hn hd hu hv ha hb
  · rw [if_neg h]
    exact ws_cN_lt hn hd hv hu hb ha
theorem ws_uc_lt {n d v a : Nat} (hn : n ≤ 6) (hd : d ≤ 3) (hv : v < n) (ha : a < d) : v * d + a < 18 := by
  have h : v * d ≤ 5 * 3 := Nat.mul_le_mul (by omega) hd
  omega
theorem ws_py_lt {u v a b : Nat} (hu : u < 6) (hv : v < 6) (ha : a < 3) (hb : b < 3) : ws_py u v a b < 324 := by
  unfold ws_py
  omega
theorem ws_py_inj {u v a b u0 v0 a0 b0 : Nat} (hv : v < 6) (hv0 : v0 < 6) (ha : a < 3) (hb : b < 3) (ha0 : a0 < 3) (hb0 : b0 < 3) (h : ws_py u v a b = ws_py u0 v0 a0 b0) : u = u0 ∧ v = v0 ∧ a = a0 ∧ b = b0 := by
  unfold ws_py at h
  have h1 : 6 * u + v = 6 * u0 + v0 := by omega
  have h2 : 3 * a + b = 3 * a0 + b0 := by omega
  exact ⟨by omega, by omega, by omega, by omega⟩
theorem ws_xu_w {n d : Nat} {U : Nat → Nat → Nat} {xu : Nat → Int32} (h : ws_xu n d U xu) {v0 a0 c : Nat} (ha0 : a0 < d) : ws_xu n d (ws_U1 U v0 a0 c) (upd xu (v0 * d + a0) (nI c)) := by
  intro v a hv ha
  unfold ws_U1
  by_cases e : v = v0 ∧ a = a0
  · rw [if_pos e, e.1, e.2, pk_us]
  · have hne : v * d + a ≠ v0 * d + a0 := by
      intro z
      rw [Nat.mul_comm v d, Nat.mul_comm v0 d] at z
      exact e (ws_inj ha ha0 z)
    rw [if_neg e, pk_un hne]
    exact h v a hv ha
theorem ws_yu_w {n d : Nat} {U : Nat → Nat → Nat} {yo : Nat → Int32} (h : ws_yu n d U yo) (hd : d ≤ 3) {v0 a0 c : Nat} (ha0 : a0 < d) : ws_yu n d (ws_U1 U v0 a0 c) (upd yo (3 * v0 + a0) (nI c)) := by
  intro v a hv ha
  unfold ws_U1
  by_cases e : v = v0 ∧ a = a0
  · rw [if_pos e, e.1, e.2, pk_us]
  · have hne : 3 * v + a ≠ 3 * v0 + a0 := by
      intro z
      exact e ⟨by omega, by omega⟩
    rw [if_neg e, pk_un hne]
    exact h v a hv ha
theorem ws_aa_w {n : Nat} {A : Nat → Nat} {al : Nat → Int32} (h : ws_aa n A al) {v0 s : Nat} : ws_aa n (ws_A1 A v0 s) (upd al v0 (nI s)) := by
  intro v hv
  unfold ws_A1
  by_cases e : v = v0
  · rw [if_pos e, e, pk_us]
  · rw [if_neg e, pk_un e]
    exact h v hv
theorem ws_xb_w {n d : Nat} {B : Nat → Nat → Nat → Nat → Nat} {xb : Nat → Int32} (h : ws_xb n d B xb) {u0 v0 a0 b0 c : Nat} (hu0 : u0 < n) (hv0 : v0 < n) (hne : u0 ≠ v0) (ha0 : a0 < d) (hb0 : b0 < d) : ws_xb n d (ws_Bw B u0 v0 a0 b0 c) (upd xb (ws_cl n d u0 v0 a0 b0) (nI c)) := by
  intro u v a b hu hv huv ha hb
  by_cases e : (u = u0 ∧ v = v0 ∧ a = a0 ∧ b = b0) ∨ (u = v0 ∧ v = u0 ∧ a = b0 ∧ b = a0)
  · rcases e with ⟨e1, e2, e3, e4⟩ | ⟨e1, e2, e3, e4⟩
    · rw [e1, e2, e3, e4, pk_us, ws_Br_w]
    · rw [e1, e2, e3, e4, ws_cl_sym hne, pk_us, ws_Br_m hne]
  · rw [pk_un (fun z => e (ws_cl_inj hu hv hu0 hv0 ha hb ha0 hb0 z)), ws_Br_o e]
    exact h u v a b hu hv huv ha hb
theorem ws_yb_w {n d : Nat} {B : Nat → Nat → Nat → Nat → Nat} {yt : Nat → Int32} (h : ws_yb n d B yt) (hn : n ≤ 6) (hd : d ≤ 3) {u0 v0 a0 b0 c : Nat} (hu0 : u0 < n) (hv0 : v0 < n) (hne : u0 ≠ v0) (ha0 : a0 < d) (hb0 : b0 < d) : ws_yb n d (ws_Bw B u0 v0 a0 b0 c) (upd (upd yt (ws_py u0 v0 a0 b0) (nI c)) (ws_py v0 u0 b0 a0) (nI c)) := by
  intro u v a b hu hv huv ha hb
  by_cases e2 : u = v0 ∧ v = u0 ∧ a = b0 ∧ b = a0
  · obtain ⟨z1, z2, z3, z4⟩ := e2
    rw [z1, z2, z3, z4, pk_us, ws_Br_m hne]
  · rw [pk_un (fun z => e2 (ws_py_inj (by omega) (by omega) (by omega) (by omega) (by omega) (by omega) z))]
    by_cases e1 : u = u0 ∧ v = v0 ∧ a = a0 ∧ b = b0
    · obtain ⟨z1, z2, z3, z4⟩ := e1
      rw [z1, z2, z3, z4, pk_us, ws_Br_w]
    · rw [pk_un (fun z => e1 (ws_py_inj (by omega) (by omega) (by omega) (by omega) (by omega) (by omega) z)), ws_Br_o (fun z => z.elim e1 e2)]
      exact h u v a b hu hv huv ha hb
theorem ws_U1_le {U : Nat → Nat → Nat} {v0 a0 c : Nat} (hU : ∀ v a, U v a ≤ 99) (hc : c ≤ 99) : ∀ v a, ws_U1 U v0 a0 c v a ≤ 99 := by
  intro v a
  unfold ws_U1
  by_cases e : v = v0 ∧ a = a0
  · rw [if_pos e]
    exact hc
  · rw [if_neg e]
    exact hU v a
theorem ws_B1_le {B : Nat → Nat → Nat → Nat → Nat} {u0 v0 a0 b0 c : Nat} (hB : ∀ u v a b, B u v a b ≤ 99) (hc : c ≤ 99) : ∀ u v a b, ws_B1 B u0 v0 a0 b0 c u v a b ≤ 99 := by
  intro u v a b
  unfold ws_B1
  by_cases e : u = u0 ∧ v = v0 ∧ a = a0 ∧ b = b0
  · rw [if_pos e]
    exact hc
  · rw [if_neg e]
    exact hB u v a b
theorem ws_Bw_le {B : Nat → Nat → Nat → Nat → Nat} {u0 v0 a0 b0 c : Nat} (hB : ∀ u v a b, B u v a b ≤ 99) (hc : c ≤ 99) : ∀ u v a b, ws_Bw B u0 v0 a0 b0 c u v a b ≤ 99 := by
  intro u v a b
  unfold ws_Bw
  by_cases e : u0 < v0
  · rw [if_pos e]
    exact ws_B1_le hB hc u v a b
  · rw [if_neg e]
    exact ws_B1_le hB hc u v a b
theorem ws_A1_lt {A : Nat → Nat} {v0 s : Nat} (hA : ∀ v, A v < 8) (hs : s < 8) : ∀ v, ws_A1 A v0 s v < 8 := by
  intro v
  unfold ws_A1
  by_cases e : v = v0
  · rw [if_pos e]
    exact hs
  · rw [if_neg e]
    exact hA v
/-! relate: the same writes in the same order on both sides -/
def ws_tt (kind a b : Nat) : Nat := if kind = 0 then (if a < b then b - a else a - b) else if kind = 1 then (if a = b then 1 else 0) else a * b
def ws_it (d u0 v0 kind w : Nat) (B : Nat → Nat → Nat → Nat → Nat) : Nat → (Nat → Nat → Nat → Nat → Nat)
  | 0 => B
  | j + 1 => ws_Bw (ws_it d u0 v0 kind w B j) u0 v0 (j / d) (j % d) (w * ws_tt kind (j / d) (j % d))
theorem ws_tt_le : ∀ k, k < 3 → ∀ a, a < 3 → ∀ b, b < 3 → ws_tt k a b ≤ 4 := by decide +kernel
theorem ws_it_le {d u0 v0 kind w : Nat} {B : Nat → Nat → Nat → Nat → Nat} (hd : d ≤ 3) (hk : kind < 3) (hw : w ≤ 10) (hB : ∀ u v a b, B u v a b ≤ 99) (j : Nat) (hj : j ≤ d * d) : ∀ u v a b, ws_it d u0 v0 kind w B j u v a b ≤ 99 := by
  induction j with
  | zero => exact hB
  | succ j ih =>
    have hs := ws_split (n := d) (j := j) (by omega)
    have ht := ws_tt_le kind hk (j / d) (by omega) (j % d) (by omega)
    have hm : w * ws_tt kind (j / d) (j % d) ≤ 10 * 4 := Nat.mul_le_mul hw ht
    exact ws_Bw_le (ih (by omega)) (by omega)
end
section
/-! pure facts on the answers -/
def ws_oq (q : Nat → Bool) : Option Nat → Bool
  | none => false
  | some c => q c
def ws_of (q : Nat → Bool) : Option Nat → Option Nat
  | none => none
  | some c => if q c = true then some c else none
def ws_hit (L c : Option Nat) : Bool := c.isSome && decide (c = L)
def ws_pw (co : Nat → Option Nat) (w1 w2 : Nat → Nat) (a b x : Nat) : Option Nat := if w1 x = a ∧ w2 x = b then co x else none
theorem ws_hit_t {L c : Option Nat} (h : ws_hit L c = true) : ∃ m, c = some m ∧ L = some m := by
  unfold ws_hit at h
  rw [Bool.and_eq_true] at h
  have e : c = L := of_decide_eq_true h.2
  cases c with
  | none => cases h.1
  | some m => exact ⟨m, rfl, e.symm⟩
theorem ws_hit_s (m : Nat) : ws_hit (some m) (some m) = true := by simp [ws_hit]
theorem ws_hit_n {m k : Nat} (h : k ≠ m) : ws_hit (some m) (some k) = false := by simp [ws_hit, h]
theorem ws_mn_le {p : Nat → Option Nat} {k m M : Nat} (h : ∀ i c, p i = some c → c ≤ M) (hm : ws_mn p k = some m) : m ≤ M := by
  obtain ⟨⟨i, _, hi⟩, _⟩ := (ws_mn_spec p k).2 m hm
  exact h i m hi
theorem ws_of_le {p : Nat → Option Nat} {M : Nat} (q : Nat → Bool) (h : ∀ i c, p i = some c → c ≤ M) : ∀ i c, ws_of q (p i) = some c → c ≤ M := by
  intro i c hc
  cases e : p i with
  | none =>
    rw [e] at hc
    cases hc
  | some k =>
    rw [e] at hc
    have hc' : (if q k = true then some k else none) = some c := hc
    by_cases z : q k = true
    · rw [if_pos z] at hc'
      cases hc'
      exact h i _ e
    · rw [if_neg z] at hc'
      cases hc'
theorem ws_pw_le {co : Nat → Option Nat} {w1 w2 : Nat → Nat} {a b M : Nat} (h : ∀ i c, co i = some c → c ≤ M) : ∀ i c, ws_pw co w1 w2 a b i = some c → c ≤ M := by
  intro i c hc
  unfold ws_pw at hc
  by_cases z : w1 i = a ∧ w2 i = b
  · rw [if_pos z] at hc
    exact h i c hc
  · rw [if_neg z] at hc
    cases hc
theorem ws_count_eq {co : Nat → Option Nat} {k : Nat} (hc : ∀ i c, co i = some c → c ≤ 4158) : ws_sm (fun x => ws_b1 (ws_oq (fun c => decide (nI c ≤ ws_en (-1) (ws_mn co k))) (co x))) k = ws_sm (fun x => ws_b1 (ws_hit (ws_mn co k) (co x))) k := by
  refine ws_sm_congr (fun i hi => congrArg ws_b1 ?_)
  show ws_oq (fun c => decide (nI c ≤ ws_en (-1) (ws_mn co k))) (co i) = ws_hit (ws_mn co k) (co i)
  cases h : co i with
  | none => rfl
  | some c =>
    cases hm : ws_mn co k with
    | none =>
      have z := (ws_mn_spec co k).1 hm i hi
      rw [h] at z
      cases z
    | some m =>
      have h1 := ((ws_mn_spec co k).2 m hm).2 i c hi h
      have h2 := hc i c h
      have h3 := ws_mn_le hc hm
      show decide (nI c ≤ nI m) = ws_hit (some m) (some c)
      by_cases e : c = m
      · rw [e, decide_eq_true (nI_le (Nat.le_refl m) (by omega)), ws_hit_s]
      · rw [decide_eq_false (nI_ge (a := m) (b := c) (by omega) (by omega)), ws_hit_n e]
theorem ws_pw_eq {co : Nat → Option Nat} {w : Nat → Nat} {k m : Nat} (hm : ws_mn co k = some m) (a : Nat) : decide (ws_mn (ws_pw co w w a a) k = some m) = (ws_mk (fun x => ws_hit (some m) (co x)) w k).testBit a := by
  apply Bool.eq_iff_iff.mpr
  rw [decide_eq_true_iff, ws_mk_bit]
  constructor
  · intro h
    obtain ⟨⟨i, hi, h1⟩, _⟩ := (ws_mn_spec _ k).2 m h
    unfold ws_pw at h1
    by_cases e : w i = a ∧ w i = a
    · rw [if_pos e] at h1
      refine ⟨i, hi, ?_, e.1⟩
      show ws_hit (some m) (co i) = true
      rw [h1, ws_hit_s]
    · rw [if_neg e] at h1
      cases h1
  · rintro ⟨i, hi, h1, h2⟩
    obtain ⟨m1, hc, e1⟩ := ws_hit_t h1
    cases e1
    have hp : ws_pw co w w a a i = some m := (if_pos ⟨h2, h2⟩).trans hc
    cases hq : ws_mn (ws_pw co w w a a) k with
    | none =>
      have z := (ws_mn_spec _ k).1 hq i hi
      rw [hp] at z
      cases z
    | some m' =>
      obtain ⟨⟨j, hj, h3⟩, h4⟩ := (ws_mn_spec _ k).2 m' hq
      have h5 := h4 i m hi hp
      unfold ws_pw at h3
      by_cases e : w j = a ∧ w j = a
      · rw [if_pos e] at h3
        have h6 := ((ws_mn_spec co k).2 m hm).2 j m' hj h3
        rw [show m' = m from by omega]
      · rw [if_neg e] at h3
        cases h3
theorem ws_ch_eq {co : Nat → Option Nat} {w : Nat → Nat} {k m d : Nat} (hd2 : 2 ≤ d) (hd : d ≤ 3) (hw : ∀ i, w i < d) (hm : ws_mn co k = some m) : ws_sm (fun a => ws_b1 (decide (ws_mn (ws_pw co w w a a) k = some m))) d = ws_b1 ((ws_mk (fun x => ws_hit (some m) (co x)) w k).testBit 0) + ws_b1 ((ws_mk (fun x => ws_hit (some m) (co x)) w k).testBit 1) + ws_b1 ((ws_mk (fun x => ws_hit (some m) (co x)) w k).testBit 2) := by
  have hs : ∀ F : Nat → Nat, ws_sm F 3 = F 0 + F 1 + F 2 := fun F => by
    show 0 + F 0 + F 1 + F 2 = _
    rw [Nat.zero_add]
  have hs2 : ∀ F : Nat → Nat, ws_sm F 2 = F 0 + F 1 := fun F => by
    show 0 + F 0 + F 1 = _
    rw [Nat.zero_add]
  rcases (by omega : d = 2 ∨ d = 3) with rfl | rfl
  · have h2 : (ws_mk (fun x => ws_hit (some m) (co x)) w k).testBit 2 = false := by
      cases e : (ws_mk (fun x => ws_hit (some m) (co x)) w k).testBit 2 with
      | false => rfl
      | true =>
        obtain ⟨i, _, _, h⟩ := (ws_mk_bit _ _ _ _).mp e
        have := hw i
        omega
    rw [hs2, ws_pw_eq hm 0, ws_pw_eq hm 1, h2]
    rfl
  · rw [hs, ws_pw_eq hm 0, ws_pw_eq hm 1, ws_pw_eq hm 2]
/-! arguments -/
theorem ws_cl3 (x : Int32) {lo hi : Nat} (hl : lo < 2 ^ 31) (hh : hi < 2 ^ 31) : x < nI lo ∨ (¬ x < nI lo ∧ nI hi < x) ∨ (¬ x < nI lo ∧ ¬ nI hi < x ∧ ∃ j, lo ≤ j ∧ j ≤ hi ∧ x = nI j) := by
  by_cases h1 : x < nI lo
  · exact Or.inl h1
  · by_cases h2 : nI hi < x
    · exact Or.inr (Or.inl ⟨h1, h2⟩)
    · have h0 : ¬ x < 0 := Int32.not_lt.mpr (Int32.le_trans (nI_pos' hl) (Int32.not_lt.mp h1))
      obtain ⟨j, hj, rfl⟩ := nI_of h0
      refine Or.inr (Or.inr ⟨h1, h2, j, ?_, ?_, rfl⟩)
      · rw [nI_ltI hj hl] at h1
        omega
      · rw [nI_ltI hh hj] at h2
        omega
end
section
/-! what holds of the tables; arguments; X's own methods -/
def ws_wf (n d : Nat) (U : Nat → Nat → Nat) (B : Nat → Nat → Nat → Nat → Nat) (A : Nat → Nat) : Prop := (2 ≤ n ∧ n ≤ 6) ∧ (2 ≤ d ∧ d ≤ 3) ∧ (∀ v a, U v a ≤ 99) ∧ (∀ u v a b, B u v a b ≤ 99) ∧ ∀ v, A v < 8
def ws_X (n d : Nat) (U : Nat → Nat → Nat) (B : Nat → Nat → Nat → Nat → Nat) (A : Nat → Nat) (xu xb xa : Nat → Int32) : Prop := ws_xu n d U xu ∧ ws_xb n d B xb ∧ ws_aa n A xa
def ws_Y (n d : Nat) (U : Nat → Nat → Nat) (B : Nat → Nat → Nat → Nat → Nat) (A : Nat → Nat) (yo yt ya : Nat → Int32) : Prop := ws_yu n d U yo ∧ ws_yb n d B yt ∧ ws_aa n A ya
def ws_cv (e : Int32) (b : Bool) (t : Nat) : Int32 := if b = true then e else nI t
theorem ws_cv_t {e : Int32} {b : Bool} {t : Nat} (h : b = true) : ws_cv e b t = e := if_pos h
theorem ws_cv_f {e : Int32} {b : Bool} {t : Nat} (h : b = false) : ws_cv e b t = nI t := if_neg (by rw [h]; decide)
theorem ws_en_co (e : Int32) (n d : Nat) (U : Nat → Nat → Nat) (B : Nat → Nat → Nat → Nat → Nat) (A : Nat → Nat) (x : Nat) : ws_en e (ws_co n d U B A x) = ws_cv e (ws_bad n d U B A x) (ws_tot n d U B x) := by
  unfold ws_co ws_cv
  by_cases h : ws_bad n d U B A x = true
  · rw [if_pos h, if_pos h]
    rfl
  · rw [if_neg h, if_neg h]
    rfl
theorem ws_an_t {b : Nat → Bool} {k : Nat} (h : b k = true) : ws_an b (k + 1) = true := by
  show (ws_an b k || b k) = true
  rw [h, Bool.or_true]
theorem ws_an_f {b : Nat → Bool} {k : Nat} (h : b k = false) : ws_an b (k + 1) = ws_an b k := by
  show (ws_an b k || b k) = _
  rw [h, Bool.or_false]
theorem ws_q {n u v : Nat} (hv : v < n) (hn : n < 2 ^ 31) (h : n * u + v < 2 ^ 31) : nI (n * u + v) / nI n = nI u ∧ nI (n * u + v) - nI (n * u + v) / nI n * nI n = nI v := by
  have z := ws_dm (a := u) hv
  exact ⟨by rw [pk_div h (by omega) hn, z.1], by rw [pk_rem h (by omega) hn, z.2]⟩
theorem ws_m1 {a : Nat} (h : 1 ≤ a) : nI a - 1 = nI (a - 1) := pk_sub h
theorem ws_m1' (a : Nat) : nI a - 1 = nI a + (-1) := Int32.sub_eq_add_neg _ _
def ws_vb (n : Nat) (x : Int32) : Prop := x < 0 ∨ nI n ≤ x
def ws_cb (x : Int32) : Prop := ¬ x = 99 ∧ (x < 0 ∨ ¬ x ≤ 40)
def ws_pb (n : Nat) (x : Int32) : Prop := ws_vb (n * n) x ∨ ∃ j, j < n * n ∧ x = nI j ∧ j / n = j % n
theorem ws_var_c (x : Int32) {n : Nat} (hn : n < 2 ^ 31) : ws_vb n x ∨ ∃ j, j < n ∧ x = nI j := by
  rcases pk_ix x hn with h | h | h
  · exact Or.inl (Or.inl h)
  · exact Or.inl (Or.inr h)
  · exact Or.inr h
theorem ws_cost_c (x : Int32) : ws_cb x ∨ ∃ c, (c ≤ 40 ∨ c = 99) ∧ x = nI c := by
  by_cases h9 : x = 99
  · exact Or.inr ⟨99, Or.inr rfl, h9⟩
  · by_cases h0 : x < 0
    · exact Or.inl ⟨h9, Or.inl h0⟩
    · by_cases h4 : x ≤ 40
      · obtain ⟨j, hj, e⟩ := nI_of2 (M := 40) (n := 40) (by decide) h0 h4
        exact Or.inr ⟨j, Or.inl hj, e⟩
      · exact Or.inl ⟨h9, Or.inr h4⟩
theorem ws_pair_c (x : Int32) {n : Nat} (hn : n ≤ 6) : ws_pb n x ∨ ∃ u v, u < n ∧ v < n ∧ u ≠ v ∧ x = nI (n * u + v) := by
  have h36 := ws_le36 hn
  rcases ws_var_c x (n := n * n) (by omega) with h | ⟨j, hj, rfl⟩
  · exact Or.inl (Or.inl h)
  · obtain ⟨h1, h2, h3⟩ := ws_split hj
    by_cases e : j / n = j % n
    · exact Or.inl (Or.inr ⟨j, hj, rfl, e⟩)
    · exact Or.inr ⟨j / n, j % n, h1, h2, e, congrArg nI h3⟩
theorem ws_two_c (x : Int32) {d : Nat} (hd : d ≤ 3) : ws_vb (d * d) x ∨ ∃ a b, a < d ∧ b < d ∧ x = nI (d * a + b) := by
  have h9 := ws_le9 hd
  rcases ws_var_c x (n := d * d) (by omega) with h | ⟨j, hj, rfl⟩
  · exact Or.inl h
  · obtain ⟨h1, h2, h3⟩ := ws_split hj
    exact Or.inr ⟨j / d, j % d, h1, h2, congrArg nI h3⟩
section
variable {post : Int32 → Prop} {n d : Nat} {e : Int32} {xu xb xa : Nat → Int32}
theorem wx_var_g {j : Nat} (hn : n ≤ 6) (hj : j < n) (h : post 1) : wpX_isVariable post (nI n, nI d, e, xu, xb, xa) (nI j) := by
  unfold wpX_isVariable
  dsimp only
  exact br_f (nI_pos (by omega)) (br_f (nI_ge hj (by omega)) h)
theorem wx_var_b {x : Int32} (hx : ws_vb n x) (h : post 0) : wpX_isVariable post (nI n, nI d, e, xu, xb, xa) x := by
  unfold wpX_isVariable
  dsimp only
  exact hx.elim (fun z => br_t z h) (fun z => br_c (fun _ => h) (fun _ => br_t z h))
theorem wx_value_g {j : Nat} (hd : d ≤ 3) (hj : j < d) (h : post 1) : wpX_isValue post (nI n, nI d, e, xu, xb, xa) (nI j) := by
  unfold wpX_isValue
  dsimp only
  exact br_f (nI_pos (by omega)) (br_f (nI_ge hj (by omega)) h)
theorem wx_value_b {x : Int32} (hx : ws_vb d x) (h : post 0) : wpX_isValue post (nI n, nI d, e, xu, xb, xa) x := by
  unfold wpX_isValue
  dsimp only
  exact hx.elim (fun z => br_t z h) (fun z => br_c (fun _ => h) (fun _ => br_t z h))
theorem wx_cost_g {c : Nat} (hc : c ≤ 40 ∨ c = 99) (h : post 1) : wpX_isCost post (nI c) := by
  unfold wpX_isCost wX_isCost_10
  rcases hc with hc | rfl
  · exact br_f (nI_pos (by omega)) (br_t (nI_le (b := 40) hc (by decide)) h)
  · exact br_f (nI_pos (by omega)) (br_f (nI_ge (a := 40) (b := 99) (by decide) (by decide)) (br_t rfl h))
theorem wx_cost_b {x : Int32} (hx : ws_cb x) (h : post 0) : wpX_isCost post x := by
  unfold wpX_isCost wX_isCost_10
  exact hx.2.elim (fun z => br_t z (br_f hx.1 h)) (fun z => br_c (fun _ => br_f hx.1 h) (fun _ => br_f z (br_f hx.1 h)))
theorem wx_two_g {j : Nat} (hd : d ≤ 3) (hj : j < d * d) (h : post 1) : wpX_isTwoValues post (nI n, nI d, e, xu, xb, xa) (nI j) := by
  have h9 := ws_le9 hd
  unfold wpX_isTwoValues
  dsimp only
  rw [pk_mul]
  exact br_f (nI_pos (by omega)) (br_f (nI_ge hj (by omega)) h)
theorem wx_two_b {x : Int32} (hx : ws_vb (d * d) x) (h : post 0) : wpX_isTwoValues post (nI n, nI d, e, xu, xb, xa) x := by
  unfold wpX_isTwoValues
  dsimp only
  rw [pk_mul]
  exact hx.elim (fun z => br_t z h) (fun z => br_c (fun _ => h) (fun _ => br_t z h))
theorem wx_pair_g {u v : Nat} (hn2 : 2 ≤ n) (hn : n ≤ 6) (hu : u < n) (hv : v < n) (huv : u ≠ v) (h : post 1) : wpX_isPair post (nI n, nI d, e, xu, xb, xa) (nI (n * u + v)) := by
  have h36 := ws_le36 hn
  have hlt := ws_lt2 hu hv
  have z := ws_q (u := u) hv (by omega) (by omega)
  have hne : ¬ nI u = nI v := by
    rw [nI_eq (by omega) (by omega)]
    exact huv
  unfold wpX_isPair
  dsimp only
  rw [z.2, z.1, pk_mul]
  exact br_f (nI_pos (by omega)) (br_f (nI_ge hlt (by omega)) ⟨nI_ne0 (by omega) (by omega), nI_ne0 (by omega) (by omega), br_f hne h⟩)
theorem wx_pair_b {x : Int32} (hn2 : 2 ≤ n) (hn : n ≤ 6) (hx : ws_pb n x) (h : post 0) : wpX_isPair post (nI n, nI d, e, xu, xb, xa) x := by
  have h36 := ws_le36 hn
  unfold wpX_isPair
  dsimp only
  rw [pk_mul]
  rcases hx with (z | z) | ⟨j, hj, rfl, hjj⟩
  · exact br_t z h
  · exact br_c (fun _ => h) (fun _ => br_t z h)
  · have hr := pk_rem (a := j) (d := n) (by omega) (by omega) (by omega)
    have hq := pk_div (a := j) (d := n) (by omega) (by omega) (by omega)
    have he : nI j / nI n = nI j - nI j / nI n * nI n := by rw [hr, hq, hjj]
    exact br_f (nI_pos (by omega)) (br_f (nI_ge hj (by omega)) ⟨nI_ne0 (by omega) (by omega), nI_ne0 (by omega) (by omega), br_t he h⟩)
theorem wx_uc {v a : Nat} (h : post (nI (v * d + a))) : wpX_unaryCell post (nI n, nI d, e, xu, xb, xa) (nI v) (nI a) := by
  unfold wpX_unaryCell
  dsimp only
  rw [pk_mul, nI_add]
  exact h
theorem wx_cell {u v a b : Nat} (hn2 : 2 ≤ n) (hn : n ≤ 6) (hd2 : 2 ≤ d) (hd : d ≤ 3) (hu : u < n) (hv : v < n) (huv : u ≠ v) (ha : a < d) (hb : b < d) (h : post (nI (ws_cl n d u v a b))) : wpX_binaryCell post (nI n, nI d, e, xu, xb, xa) (nI (n * u + v)) (nI (d * a + b)) := by
  have h36 := ws_le36 hn
  have h9 := ws_le9 hd
  have hlt := ws_lt2 hu hv
  have hlt2 := ws_lt2 ha hb
  have z := ws_q (u := u) hv (by omega) (by omega)
  have y := ws_q (u := a) hb (by omega) (by omega)
  unfold ws_cl at h
  unfold wpX_binaryCell
  dsimp only
  rw [z.2, z.1, y.2, y.1]
  refine ⟨nI_ne0 (by omega) (by omega), nm_e ⟨nI_ne0 (by omega) (by omega), nm_e ?_⟩⟩
  by_cases huv' : u < v
  · rw [if_pos huv'] at h
    refine br_f (nI_ge huv' (by omega)) ?_
    rw [pk_mul, pk_mul, nI_add]
    exact h
  · rw [if_neg huv'] at h
    refine br_t (nI_le (by omega) (by omega)) ⟨nI_ne0 (by omega) (by omega), nm_e ⟨nI_ne0 (by omega) (by omega), nm_e ?_⟩⟩
    simp only [pk_mul, nI_add, Nat.add_assoc]
    exact h
theorem wx_rel {k a b : Nat} (hk : k < 3) (ha : a < 3) (hb : b < 3) (h : post (nI (ws_tt k a b))) : wpX_relation post (nI k) (nI a) (nI b) := by
  unfold wpX_relation
  rcases (by omega : k = 0 ∨ k = 1 ∨ k = 2) with rfl | rfl | rfl
  · refine br_t rfl (pk_le a b (fun z => ?_) (fun z => ?_))
    · have e1 : ws_tt 0 a b = b - a := by
        show (if a < b then b - a else a - b) = b - a
        by_cases h1 : a < b
        · rw [if_pos h1]
        · rw [if_neg h1]
          omega
      rw [pk_sub z, ← e1]
      exact h
    · have e1 : ws_tt 0 a b = a - b := by
        show (if a < b then b - a else a - b) = a - b
        rw [if_neg (by omega)]
      rw [pk_sub (by omega), ← e1]
      exact h
  · refine br_f (by decide) (br_t rfl (pk_eq a b (fun z => ?_) (fun z => ?_)))
    · have e1 : ws_tt 1 a b = 1 := if_pos z
      rw [e1] at h
      exact h
    · have e1 : ws_tt 1 a b = 0 := if_neg z
      rw [e1] at h
      exact h
  · refine br_f (by decide) (br_f (by decide) ?_)
    rw [pk_mul]
    exact h
theorem wx_val_l (x v : Nat) (hn : n ≤ 6) (hd2 : 2 ≤ d) (hd : d ≤ 3) (hx : x < 2 ^ 31) (h : post (nI (ws_val n d x v))) : ∀ j fuel, v + j < n → j < fuel → wX_valueIn_10 post (nI v) (nI n) (nI d) e xu xb xa fuel (nI (ws_R n d x (v + j + 1))) (nI (v + j)) := by
  intro j
  induction j with
  | zero =>
    intro fuel hj hf
    obtain ⟨m, rfl⟩ : ∃ m, fuel = m + 1 := ⟨fuel - 1, by omega⟩
    have hR := ws_R_le n d x (v + 0 + 1)
    refine br_t (nI_le (by omega) (by omega)) ⟨nI_ne0 (by omega) (by omega), ?_⟩
    rw [pk_rem (by omega) (by omega) (by omega)]
    exact h
  | succ j ih =>
    intro fuel hj hf
    obtain ⟨m, rfl⟩ : ∃ m, fuel = m + 1 := ⟨fuel - 1, by omega⟩
    have hR := ws_R_le n d x (v + (j + 1) + 1)
    refine br_f (nI_ge (by omega) (by omega)) ⟨nI_ne0 (by omega) (by omega), fun y ey t et => ?_⟩
    rw [pk_div (by omega) (by omega) (by omega), ws_R_dn (by omega)] at ey
    have et' : t = nI (v + j) := et.trans (pk_m1 (v + j))
    rw [ey, et']
    exact ih m (by omega) (by omega)
theorem wx_val {x v : Nat} (hn : n ≤ 6) (hd2 : 2 ≤ d) (hd : d ≤ 3) (hx : x < 2 ^ 31) (hv : v < n) (h : post (nI (ws_val n d x v))) : wpX_valueIn post (nI n, nI d, e, xu, xb, xa) (nI x) (nI v) := by
  unfold wpX_valueIn
  dsimp only
  refine nm_r (ws_m1 (by omega)) ⟨n + 1, ?_⟩
  have z := wx_val_l (e := e) (xu := xu) (xb := xb) (xa := xa) x v hn hd2 hd hx h (n - 1 - v) (n + 1) (by omega) (by omega)
  rw [show v + (n - 1 - v) + 1 = n from by omega, show v + (n - 1 - v) = n - 1 from by omega, ws_R_top] at z
  exact z
end
end
section
/-! X: the cost of a number -/
section
variable {post : Int32 → Prop} {n d : Nat} {e : Int32} {U : Nat → Nat → Nat} {B : Nat → Nat → Nat → Nat → Nat} {A : Nat → Nat} {xu xb xa : Nat → Int32}
theorem wx_cwe_l (W : ws_wf n d U B A) (X : ws_X n d U B A xu xb xa) (x v : Nat) (hx : x < 2 ^ 31) (hv : v < n) : ∀ k acc fuel, k ≤ v → k < fuel → post (ws_cv (-1) (ws_an (fun u => decide (ws_f n d B x u v = 99)) k) (acc + ws_sm (fun u => ws_f n d B x u v) k)) → wX_costWithEarlier_11 post (nI v) (nI (ws_val n d x v)) (nI n) (nI d) e xu xb xa fuel (nI acc) (nI (ws_R n d x k)) (nI k + (-1)) := by
  obtain ⟨⟨hn2, hn6⟩, ⟨hd2, hd3⟩, hU, hB, hA⟩ := W
  intro k
  induction k with
  | zero =>
    intro acc fuel hk hf hp
    obtain ⟨m, rfl⟩ : ∃ m, fuel = m + 1 := ⟨fuel - 1, by omega⟩
    exact br_t (by decide) hp
  | succ k ih =>
    intro acc fuel hk hf hp
    obtain ⟨m, rfl⟩ : ∃ m, fuel = m + 1 := ⟨fuel - 1, by omega⟩
    have hR := ws_R_le n d x (k + 1)
    rw [pk_m1]
    refine br_f (nI_pos (by omega)) ⟨nI_ne0 (by omega) (by omega), fun b eb => ⟨nI_ne0 (by omega) (by omega), fun r er => ?_⟩⟩
    rw [pk_rem (by omega) (by omega) (by omega)] at eb
    rw [pk_div (by omega) (by omega) (by omega), ws_R_dn (by omega)] at er
    have eb' : b = nI (ws_val n d x k) := eb
    rw [eb', er, show nI n * nI k + nI v = nI (n * k + v) from by rw [pk_mul, nI_add], show nI d * nI (ws_val n d x k) + nI (ws_val n d x v) = nI (d * ws_val n d x k + ws_val n d x v) from by rw [pk_mul, nI_add]]
    have hc := ws_cl_lt (u := k) (v := v) hn6 hd3 (by omega) hv (ws_val_lt (n := n) (x := x) (v := k) hd2) (ws_val_lt (n := n) (x := x) (v := v) hd2)
    refine wx_cell hn2 hn6 hd2 hd3 (by omega) hv (by omega) (ws_val_lt hd2) (ws_val_lt hd2) ⟨vp_in_nI hc (by decide), fun c ec => ?_⟩
    rw [nI_clamp (by omega), X.2.1 k v _ _ (by omega) hv (by omega) (ws_val_lt hd2) (ws_val_lt hd2), ws_Br_lt (by omega)] at ec
    have ec' : c = nI (ws_f n d B x k v) := ec
    have hf99 : ws_f n d B x k v ≤ 99 := hB _ _ _ _
    rw [ec']
    by_cases h9 : ws_f n d B x k v = 99
    · refine br_t (by rw [h9]; rfl) ?_
      rw [ws_cv_t (ws_an_t (decide_eq_true h9))] at hp
      exact hp
    · refine br_f (fun z => h9 ((nI_eq (b := 99) (by omega) (by decide)).mp z)) (fun s es t et => ?_)
      rw [nI_add] at es
      rw [es, et]
      refine ih _ m (by omega) (by omega) ?_
      rw [ws_an_f (decide_eq_false h9)] at hp
      have e1 : acc + ws_sm (fun u => ws_f n d B x u v) (k + 1) = acc + ws_f n d B x k v + ws_sm (fun u => ws_f n d B x u v) k := by
        show acc + (ws_sm (fun u => ws_f n d B x u v) k + ws_f n d B x k v) = _
        omega
      rw [e1] at hp
      exact hp
theorem wx_cwe (W : ws_wf n d U B A) (X : ws_X n d U B A xu xb xa) {x v : Nat} (hx : x < 2 ^ 31) (hv : v < n) (h : post (ws_cv (-1) (ws_fb n d B x v) (ws_sm (fun u => ws_f n d B x u v) v))) : wpX_costWithEarlier post (nI n, nI d, e, xu, xb, xa) (nI (ws_R n d x v)) (nI v) (nI (ws_val n d x v)) := by
  unfold wpX_costWithEarlier
  dsimp only
  refine nm_r (ws_m1' v) ⟨v + 1, ?_⟩
  refine wx_cwe_l W X x v hx hv v 0 (v + 1) (Nat.le_refl _) (by omega) ?_
  rw [Nat.zero_add]
  exact h
theorem wx_al (W : ws_wf n d U B A) (X : ws_X n d U B A xu xb xa) {x v : Nat} (hv : v < n) (h0 : ws_al n d A x v = 0 → post 0) (h1 : ¬ ws_al n d A x v = 0 → post 1) : wpX_isAllowed post (nI n, nI d, e, xu, xb, xa) (nI v) (nI (ws_val n d x v)) := by
  obtain ⟨⟨hn2, hn6⟩, ⟨hd2, hd3⟩, hU, hB, hA⟩ := W
  have hw := ws_val_lt (n := n) (x := x) (v := v) hd2
  unfold wpX_isAllowed
  dsimp only
  refine ⟨vp_in_nI (by omega) (by decide), ?_⟩
  rw [nI_clamp (by omega), X.2.2 v hv, ws_bit (A v) (hA v) _ (by omega)]
  have hm : ws_al n d A x v < 2 := Nat.mod_lt _ (by decide)
  show (nI (ws_al n d A x v) = 1 → _) ∧ (¬ nI (ws_al n d A x v) = 1 → _)
  by_cases z : ws_al n d A x v = 0
  · rw [z]
    exact br_f (by decide) (h0 z)
  · rw [show ws_al n d A x v = 1 from by omega]
    exact br_t rfl (h1 z)
theorem wx_sol_l (W : ws_wf n d U B A) (X : ws_X n d U B A xu xb xa) (x : Nat) (hx : x < 2 ^ 31) : ∀ k acc fuel, k ≤ n → k < fuel → post (ws_cv (-1) (ws_an (fun v => ws_ub n d U A x v || ws_fb n d B x v) k) (acc + ws_sm (fun v => ws_g n d U x v + ws_sm (fun u => ws_f n d B x u v) v) k)) → wX_solutionCost_12 post (nI n) (nI d) e xu xb xa fuel (nI acc) (nI (ws_R n d x k)) (nI k + (-1)) := by
  have W' := W
  obtain ⟨⟨hn2, hn6⟩, ⟨hd2, hd3⟩, hU, hB, hA⟩ := W
  intro k
  induction k with
  | zero =>
    intro acc fuel hk hf hp
    obtain ⟨m, rfl⟩ : ∃ m, fuel = m + 1 := ⟨fuel - 1, by omega⟩
    exact br_t (by decide) hp
  | succ k ih =>
    intro acc fuel hk hf hp
    obtain ⟨m, rfl⟩ : ∃ m, fuel = m + 1 := ⟨fuel - 1, by omega⟩
    have hR := ws_R_le n d x (k + 1)
    have hw := ws_val_lt (n := n) (x := x) (v := k) hd2
    rw [pk_m1]
    refine br_f (nI_pos (by omega)) ⟨nI_ne0 (by omega) (by omega), fun a ea => ⟨nI_ne0 (by omega) (by omega), fun r er => ?_⟩⟩
    rw [pk_rem (by omega) (by omega) (by omega)] at ea
    rw [pk_div (by omega) (by omega) (by omega), ws_R_dn (by omega)] at er
    have ea' : a = nI (ws_val n d x k) := ea
    rw [ea', er]
    have hc := ws_uc_lt hn6 hd3 (show k < n by omega) hw
    refine wx_uc ⟨vp_in_nI hc (by decide), fun c ec => ?_⟩
    rw [nI_clamp (by omega), X.1 k _ (by omega) hw] at ec
    have ec' : c = nI (ws_g n d U x k) := ec
    have hg : ws_g n d U x k ≤ 99 := hU _ _
    rw [ec']
    refine wx_cwe W' X hx (by omega) ?_
    refine wx_al W' X (by omega) (fun z => ?_) (fun z => ?_)
    · refine br_t rfl ?_
      rw [ws_cv_t (ws_an_t (by unfold ws_ub; rw [decide_eq_true z]; rfl))] at hp
      exact hp
    · refine br_f (by decide) ?_
      by_cases h9 : ws_g n d U x k = 99
      · refine br_t (by rw [h9]; rfl) ?_
        rw [ws_cv_t (ws_an_t (by unfold ws_ub; rw [decide_eq_true h9, Bool.or_true]; rfl))] at hp
        exact hp
      · refine br_f (fun z => h9 ((nI_eq (b := 99) (by omega) (by decide)).mp z)) ?_
        have hub : ws_ub n d U A x k = false := by
          unfold ws_ub
          rw [decide_eq_false z, decide_eq_false h9]
          rfl
        cases hfb : ws_fb n d B x k with
        | true =>
          refine br_t rfl ?_
          rw [ws_cv_t (ws_an_t (by rw [hfb, Bool.or_true]))] at hp
          exact hp
        | false =>
          have hs : ws_sm (fun u => ws_f n d B x u k) k ≤ k * 99 := ws_sm_le (fun u _ => hB _ _ _ _)
          rw [ws_cv_f rfl]
          refine br_f (ws_ne1 (by omega)) (fun s es t et => ?_)
          rw [nI_add, nI_add] at es
          rw [es, et]
          refine ih _ m (by omega) (by omega) ?_
          rw [ws_an_f (by rw [hub, hfb]; rfl)] at hp
          have e1 : acc + ws_sm (fun v => ws_g n d U x v + ws_sm (fun u => ws_f n d B x u v) v) (k + 1) = acc + ws_g n d U x k + ws_sm (fun u => ws_f n d B x u k) k + ws_sm (fun v => ws_g n d U x v + ws_sm (fun u => ws_f n d B x u v) v) k := by
            show acc + (ws_sm (fun v => ws_g n d U x v + ws_sm (fun u => ws_f n d B x u v) v) k + (ws_g n d U x k + ws_sm (fun u => ws_f n d B x u k) k)) = _
            omega
          rw [e1] at hp
          exact hp
theorem wx_sol (W : ws_wf n d U B A) (X : ws_X n d U B A xu xb xa) {x : Nat} (hx : x < 2 ^ 31) (h : post (ws_en (-1) (ws_co n d U B A x))) : wpX_solutionCost post (nI n, nI d, e, xu, xb, xa) (nI x) := by
  unfold wpX_solutionCost
  dsimp only
  refine nm_r (ws_m1' n) ⟨n + 1, ?_⟩
  have z := wx_sol_l (post := post) (e := e) W X x hx n 0 (n + 1) (Nat.le_refl _) (by omega) (by
    rw [Nat.zero_add]
    rw [ws_en_co] at h
    exact h)
  rw [ws_R_top] at z
  exact z
end
end
section
/-! X: the loops over all numbers -/
theorem ws_upX {K : Int32 → Prop} {m : Option Nat} {c : Nat} (hm : ∀ a, m = some a → a ≤ 4158) (hc : c ≤ 4158) (h : K (ws_en (-1) (ws_st m (some c)))) : (ws_en (-1) m = -1 → K (nI c)) ∧ (¬ ws_en (-1) m = -1 → ((ws_en (-1) m ≤ nI c → K (ws_en (-1) m)) ∧ (¬ ws_en (-1) m ≤ nI c → K (nI c)))) := by
  cases m with
  | none => exact br_t rfl h
  | some a =>
    have ha := hm a rfl
    have e1 : ws_st (some a) (some c) = if c < a then some c else some a := rfl
    rw [e1] at h
    refine br_f (ws_ne1 (by omega)) ?_
    by_cases z : c < a
    · rw [if_pos z] at h
      exact br_f (nI_ge z (by omega)) h
    · rw [if_neg z] at h
      exact br_t (nI_le (by omega) (by omega)) h
theorem ws_upY {K : Int32 → Prop} {e : Int32} (he : e < 0) {m : Option Nat} {c : Nat} (hm : ∀ a, m = some a → a ≤ 4158) (hc : c ≤ 4158) (h : K (ws_en e (ws_st m (some c)))) : (ws_en e m < 0 → K (nI c)) ∧ (¬ ws_en e m < 0 → ((ws_en e m ≤ nI c → K (ws_en e m)) ∧ (¬ ws_en e m ≤ nI c → K (nI c)))) := by
  cases m with
  | none => exact br_t he h
  | some a =>
    have ha := hm a rfl
    have e1 : ws_st (some a) (some c) = if c < a then some c else some a := rfl
    rw [e1] at h
    refine br_f (nI_pos (by omega)) ?_
    by_cases z : c < a
    · rw [if_pos z] at h
      exact br_f (nI_ge z (by omega)) h
    · rw [if_neg z] at h
      exact br_t (nI_le (by omega) (by omega)) h
section
variable {post : Int32 → Prop} {n d : Nat} {U : Nat → Nat → Nat} {B : Nat → Nat → Nat → Nat → Nat} {A : Nat → Nat} {xu xb xa : Nat → Int32}
theorem ws_cob (W : ws_wf n d U B A) : ∀ i c, ws_co n d U B A i = some c → c ≤ 4158 := fun _ _ h => ws_co_le W.1.2 W.2.2.1 W.2.2.2.1 h
theorem wx_la (W : ws_wf n d U B A) (X : ws_X n d U B A xu xb xa) {y : Int32} (h : post (ws_en (-1) (ws_mn (fun x => ws_of (fun c => decide (¬ nI c ≤ y)) (ws_co n d U B A x)) (d ^ n)))) : wpX_leastAbove post (nI n, nI d, nI (d ^ n), xu, xb, xa) y := by
  have hall := ws_pow W.1.2 W.2.1.2
  have hb := ws_of_le (fun c => decide (¬ nI c ≤ y)) (ws_cob W)
  unfold wpX_leastAbove
  dsimp only
  obtain ⟨m, hm⟩ := loop_0 (fun fuel i s => wX_leastAbove_4 post y (nI n) (nI d) (nI (d ^ n)) xu xb xa fuel s (nI i)) (fun i s => s = ws_en (-1) (ws_mn (fun x => ws_of (fun c => decide (¬ nI c ≤ y)) (ws_co n d U B A x)) i)) (d ^ n) (-1) rfl
    (fun m s hs => by
      rw [hs]
      exact br_t (nI_le (Nat.le_refl _) (by omega)) h)
    (fun m i s hi hs hk => by
      have hK : ∀ z, z = ws_en (-1) (ws_mn (fun x => ws_of (fun c => decide (¬ nI c ≤ y)) (ws_co n d U B A x)) (i + 1)) → ∀ t, t = nI i + 1 → wX_leastAbove_4 post y (nI n) (nI d) (nI (d ^ n)) xu xb xa m z t := fun z hz t et => by
        rw [et, nI_1 i]
        exact hk z hz
      have e1 : ws_mn (fun x => ws_of (fun c => decide (¬ nI c ≤ y)) (ws_co n d U B A x)) (i + 1) = ws_st (ws_mn (fun x => ws_of (fun c => decide (¬ nI c ≤ y)) (ws_co n d U B A x)) i) (ws_of (fun c => decide (¬ nI c ≤ y)) (ws_co n d U B A i)) := rfl
      rw [hs]
      refine br_f (nI_ge hi (by omega)) (wx_sol W X (by omega) ?_)
      cases hco : ws_co n d U B A i with
      | none =>
        rw [hco] at e1
        exact br_t rfl (hK _ (by rw [e1]; rfl))
      | some c =>
        have hc := ws_cob W i c hco
        rw [hco] at e1
        have e2 : ws_of (fun c => decide (¬ nI c ≤ y)) (some c) = if decide (¬ nI c ≤ y) = true then some c else none := rfl
        refine br_f (ws_ne1 (by omega)) ?_
        by_cases hq : nI c ≤ y
        · rw [e2, if_neg (by simp [hq])] at e1
          exact br_t hq (hK _ (by rw [e1]; rfl))
        · rw [e2, if_pos (decide_eq_true hq)] at e1
          exact br_f hq (ws_upX (K := fun z => ∀ t, t = nI i + 1 → wX_leastAbove_4 post y (nI n) (nI d) (nI (d ^ n)) xu xb xa m z t) (fun a ha => ws_mn_le hb ha) hc (hK _ (by rw [e1]))))
  exact ⟨m, hm⟩
theorem wx_best (W : ws_wf n d U B A) (X : ws_X n d U B A xu xb xa) (h : post (ws_en (-1) (ws_mn (ws_co n d U B A) (d ^ n)))) : wpX_leastAbove post (nI n, nI d, nI (d ^ n), xu, xb, xa) (-1) := by
  refine wx_la W X ?_
  have e1 : ws_mn (fun x => ws_of (fun c => decide (¬ nI c ≤ -1)) (ws_co n d U B A x)) (d ^ n) = ws_mn (ws_co n d U B A) (d ^ n) := by
    refine ws_mn_congr (fun i hi => ?_)
    show ws_of (fun c => decide (¬ nI c ≤ -1)) (ws_co n d U B A i) = _
    cases hco : ws_co n d U B A i with
    | none => rfl
    | some c =>
      have hc := ws_cob W i c hco
      have hq : ¬ nI c ≤ -1 := by
        intro z
        have z2 : nI c < 0 := Int32.lt_of_le_of_lt z (by decide)
        exact nI_pos (by omega) z2
      exact if_pos (decide_eq_true hq)
  rw [e1]
  exact h
theorem wx_ct (W : ws_wf n d U B A) (X : ws_X n d U B A xu xb xa) {y : Int32} (h : post (nI (ws_sm (fun x => ws_b1 (ws_oq (fun c => decide (nI c ≤ y)) (ws_co n d U B A x))) (d ^ n)))) : wpX_countAtMost post (nI n, nI d, nI (d ^ n), xu, xb, xa) y := by
  have hall := ws_pow W.1.2 W.2.1.2
  unfold wpX_countAtMost
  dsimp only
  obtain ⟨m, hm⟩ := loop_0 (fun fuel i s => wX_countAtMost_4 post y (nI n) (nI d) (nI (d ^ n)) xu xb xa fuel s (nI i)) (fun i s => s = nI (ws_sm (fun x => ws_b1 (ws_oq (fun c => decide (nI c ≤ y)) (ws_co n d U B A x))) i)) (d ^ n) 0 rfl
    (fun m s hs => by
      rw [hs]
      exact br_t (nI_le (Nat.le_refl _) (by omega)) h)
    (fun m i s hi hs hk => by
      have hK : ∀ z, z = nI (ws_sm (fun x => ws_b1 (ws_oq (fun c => decide (nI c ≤ y)) (ws_co n d U B A x))) (i + 1)) → ∀ t, t = nI i + 1 → wX_countAtMost_4 post y (nI n) (nI d) (nI (d ^ n)) xu xb xa m z t := fun z hz t et => by
        rw [et, nI_1 i]
        exact hk z hz
      have e1 : ws_sm (fun x => ws_b1 (ws_oq (fun c => decide (nI c ≤ y)) (ws_co n d U B A x))) (i + 1) = ws_sm (fun x => ws_b1 (ws_oq (fun c => decide (nI c ≤ y)) (ws_co n d U B A x))) i + ws_b1 (ws_oq (fun c => decide (nI c ≤ y)) (ws_co n d U B A i)) := rfl
      rw [hs]
      refine br_f (nI_ge hi (by omega)) (wx_sol W X (by omega) ?_)
      cases hco : ws_co n d U B A i with
      | none =>
        rw [hco] at e1
        exact br_t rfl (hK _ (by rw [e1]; rfl))
      | some c =>
        have hc := ws_cob W i c hco
        rw [hco] at e1
        have e2 : ws_oq (fun c => decide (nI c ≤ y)) (some c) = decide (nI c ≤ y) := rfl
        refine br_f (ws_ne1 (by omega)) ?_
        by_cases hq : y < nI c
        · rw [e2, decide_eq_false (Int32.not_le.mpr hq)] at e1
          exact br_t hq (hK _ (by rw [e1]; rfl))
        · rw [e2, decide_eq_true (Int32.not_lt.mp hq)] at e1
          refine br_f hq (fun z ez => hK z ?_)
          rw [ez, e1, nI_1]
          rfl)
  exact ⟨m, hm⟩
theorem wx_fw (W : ws_wf n d U B A) (X : ws_X n d U B A xu xb xa) {i0 c0 : Nat} (hi0 : i0 < d ^ n) (hc0 : ws_co n d U B A i0 = some c0) (hl : ∀ j, j < i0 → ¬ ws_co n d U B A j = some c0) (h : post (nI i0)) : wpX_firstWithCost post (nI n, nI d, nI (d ^ n), xu, xb, xa) (nI c0) := by
  have hall := ws_pow W.1.2 W.2.1.2
  have hcb := ws_cob W i0 c0 hc0
  have key : ∀ k i fuel, i + k = i0 → k < fuel → wX_firstWithCost_2 post (nI c0) (nI n) (nI d) (nI (d ^ n)) xu xb xa fuel (nI i) := by
    intro k
    induction k with
    | zero =>
      intro i fuel hi hf
      obtain ⟨m, rfl⟩ : ∃ m, fuel = m + 1 := ⟨fuel - 1, by omega⟩
      have hii : i = i0 := hi
      rw [hii]
      refine br_f (nI_ge hi0 (by omega)) (wx_sol W X (by omega) ?_)
      rw [hc0]
      exact br_t rfl h
    | succ k ih =>
      intro i fuel hi hf
      obtain ⟨m, rfl⟩ : ∃ m, fuel = m + 1 := ⟨fuel - 1, by omega⟩
      refine br_f (nI_ge (a := i) (b := d ^ n) (by omega) (by omega)) (wx_sol W X (by omega) ?_)
      refine br_f ?_ (fun t et => ?_)
      · cases hco : ws_co n d U B A i with
        | none => exact fun z => ws_ne1 (c := c0) (by omega) z.symm
        | some c =>
          have hc := ws_cob W i c hco
          intro z
          have z2 := (nI_eq (a := c) (b := c0) (by omega) (by omega)).mp z
          exact hl i (by omega) (by rw [hco, z2])
      · rw [et, nI_1 i]
        exact ih (i + 1) m (by omega) (by omega)
  unfold wpX_firstWithCost
  dsimp only
  exact ⟨i0 + 1, key i0 0 (i0 + 1) (by omega) (by omega)⟩
theorem wx_lw (W : ws_wf n d U B A) (X : ws_X n d U B A xu xb xa) {u a v b : Nat} (hu : u < n) (hv : v < n) (ha : a < d) (hb : b < d) (h : post (ws_en (-1) (ws_mn (ws_pw (ws_co n d U B A) (fun x => ws_val n d x u) (fun x => ws_val n d x v) a b) (d ^ n)))) : wpX_leastWith post (nI n, nI d, nI (d ^ n), xu, xb, xa) (nI u) (nI a) (nI v) (nI b) := by
  have hall := ws_pow W.1.2 W.2.1.2
  have hb2 := ws_pw_le (w1 := fun x => ws_val n d x u) (w2 := fun x => ws_val n d x v) (a := a) (b := b) (ws_cob W)
  have hn6 := W.1.2
  have hd2 := W.2.1.1
  have hd3 := W.2.1.2
  unfold wpX_leastWith
  dsimp only
  obtain ⟨m, hm⟩ := loop_0 (fun fuel i s => wX_leastWith_6 post (nI u) (nI a) (nI v) (nI b) (nI n) (nI d) (nI (d ^ n)) xu xb xa fuel s (nI i)) (fun i s => s = ws_en (-1) (ws_mn (ws_pw (ws_co n d U B A) (fun x => ws_val n d x u) (fun x => ws_val n d x v) a b) i)) (d ^ n) (-1) rfl
    (fun m s hs => by
      rw [hs]
      exact br_t (nI_le (Nat.le_refl _) (by omega)) h)
    (fun m i s hi hs hk => by
      have hK : ∀ z, z = ws_en (-1) (ws_mn (ws_pw (ws_co n d U B A) (fun x => ws_val n d x u) (fun x => ws_val n d x v) a b) (i + 1)) → ∀ t, t = nI i + 1 → wX_leastWith_6 post (nI u) (nI a) (nI v) (nI b) (nI n) (nI d) (nI (d ^ n)) xu xb xa m z t := fun z hz t et => by
        rw [et, nI_1 i]
        exact hk z hz
      have e1 : ws_mn (ws_pw (ws_co n d U B A) (fun x => ws_val n d x u) (fun x => ws_val n d x v) a b) (i + 1) = ws_st (ws_mn (ws_pw (ws_co n d U B A) (fun x => ws_val n d x u) (fun x => ws_val n d x v) a b) i) (ws_pw (ws_co n d U B A) (fun x => ws_val n d x u) (fun x => ws_val n d x v) a b i) := rfl
      have e2 : ws_pw (ws_co n d U B A) (fun x => ws_val n d x u) (fun x => ws_val n d x v) a b i = if ws_val n d i u = a ∧ ws_val n d i v = b then ws_co n d U B A i else none := rfl
      have hwu := ws_val_lt (n := n) (x := i) (v := u) hd2
      have hwv := ws_val_lt (n := n) (x := i) (v := v) hd2
      rw [hs]
      refine br_f (nI_ge hi (by omega)) (wx_val hn6 hd2 hd3 (by omega) hu ?_)
      by_cases h1 : ws_val n d i u = a
      · refine br_t (congrArg nI h1) (wx_val hn6 hd2 hd3 (by omega) hv ?_)
        by_cases h2 : ws_val n d i v = b
        · refine br_t (congrArg nI h2) (wx_sol W X (by omega) ?_)
          rw [e2, if_pos ⟨h1, h2⟩] at e1
          cases hco : ws_co n d U B A i with
          | none =>
            rw [hco] at e1
            exact br_t rfl (hK _ (by rw [e1]; rfl))
          | some c =>
            have hc := ws_cob W i c hco
            rw [hco] at e1
            exact br_f (ws_ne1 (by omega)) (ws_upX (K := fun z => ∀ t, t = nI i + 1 → wX_leastWith_6 post (nI u) (nI a) (nI v) (nI b) (nI n) (nI d) (nI (d ^ n)) xu xb xa m z t) (fun a ha => ws_mn_le hb2 ha) hc (hK _ (by rw [e1])))
        · rw [e2, if_neg (fun z => h2 z.2)] at e1
          exact br_f (fun z => h2 ((nI_eq (by omega) (by omega)).mp z)) (hK _ (by rw [e1]; rfl))
      · rw [e2, if_neg (fun z => h1 z.1)] at e1
        exact br_f (fun z => h1 ((nI_eq (by omega) (by omega)).mp z)) (hK _ (by rw [e1]; rfl)))
  exact ⟨m, hm⟩
end
end
section
/-! Y's own methods -/
theorem ws_pyI (u v a b : Nat) : ((9 * ((6 * nI u) + nI v)) + (3 * nI a)) + nI b = nI (ws_py u v a b) := by
  show ((nI 9 * ((nI 6 * nI u) + nI v)) + (nI 3 * nI a)) + nI b = _
  simp only [pk_mul, nI_add]
  rfl
theorem ws_ouI (v a : Nat) : (3 * nI v) + nI a = nI (3 * v + a) := by
  show (nI 3 * nI v) + nI a = _
  rw [pk_mul, nI_add]
section
variable {post : Int32 → Prop} {n d : Nat} {e : Int32} {yo yt ya : Nat → Int32}
theorem wy_var_g {j : Nat} (hn : n ≤ 6) (hj : j < n) (h : post 0) : wpY_badVar post (nI n, nI d, e, yo, yt, ya) (nI j) := by
  unfold wpY_badVar
  dsimp only
  exact br_f (nI_pos (by omega)) (br_f (nI_ge hj (by omega)) (br_t (nI_lt (b := 6) (by omega) (by decide)) h))
theorem wy_var_b {x : Int32} (hx : ws_vb n x) (h : post 1) : wpY_badVar post (nI n, nI d, e, yo, yt, ya) x := by
  unfold wpY_badVar
  dsimp only
  exact hx.elim (fun z => br_t z h) (fun z => br_c (fun _ => h) (fun _ => br_t z h))
theorem wy_value_g {j : Nat} (hd : d ≤ 3) (hj : j < d) (h : post 0) : wpY_badValue post (nI n, nI d, e, yo, yt, ya) (nI j) := by
  unfold wpY_badValue
  dsimp only
  exact br_f (nI_pos (by omega)) (br_f (nI_ge hj (by omega)) (br_t (nI_lt (b := 3) (by omega) (by decide)) h))
theorem wy_value_b {x : Int32} (hx : ws_vb d x) (h : post 1) : wpY_badValue post (nI n, nI d, e, yo, yt, ya) x := by
  unfold wpY_badValue
  dsimp only
  exact hx.elim (fun z => br_t z h) (fun z => br_c (fun _ => h) (fun _ => br_t z h))
theorem wy_cost_g {c : Nat} (hc : c ≤ 40 ∨ c = 99) (h : post 0) : wpY_badCost post (nI n, nI d, e, yo, yt, ya) (nI c) := by
  unfold wpY_badCost
  dsimp only
  unfold wY_badCost_10
  rcases hc with hc | rfl
  · exact br_f (nI_pos (by omega)) (br_t (nI_le (b := 40) hc (by decide)) h)
  · exact br_f (nI_pos (by omega)) (br_f (nI_ge (a := 40) (b := 99) (by decide) (by decide)) (br_t rfl h))
theorem wy_cost_b {x : Int32} (hx : ws_cb x) (h : post 1) : wpY_badCost post (nI n, nI d, e, yo, yt, ya) x := by
  unfold wpY_badCost
  dsimp only
  unfold wY_badCost_10
  exact hx.2.elim (fun z => br_t z (br_f hx.1 h)) (fun z => br_c (fun _ => br_f hx.1 h) (fun _ => br_f z (br_f hx.1 h)))
theorem wy_over {a b : Nat} (ha : a < 2 ^ 31) (hb : 0 < b) (hb2 : b < 2 ^ 31) (h : post (nI (a / b))) : wpY_over post (nI n, nI d, e, yo, yt, ya) (nI a) (nI b) := by
  unfold wpY_over
  dsimp only
  rw [pk_div ha hb hb2]
  exact br_t (nI_le (a := 1) hb hb2) ⟨nI_ne0 hb hb2, h⟩
theorem wy_rest {a b : Nat} (ha : a < 2 ^ 31) (hb : 0 < b) (hb2 : b < 2 ^ 31) (h : post (nI (a % b))) : wpY_rest post (nI n, nI d, e, yo, yt, ya) (nI a) (nI b) := by
  unfold wpY_rest
  dsimp only
  rw [pk_rem ha hb hb2]
  exact br_t (nI_le (a := 1) hb hb2) ⟨nI_ne0 hb hb2, h⟩
theorem wy_two_g {j : Nat} (hd : d ≤ 3) (hj : j < d * d) (h : post 0) : wpY_badValues post (nI n, nI d, e, yo, yt, ya) (nI j) := by
  have h9 := ws_le9 hd
  unfold wpY_badValues
  dsimp only
  rw [pk_mul, ws_m1 (by omega)]
  exact br_f (nI_pos (by omega)) (br_t (nI_le (by omega) (by omega)) h)
theorem ws_nle {m : Nat} {x : Int32} (hm : 0 < m) (hm2 : m < 2 ^ 31) (h : nI m ≤ x) : ¬ x ≤ nI (m - 1) := fun z => nI_ge (a := m - 1) (b := m) (by omega) hm2 (Int32.le_trans h z)
theorem wy_two_b {x : Int32} (hd2 : 2 ≤ d) (hd : d ≤ 3) (hx : ws_vb (d * d) x) (h : post 1) : wpY_badValues post (nI n, nI d, e, yo, yt, ya) x := by
  have h9 := ws_le9 hd
  have h4 : 2 * 2 ≤ d * d := Nat.mul_le_mul hd2 hd2
  unfold wpY_badValues
  dsimp only
  rw [pk_mul, ws_m1 (by omega)]
  exact hx.elim (fun z => br_t z h) (fun z => br_c (fun _ => h) (fun _ => br_f (ws_nle (by omega) (by omega) z) h))
theorem wy_pair_g {u v : Nat} (hn2 : 2 ≤ n) (hn : n ≤ 6) (hu : u < n) (hv : v < n) (huv : u ≠ v) (h : post 0) : wpY_badPair post (nI n, nI d, e, yo, yt, ya) (nI (n * u + v)) := by
  have h36 := ws_le36 hn
  have hlt := ws_lt2 hu hv
  have z := ws_dm (a := u) hv
  have hne : ¬ nI u = nI v := by
    rw [nI_eq (by omega) (by omega)]
    exact huv
  unfold wpY_badPair
  dsimp only
  rw [pk_mul, ws_m1 (by omega)]
  refine br_f (nI_pos (by omega)) (br_t (nI_le (by omega) (by omega)) (wy_over (by omega) (by omega) (by omega) (wy_rest (by omega) (by omega) (by omega) ?_)))
  rw [z.1, z.2]
  exact br_f hne h
theorem wy_pair_b {x : Int32} (hn2 : 2 ≤ n) (hn : n ≤ 6) (hx : ws_pb n x) (h : post 1) : wpY_badPair post (nI n, nI d, e, yo, yt, ya) x := by
  have h36 := ws_le36 hn
  have h4 : 2 * 2 ≤ n * n := Nat.mul_le_mul hn2 hn2
  unfold wpY_badPair
  dsimp only
  rw [pk_mul, ws_m1 (by omega)]
  rcases hx with (z | z) | ⟨j, hj, rfl, hjj⟩
  · exact br_t z h
  · exact br_c (fun _ => h) (fun _ => br_f (ws_nle (by omega) (by omega) z) h)
  · refine br_f (nI_pos (by omega)) (br_t (nI_le (by omega) (by omega)) (wy_over (by omega) (by omega) (by omega) (wy_rest (by omega) (by omega) (by omega) ?_)))
    rw [hjj]
    exact br_t rfl h
theorem wy_place {u v a b : Nat} (hn : n ≤ 6) (hd : d ≤ 3) (hu : u < n) (hv : v < n) (ha : a < d) (hb : b < d) (h : post (nI (ws_py u v a b))) : wpY_placeOf post (nI n, nI d, e, yo, yt, ya) (nI (n * u + v)) (nI (d * a + b)) := by
  have h36 := ws_le36 hn
  have h9 := ws_le9 hd
  have hlt := ws_lt2 hu hv
  have hlt2 := ws_lt2 ha hb
  have z := ws_dm (a := u) hv
  have y := ws_dm (a := a) hb
  unfold wpY_placeOf
  dsimp only
  refine wy_over (by omega) (by omega) (by omega) (wy_rest (by omega) (by omega) (by omega) (wy_over (by omega) (by omega) (by omega) (wy_rest (by omega) (by omega) (by omega) ?_)))
  rw [z.1, z.2, y.1, y.2]
  unfold wpY_place
  dsimp only
  rw [ws_pyI]
  exact h
theorem wy_mirr {u v a b : Nat} (hn : n ≤ 6) (hd : d ≤ 3) (hu : u < n) (hv : v < n) (ha : a < d) (hb : b < d) (h : post (nI (ws_py v u b a))) : wpY_mirrored post (nI n, nI d, e, yo, yt, ya) (nI (n * u + v)) (nI (d * a + b)) := by
  have h36 := ws_le36 hn
  have h9 := ws_le9 hd
  have hlt := ws_lt2 hu hv
  have hlt2 := ws_lt2 ha hb
  have z := ws_dm (a := u) hv
  have y := ws_dm (a := a) hb
  unfold wpY_mirrored
  dsimp only
  refine wy_over (by omega) (by omega) (by omega) (wy_rest (by omega) (by omega) (by omega) (wy_over (by omega) (by omega) (by omega) (wy_rest (by omega) (by omega) (by omega) ?_)))
  rw [z.1, z.2, y.1, y.2]
  unfold wpY_place
  dsimp only
  rw [ws_pyI]
  exact h
theorem wy_val_l (x v : Nat) (hn : n ≤ 6) (hd2 : 2 ≤ d) (hd : d ≤ 3) (hx : x < 2 ^ 31) (h : post (nI (ws_val n d x v))) : ∀ j fuel, v + j < n → j < fuel → wY_value_10 post (nI v) (nI n) (nI d) e yo yt ya fuel (nI (ws_R n d x (v + j + 1))) (nI (v + j)) := by
  intro j
  induction j with
  | zero =>
    intro fuel hj hf
    obtain ⟨m, rfl⟩ : ∃ m, fuel = m + 1 := ⟨fuel - 1, by omega⟩
    have hR := ws_R_le n d x (v + 0 + 1)
    exact br_t (nI_le (by omega) (by omega)) (wy_rest (by omega) (by omega) (by omega) h)
  | succ j ih =>
    intro fuel hj hf
    obtain ⟨m, rfl⟩ : ∃ m, fuel = m + 1 := ⟨fuel - 1, by omega⟩
    have hR := ws_R_le n d x (v + (j + 1) + 1)
    refine br_f (nI_ge (by omega) (by omega)) (wy_over (by omega) (by omega) (by omega) (fun t et => ?_))
    rw [ws_R_dn (by omega)]
    have et' : t = nI (v + j) := et.trans (pk_m1 (v + j))
    rw [et']
    exact ih m (by omega) (by omega)
theorem wy_val {x v : Nat} (hn : n ≤ 6) (hd2 : 2 ≤ d) (hd : d ≤ 3) (hx : x < 2 ^ 31) (hv : v < n) (h : post (nI (ws_val n d x v))) : wpY_value post (nI n, nI d, e, yo, yt, ya) (nI x) (nI v) := by
  unfold wpY_value
  dsimp only
  refine nm_r (ws_m1 (by omega)) ⟨n + 1, ?_⟩
  have z := wy_val_l (e := e) (yo := yo) (yt := yt) (ya := ya) x v hn hd2 hd hx h (n - 1 - v) (n + 1) (by omega) (by omega)
  rw [show v + (n - 1 - v) + 1 = n from by omega, show v + (n - 1 - v) = n - 1 from by omega, ws_R_top] at z
  exact z
end
end
section
/-! Y: the cost of a number -/
section
variable {post : Int32 → Prop} {n d : Nat} {e : Int32} {U : Nat → Nat → Nat} {B : Nat → Nat → Nat → Nat → Nat} {A : Nat → Nat} {yo yt ya : Nat → Int32}
theorem wy_row_l (W : ws_wf n d U B A) (Y : ws_Y n d U B A yo yt ya) (x u s0 : Nat) (hx : x < 2 ^ 31) (hu : u < n) (J : Int32 → Int32 → Prop) (hJ : ws_fbY n d B x u n = false → J (nI (s0 + ws_rsY n d B x u n)) (nI (u + 1))) (hP : ws_fbY n d B x u n = true → post (-2)) : ∀ m v fuel, v + m = n → m < fuel → u < v → ws_fbY n d B x u v = false → wY_cost_81 post J (nI x) (nI u) (nI (ws_val n d x u)) (nI n) (nI d) e yo yt ya fuel (nI (s0 + ws_rsY n d B x u v)) (nI v) := by
  obtain ⟨⟨hn2, hn6⟩, ⟨hd2, hd3⟩, hU, hB, hA⟩ := W
  intro m
  induction m with
  | zero =>
    intro v fuel hv hf huv hb
    obtain ⟨m, rfl⟩ : ∃ m, fuel = m + 1 := ⟨fuel - 1, by omega⟩
    have hvn : v = n := hv
    rw [hvn] at hb ⊢
    refine br_t (nI_le (Nat.le_refl _) (by omega)) (fun t et => ?_)
    rw [et, nI_1 u]
    exact hJ hb
  | succ m ih =>
    intro v fuel hv hf huv hb
    obtain ⟨f', rfl⟩ : ∃ m, fuel = m + 1 := ⟨fuel - 1, by omega⟩
    have hwu := ws_val_lt (n := n) (x := x) (v := u) hd2
    have hwv := ws_val_lt (n := n) (x := x) (v := v) hd2
    have hp := ws_py_lt (u := u) (v := v) (a := ws_val n d x u) (b := ws_val n d x v) (by omega) (by omega) (by omega) (by omega)
    refine br_f (nI_ge (a := v) (b := n) (by omega) (by omega)) (br_f (nI_ge (a := v) (b := 6) (by omega) (by decide)) (wy_val hn6 hd2 hd3 hx (by omega) ?_))
    rw [ws_pyI]
    refine ⟨vp_in_nI hp (by decide), fun c ec => ?_⟩
    rw [nI_clamp (by omega), Y.2.1 u v _ _ hu (by omega) (by omega) hwu hwv, ws_Br_lt huv] at ec
    have ec' : c = nI (ws_f n d B x u v) := ec
    have hf99 : ws_f n d B x u v ≤ 99 := hB _ _ _ _
    rw [ec']
    by_cases h9 : ws_f n d B x u v = 99
    · refine br_t (by rw [h9]; rfl) (hP ?_)
      exact ws_an_mem (i := v) (by omega) (by rw [decide_eq_true huv, decide_eq_true h9]; rfl)
    · refine br_f (fun z => h9 ((nI_eq (b := 99) (by omega) (by decide)).mp z)) (fun s es t et => ?_)
      rw [nI_add] at es
      rw [es, et, nI_1 v]
      have e1 : s0 + ws_rsY n d B x u v + ws_f n d B x u v = s0 + ws_rsY n d B x u (v + 1) := by
        have e2 : ws_rsY n d B x u (v + 1) = ws_rsY n d B x u v + (if u < v then ws_f n d B x u v else 0) := rfl
        rw [e2, if_pos huv, Nat.add_assoc]
      rw [e1]
      exact ih (v + 1) f' (by omega) (by omega) (by omega) (ws_an_s hb (by rw [decide_eq_false h9, Bool.and_false]))
theorem wy_cost_l (W : ws_wf n d U B A) (Y : ws_Y n d U B A yo yt ya) (x : Nat) (hx : x < 2 ^ 31) (h1 : ws_badY n d U B A x n = false → post (nI (ws_totY n d U B x n))) (h2 : ws_badY n d U B A x n = true → post (-2)) : ∀ m u fuel, u + m = n → m < fuel → ws_badY n d U B A x u = false → wY_cost_4 post (nI x) (nI n) (nI d) e yo yt ya fuel (nI (ws_totY n d U B x u)) (nI u) := by
  have W' := W
  obtain ⟨⟨hn2, hn6⟩, ⟨hd2, hd3⟩, hU, hB, hA⟩ := W
  intro m
  induction m with
  | zero =>
    intro u fuel hu hf hb
    obtain ⟨m, rfl⟩ : ∃ m, fuel = m + 1 := ⟨fuel - 1, by omega⟩
    have hun : u = n := hu
    rw [hun] at hb ⊢
    exact br_t (nI_le (Nat.le_refl _) (by omega)) (h1 hb)
  | succ m ih =>
    intro u fuel hu hf hb
    obtain ⟨f', rfl⟩ : ∃ m, fuel = m + 1 := ⟨fuel - 1, by omega⟩
    have hw := ws_val_lt (n := n) (x := x) (v := u) hd2
    refine br_f (nI_ge (a := u) (b := n) (by omega) (by omega)) (br_f (nI_ge (a := u) (b := 6) (by omega) (by decide)) (wy_val hn6 hd2 hd3 hx (by omega) ?_))
    refine ⟨vp_in_nI (by omega) (by decide), ?_⟩
    rw [nI_clamp (by omega), Y.2.2 u (by omega), ws_bit (A u) (hA u) _ (by omega), ws_ouI]
    have hm : ws_al n d A x u < 2 := Nat.mod_lt _ (by decide)
    show (nI (ws_al n d A x u) = 0 → _) ∧ (¬ nI (ws_al n d A x u) = 0 → _)
    by_cases z : ws_al n d A x u = 0
    · refine br_t (by rw [z]; rfl) (h2 ?_)
      exact ws_an_mem (i := u) (by omega) (by unfold ws_ub; rw [decide_eq_true z]; rfl)
    · refine br_f (nI_ne0 (by omega) (by omega)) ⟨vp_in_nI (by omega) (by decide), ?_⟩
      rw [nI_clamp (by omega), Y.1 u _ (by omega) hw]
      have hg : ws_g n d U x u ≤ 99 := hU _ _
      show (nI (ws_g n d U x u) = 99 → _) ∧ (¬ nI (ws_g n d U x u) = 99 → _)
      by_cases h9 : ws_g n d U x u = 99
      · refine br_t (by rw [h9]; rfl) (h2 ?_)
        exact ws_an_mem (i := u) (by omega) (by unfold ws_ub; rw [decide_eq_true h9, Bool.or_true]; rfl)
      · refine br_f (fun z => h9 ((nI_eq (b := 99) (by omega) (by decide)).mp z)) ⟨vp_in_nI (by omega) (by decide), fun s es t et => ⟨n + 1, ?_⟩⟩
        have es' : s = nI (ws_totY n d U B x u + ws_g n d U x u) := es.trans (nI_add _ _)
        have hub : ws_ub n d U A x u = false := by
          unfold ws_ub
          rw [decide_eq_false z, decide_eq_false h9]
          rfl
        have hr0 : ws_rsY n d B x u (u + 1) = 0 := ws_sm_zero (fun i hi => if_neg (by omega))
        have hf0 : ws_fbY n d B x u (u + 1) = false := ws_an_none (fun i hi => by rw [decide_eq_false (show ¬ u < i by omega), Bool.false_and])
        rw [es', et, nI_1 u]
        have R := wy_row_l (post := post) (e := e) W' Y x u (ws_totY n d U B x u + ws_g n d U x u) hx (by omega) (wY_cost_4 post (nI x) (nI n) (nI d) e yo yt ya f')
          (fun hfb => by
            have e1 : ws_totY n d U B x u + ws_g n d U x u + ws_rsY n d B x u n = ws_totY n d U B x (u + 1) := by
              have e2 : ws_totY n d U B x (u + 1) = ws_totY n d U B x u + (ws_g n d U x u + ws_rsY n d B x u n) := rfl
              rw [e2, Nat.add_assoc]
            rw [e1]
            exact ih (u + 1) f' (by omega) (by omega) (ws_an_s hb (by rw [hub, hfb]; rfl)))
          (fun hfb => h2 (ws_an_mem (i := u) (by omega) (by rw [hfb, Bool.or_true])))
          (n - (u + 1)) (u + 1) (n + 1) (by omega) (by omega) (by omega) hf0
        rw [hr0, Nat.add_zero] at R
        exact R
theorem wy_cost (W : ws_wf n d U B A) (Y : ws_Y n d U B A yo yt ya) {x : Nat} (hx : x < 2 ^ 31) (h : post (ws_en (-2) (ws_co n d U B A x))) : wpY_cost post (nI n, nI d, e, yo, yt, ya) (nI x) := by
  rw [ws_en_co] at h
  unfold wpY_cost
  dsimp only
  exact ⟨n + 1, wy_cost_l W Y x hx
    (fun hb => by
      rw [ws_badY_eq] at hb
      rw [ws_cv_f hb] at h
      rw [ws_totY_eq]
      exact h)
    (fun hb => by
      rw [ws_badY_eq] at hb
      rw [ws_cv_t hb] at h
      exact h) n 0 (n + 1) (by omega) (by omega) rfl⟩
end
end
section
/-! Y: the loops over all numbers -/
theorem ws_hitY {K1 K0 : Prop} {c L : Option Nat} (hc : ∀ a, c = some a → a ≤ 4158) (hL : ∀ a, L = some a → a ≤ 4158) (h1 : ws_hit L c = true → K1) (h0 : ws_hit L c = false → K0) : (ws_en (-2) c < 0 → K0) ∧ (¬ ws_en (-2) c < 0 → ((ws_en (-2) c = ws_en (-1) L → K1) ∧ (¬ ws_en (-2) c = ws_en (-1) L → K0))) := by
  cases c with
  | none => exact br_t (by decide) (h0 rfl)
  | some k =>
    have hk := hc k rfl
    refine br_f (nI_pos (by omega)) ?_
    cases L with
    | none => exact br_f (ws_ne1 (by omega)) (h0 (by simp [ws_hit]))
    | some m =>
      have hm := hL m rfl
      by_cases z : k = m
      · rw [z]
        exact br_t rfl (h1 (by rw [z, ws_hit_s]))
      · exact br_f (fun y => z ((nI_eq (a := k) (b := m) (by omega) (by omega)).mp y)) (h0 (ws_hit_n z))
section
variable {post : Int32 → Prop} {n d : Nat} {U : Nat → Nat → Nat} {B : Nat → Nat → Nat → Nat → Nat} {A : Nat → Nat} {yo yt ya : Nat → Int32}
theorem wy_best (W : ws_wf n d U B A) (Y : ws_Y n d U B A yo yt ya) (h : post (ws_en (-1) (ws_mn (ws_co n d U B A) (d ^ n)))) : wpY_best post (nI n, nI d, nI (d ^ n), yo, yt, ya) := by
  have hall := ws_pow W.1.2 W.2.1.2
  unfold wpY_best
  dsimp only
  obtain ⟨m, hm⟩ := loop_0 (fun fuel i s => wY_best_4 post (nI n) (nI d) (nI (d ^ n)) yo yt ya fuel s (nI i)) (fun i s => s = ws_en (-1) (ws_mn (ws_co n d U B A) i)) (d ^ n) (-1) rfl
    (fun m s hs => by
      rw [hs]
      exact br_t (nI_le (Nat.le_refl _) (by omega)) h)
    (fun m i s hi hs hk => by
      have hK : ∀ z, z = ws_en (-1) (ws_mn (ws_co n d U B A) (i + 1)) → ∀ t, t = nI i + 1 → wY_best_4 post (nI n) (nI d) (nI (d ^ n)) yo yt ya m z t := fun z hz t et => by
        rw [et, nI_1 i]
        exact hk z hz
      have e1 : ws_mn (ws_co n d U B A) (i + 1) = ws_st (ws_mn (ws_co n d U B A) i) (ws_co n d U B A i) := rfl
      rw [hs]
      refine br_f (nI_ge hi (by omega)) (wy_cost W Y (by omega) ?_)
      cases hco : ws_co n d U B A i with
      | none =>
        rw [hco] at e1
        exact br_t (by decide) (hK _ (by rw [e1]; rfl))
      | some c =>
        have hc := ws_cob W i c hco
        rw [hco] at e1
        exact br_f (nI_pos (by omega)) (ws_upY (K := fun z => ∀ t, t = nI i + 1 → wY_best_4 post (nI n) (nI d) (nI (d ^ n)) yo yt ya m z t) (by decide) (fun a ha => ws_mn_le (ws_cob W) ha) hc (hK _ (by rw [e1]))))
  exact ⟨m, hm⟩
theorem wy_next (W : ws_wf n d U B A) (Y : ws_Y n d U B A yo yt ya) {y : Int32} (h : post (ws_en (-1) (ws_mn (fun x => ws_of (fun c => decide (¬ nI c ≤ y)) (ws_co n d U B A x)) (d ^ n)))) : wpY_nextCost post (nI n, nI d, nI (d ^ n), yo, yt, ya) y := by
  have hall := ws_pow W.1.2 W.2.1.2
  have hb := ws_of_le (fun c => decide (¬ nI c ≤ y)) (ws_cob W)
  unfold wpY_nextCost
  dsimp only
  obtain ⟨m, hm⟩ := loop_0 (fun fuel i s => wY_nextCost_4 post y (nI n) (nI d) (nI (d ^ n)) yo yt ya fuel s (nI i)) (fun i s => s = ws_en (-1) (ws_mn (fun x => ws_of (fun c => decide (¬ nI c ≤ y)) (ws_co n d U B A x)) i)) (d ^ n) (-1) rfl
    (fun m s hs => by
      rw [hs]
      exact br_t (nI_le (Nat.le_refl _) (by omega)) h)
    (fun m i s hi hs hk => by
      have hK : ∀ z, z = ws_en (-1) (ws_mn (fun x => ws_of (fun c => decide (¬ nI c ≤ y)) (ws_co n d U B A x)) (i + 1)) → ∀ t, t = nI i + 1 → wY_nextCost_4 post y (nI n) (nI d) (nI (d ^ n)) yo yt ya m z t := fun z hz t et => by
        rw [et, nI_1 i]
        exact hk z hz
      have e1 : ws_mn (fun x => ws_of (fun c => decide (¬ nI c ≤ y)) (ws_co n d U B A x)) (i + 1) = ws_st (ws_mn (fun x => ws_of (fun c => decide (¬ nI c ≤ y)) (ws_co n d U B A x)) i) (ws_of (fun c => decide (¬ nI c ≤ y)) (ws_co n d U B A i)) := rfl
      rw [hs]
      refine br_f (nI_ge hi (by omega)) (wy_cost W Y (by omega) ?_)
      cases hco : ws_co n d U B A i with
      | none =>
        rw [hco] at e1
        exact br_t (by decide) (hK _ (by rw [e1]; rfl))
      | some c =>
        have hc := ws_cob W i c hco
        rw [hco] at e1
        have e2 : ws_of (fun c => decide (¬ nI c ≤ y)) (some c) = if decide (¬ nI c ≤ y) = true then some c else none := rfl
        refine br_f (nI_pos (by omega)) ?_
        by_cases hq : nI c ≤ y
        · rw [e2, if_neg (by simp [hq])] at e1
          exact br_t hq (hK _ (by rw [e1]; rfl))
        · rw [e2, if_pos (decide_eq_true hq)] at e1
          exact br_f hq (ws_upY (K := fun z => ∀ t, t = nI i + 1 → wY_nextCost_4 post y (nI n) (nI d) (nI (d ^ n)) yo yt ya m z t) (by decide) (fun a ha => ws_mn_le hb ha) hc (hK _ (by rw [e1]))))
  exact ⟨m, hm⟩
theorem wy_ct (W : ws_wf n d U B A) (Y : ws_Y n d U B A yo yt ya) {y : Int32} (h : post (nI (ws_sm (fun x => ws_b1 (ws_oq (fun c => decide (nI c ≤ y)) (ws_co n d U B A x))) (d ^ n)))) : wpY_countUpTo post (nI n, nI d, nI (d ^ n), yo, yt, ya) y := by
  have hall := ws_pow W.1.2 W.2.1.2
  unfold wpY_countUpTo
  dsimp only
  obtain ⟨m, hm⟩ := loop_0 (fun fuel i s => wY_countUpTo_4 post y (nI n) (nI d) (nI (d ^ n)) yo yt ya fuel s (nI i)) (fun i s => s = nI (ws_sm (fun x => ws_b1 (ws_oq (fun c => decide (nI c ≤ y)) (ws_co n d U B A x))) i)) (d ^ n) 0 rfl
    (fun m s hs => by
      rw [hs]
      exact br_t (nI_le (Nat.le_refl _) (by omega)) h)
    (fun m i s hi hs hk => by
      have hK : ∀ z, z = nI (ws_sm (fun x => ws_b1 (ws_oq (fun c => decide (nI c ≤ y)) (ws_co n d U B A x))) (i + 1)) → ∀ t, t = nI i + 1 → wY_countUpTo_4 post y (nI n) (nI d) (nI (d ^ n)) yo yt ya m z t := fun z hz t et => by
        rw [et, nI_1 i]
        exact hk z hz
      have e1 : ws_sm (fun x => ws_b1 (ws_oq (fun c => decide (nI c ≤ y)) (ws_co n d U B A x))) (i + 1) = ws_sm (fun x => ws_b1 (ws_oq (fun c => decide (nI c ≤ y)) (ws_co n d U B A x))) i + ws_b1 (ws_oq (fun c => decide (nI c ≤ y)) (ws_co n d U B A i)) := rfl
      rw [hs]
      refine br_f (nI_ge hi (by omega)) (wy_cost W Y (by omega) ?_)
      cases hco : ws_co n d U B A i with
      | none =>
        rw [hco] at e1
        exact br_t (by decide) (hK _ (by rw [e1]; rfl))
      | some c =>
        have hc := ws_cob W i c hco
        rw [hco] at e1
        have e2 : ws_oq (fun c => decide (nI c ≤ y)) (some c) = decide (nI c ≤ y) := rfl
        refine br_f (nI_pos (by omega)) ?_
        by_cases hq : y < nI c
        · rw [e2, decide_eq_false (Int32.not_le.mpr hq)] at e1
          exact br_t hq (hK _ (by rw [e1]; rfl))
        · rw [e2, decide_eq_true (Int32.not_lt.mp hq)] at e1
          refine br_f hq (fun z ez => hK z ?_)
          rw [ez, e1, nI_1]
          rfl)
  exact ⟨m, hm⟩
theorem wy_bc (W : ws_wf n d U B A) (Y : ws_Y n d U B A yo yt ya) {L : Option Nat} (hL : ∀ a, L = some a → a ≤ 4158) (h : post (nI (ws_sm (fun x => ws_b1 (ws_hit L (ws_co n d U B A x))) (d ^ n)))) : ∃ fuel, wY_bestCount_9 post (ws_en (-1) L) (nI n) (nI d) (nI (d ^ n)) yo yt ya fuel 0 0 := by
  have hall := ws_pow W.1.2 W.2.1.2
  obtain ⟨m, hm⟩ := loop_0 (fun fuel i s => wY_bestCount_9 post (ws_en (-1) L) (nI n) (nI d) (nI (d ^ n)) yo yt ya fuel s (nI i)) (fun i s => s = nI (ws_sm (fun x => ws_b1 (ws_hit L (ws_co n d U B A x))) i)) (d ^ n) 0 rfl
    (fun m s hs => by
      rw [hs]
      exact br_t (nI_le (Nat.le_refl _) (by omega)) h)
    (fun m i s hi hs hk => by
      have hK : ∀ z, z = nI (ws_sm (fun x => ws_b1 (ws_hit L (ws_co n d U B A x))) (i + 1)) → ∀ t, t = nI i + 1 → wY_bestCount_9 post (ws_en (-1) L) (nI n) (nI d) (nI (d ^ n)) yo yt ya m z t := fun z hz t et => by
        rw [et, nI_1 i]
        exact hk z hz
      have e1 : ws_sm (fun x => ws_b1 (ws_hit L (ws_co n d U B A x))) (i + 1) = ws_sm (fun x => ws_b1 (ws_hit L (ws_co n d U B A x))) i + ws_b1 (ws_hit L (ws_co n d U B A i)) := rfl
      rw [hs]
      refine br_f (nI_ge hi (by omega)) (wy_cost W Y (by omega) ?_)
      refine ws_hitY (fun a ha => ws_cob W i a ha) hL (fun z => ?_) (fun z => ?_)
      · rw [z] at e1
        refine fun s2 es2 => hK s2 ?_
        rw [es2, e1, nI_1]
        rfl
      · rw [z] at e1
        exact hK _ (by rw [e1]; rfl))
  exact ⟨m, hm⟩
theorem wy_bv_t (W : ws_wf n d U B A) (Y : ws_Y n d U B A yo yt ya) {L : Option Nat} (hL : ∀ a, L = some a → a ≤ 4158) {v i0 : Nat} (hv : v < n) (hi0 : i0 < d ^ n) (h0 : ws_hit L (ws_co n d U B A i0) = true) (hl : ∀ j, j < i0 → ¬ ws_hit L (ws_co n d U B A j) = true) (h : post (nI (ws_val n d i0 v))) : ∃ fuel, wY_bestValue_17 post (nI v) (ws_en (-1) L) (nI n) (nI d) (nI (d ^ n)) yo yt ya fuel 0 := by
  have hall := ws_pow W.1.2 W.2.1.2
  have key : ∀ k i fuel, i + k = i0 → k < fuel → wY_bestValue_17 post (nI v) (ws_en (-1) L) (nI n) (nI d) (nI (d ^ n)) yo yt ya fuel (nI i) := by
    intro k
    induction k with
    | zero =>
      intro i fuel hi hf
      obtain ⟨m, rfl⟩ : ∃ m, fuel = m + 1 := ⟨fuel - 1, by omega⟩
      have hii : i = i0 := hi
      rw [hii]
      refine br_f (nI_ge hi0 (by omega)) (wy_cost W Y (by omega) ?_)
      refine ws_hitY (fun a ha => ws_cob W i0 a ha) hL (fun z => ?_) (fun z => ?_)
      · exact wy_val W.1.2 W.2.1.1 W.2.1.2 (by omega) hv h
      · rw [h0] at z
        cases z
    | succ k ih =>
      intro i fuel hi hf
      obtain ⟨m, rfl⟩ : ∃ m, fuel = m + 1 := ⟨fuel - 1, by omega⟩
      refine br_f (nI_ge (a := i) (b := d ^ n) (by omega) (by omega)) (wy_cost W Y (by omega) ?_)
      refine ws_hitY (fun a ha => ws_cob W i a ha) hL (fun z => absurd z (hl i (by omega))) (fun z t et => ?_)
      rw [et, nI_1 i]
      exact ih (i + 1) m (by omega) (by omega)
  exact ⟨i0 + 1, key i0 0 (i0 + 1) (by omega) (by omega)⟩
theorem wy_bv_f (W : ws_wf n d U B A) (Y : ws_Y n d U B A yo yt ya) {L : Option Nat} (hL : ∀ a, L = some a → a ≤ 4158) {v : Nat} (hl : ∀ j, j < d ^ n → ¬ ws_hit L (ws_co n d U B A j) = true) (h : post (-2)) : ∃ fuel, wY_bestValue_17 post (nI v) (ws_en (-1) L) (nI n) (nI d) (nI (d ^ n)) yo yt ya fuel 0 := by
  have hall := ws_pow W.1.2 W.2.1.2
  have key : ∀ k i fuel, i + k = d ^ n → k < fuel → wY_bestValue_17 post (nI v) (ws_en (-1) L) (nI n) (nI d) (nI (d ^ n)) yo yt ya fuel (nI i) := by
    intro k
    induction k with
    | zero =>
      intro i fuel hi hf
      obtain ⟨m, rfl⟩ : ∃ m, fuel = m + 1 := ⟨fuel - 1, by omega⟩
      exact br_t (nI_le (by omega) (by omega)) h
    | succ k ih =>
      intro i fuel hi hf
      obtain ⟨m, rfl⟩ : ∃ m, fuel = m + 1 := ⟨fuel - 1, by omega⟩
      refine br_f (nI_ge (a := i) (b := d ^ n) (by omega) (by omega)) (wy_cost W Y (by omega) ?_)
      refine ws_hitY (fun a ha => ws_cob W i a ha) hL (fun z => absurd z (hl i (by omega))) (fun z t et => ?_)
      rw [et, nI_1 i]
      exact ih (i + 1) m (by omega) (by omega)
  exact ⟨d ^ n + 1, key (d ^ n) 0 (d ^ n + 1) (by omega) (by omega)⟩
theorem wy_bw (W : ws_wf n d U B A) (Y : ws_Y n d U B A yo yt ya) {v a : Nat} (hv : v < n) (ha : a < d) (h : post (ws_en (-3) (ws_mn (ws_pw (ws_co n d U B A) (fun x => ws_val n d x v) (fun x => ws_val n d x v) a a) (d ^ n)))) : ∃ fuel, wY_bestWith_27 post (nI v) (nI a) (nI n) (nI d) (nI (d ^ n)) yo yt ya fuel (-3) 0 := by
  have hall := ws_pow W.1.2 W.2.1.2
  have hb2 := ws_pw_le (w1 := fun x => ws_val n d x v) (w2 := fun x => ws_val n d x v) (a := a) (b := a) (ws_cob W)
  have hn6 := W.1.2
  have hd2 := W.2.1.1
  have hd3 := W.2.1.2
  obtain ⟨m, hm⟩ := loop_0 (fun fuel i s => wY_bestWith_27 post (nI v) (nI a) (nI n) (nI d) (nI (d ^ n)) yo yt ya fuel s (nI i)) (fun i s => s = ws_en (-3) (ws_mn (ws_pw (ws_co n d U B A) (fun x => ws_val n d x v) (fun x => ws_val n d x v) a a) i)) (d ^ n) (-3) rfl
    (fun m s hs => by
      rw [hs]
      exact br_t (nI_le (Nat.le_refl _) (by omega)) h)
    (fun m i s hi hs hk => by
      have hK : ∀ z, z = ws_en (-3) (ws_mn (ws_pw (ws_co n d U B A) (fun x => ws_val n d x v) (fun x => ws_val n d x v) a a) (i + 1)) → ∀ t, t = nI i + 1 → wY_bestWith_27 post (nI v) (nI a) (nI n) (nI d) (nI (d ^ n)) yo yt ya m z t := fun z hz t et => by
        rw [et, nI_1 i]
        exact hk z hz
      have e1 : ws_mn (ws_pw (ws_co n d U B A) (fun x => ws_val n d x v) (fun x => ws_val n d x v) a a) (i + 1) = ws_st (ws_mn (ws_pw (ws_co n d U B A) (fun x => ws_val n d x v) (fun x => ws_val n d x v) a a) i) (ws_pw (ws_co n d U B A) (fun x => ws_val n d x v) (fun x => ws_val n d x v) a a i) := rfl
      have e2 : ws_pw (ws_co n d U B A) (fun x => ws_val n d x v) (fun x => ws_val n d x v) a a i = if ws_val n d i v = a ∧ ws_val n d i v = a then ws_co n d U B A i else none := rfl
      have hwv := ws_val_lt (n := n) (x := i) (v := v) hd2
      rw [hs]
      refine br_f (nI_ge hi (by omega)) (wy_cost W Y (by omega) ?_)
      cases hco : ws_co n d U B A i with
      | none =>
        rw [e2, hco, ite_self] at e1
        exact br_t (by decide) (hK _ (by rw [e1]; rfl))
      | some c =>
        have hc := ws_cob W i c hco
        refine br_f (nI_pos (by omega)) (wy_val hn6 hd2 hd3 (by omega) hv ?_)
        by_cases h2 : ws_val n d i v = a
        · rw [e2, if_pos ⟨h2, h2⟩, hco] at e1
          exact br_t (congrArg nI h2) (ws_upY (K := fun z => ∀ t, t = nI i + 1 → wY_bestWith_27 post (nI v) (nI a) (nI n) (nI d) (nI (d ^ n)) yo yt ya m z t) (by decide) (fun a ha => ws_mn_le hb2 ha) hc (hK _ (by rw [e1])))
        · rw [e2, if_neg (fun z => h2 z.2)] at e1
          exact br_f (fun z => h2 ((nI_eq (by omega) (by omega)).mp z)) (hK _ (by rw [e1]; rfl)))
  exact ⟨m, hm⟩
theorem wy_bp (W : ws_wf n d U B A) (Y : ws_Y n d U B A yo yt ya) {u a v b : Nat} (hu : u < n) (hv : v < n) (ha : a < d) (hb : b < d) (h : post (ws_en (-3) (ws_mn (ws_pw (ws_co n d U B A) (fun x => ws_val n d x u) (fun x => ws_val n d x v) a b) (d ^ n)))) : ∃ fuel, wY_bestWithPair_71 post (nI u) (nI v) (nI a) (nI b) (nI n) (nI d) (nI (d ^ n)) yo yt ya fuel (-3) 0 := by
  have hall := ws_pow W.1.2 W.2.1.2
  have hb2 := ws_pw_le (w1 := fun x => ws_val n d x u) (w2 := fun x => ws_val n d x v) (a := a) (b := b) (ws_cob W)
  have hn6 := W.1.2
  have hd2 := W.2.1.1
  have hd3 := W.2.1.2
  obtain ⟨m, hm⟩ := loop_0 (fun fuel i s => wY_bestWithPair_71 post (nI u) (nI v) (nI a) (nI b) (nI n) (nI d) (nI (d ^ n)) yo yt ya fuel s (nI i)) (fun i s => s = ws_en (-3) (ws_mn (ws_pw (ws_co n d U B A) (fun x => ws_val n d x u) (fun x => ws_val n d x v) a b) i)) (d ^ n) (-3) rfl
    (fun m s hs => by
      rw [hs]
      exact br_t (nI_le (Nat.le_refl _) (by omega)) h)
    (fun m i s hi hs hk => by
      have hK : ∀ z, z = ws_en (-3) (ws_mn (ws_pw (ws_co n d U B A) (fun x => ws_val n d x u) (fun x => ws_val n d x v) a b) (i + 1)) → ∀ t, t = nI i + 1 → wY_bestWithPair_71 post (nI u) (nI v) (nI a) (nI b) (nI n) (nI d) (nI (d ^ n)) yo yt ya m z t := fun z hz t et => by
        rw [et, nI_1 i]
        exact hk z hz
      have e1 : ws_mn (ws_pw (ws_co n d U B A) (fun x => ws_val n d x u) (fun x => ws_val n d x v) a b) (i + 1) = ws_st (ws_mn (ws_pw (ws_co n d U B A) (fun x => ws_val n d x u) (fun x => ws_val n d x v) a b) i) (ws_pw (ws_co n d U B A) (fun x => ws_val n d x u) (fun x => ws_val n d x v) a b i) := rfl
      have e2 : ws_pw (ws_co n d U B A) (fun x => ws_val n d x u) (fun x => ws_val n d x v) a b i = if ws_val n d i u = a ∧ ws_val n d i v = b then ws_co n d U B A i else none := rfl
      have hwu := ws_val_lt (n := n) (x := i) (v := u) hd2
      have hwv := ws_val_lt (n := n) (x := i) (v := v) hd2
      rw [hs]
      refine br_f (nI_ge hi (by omega)) (wy_cost W Y (by omega) ?_)
      cases hco : ws_co n d U B A i with
      | none =>
        rw [e2, hco, ite_self] at e1
        exact br_t (by decide) (hK _ (by rw [e1]; rfl))
      | some c =>
        have hc := ws_cob W i c hco
        refine br_f (nI_pos (by omega)) (wy_val hn6 hd2 hd3 (by omega) hu ?_)
        by_cases h1 : ws_val n d i u = a
        · refine br_t (congrArg nI h1) (wy_val hn6 hd2 hd3 (by omega) hv ?_)
          by_cases h2 : ws_val n d i v = b
          · rw [e2, if_pos ⟨h1, h2⟩, hco] at e1
            exact br_t (congrArg nI h2) (ws_upY (K := fun z => ∀ t, t = nI i + 1 → wY_bestWithPair_71 post (nI u) (nI v) (nI a) (nI b) (nI n) (nI d) (nI (d ^ n)) yo yt ya m z t) (by decide) (fun a ha => ws_mn_le hb2 ha) hc (hK _ (by rw [e1])))
          · rw [e2, if_neg (fun z => h2 z.2)] at e1
            exact br_f (fun z => h2 ((nI_eq (by omega) (by omega)).mp z)) (hK _ (by rw [e1]; rfl))
        · rw [e2, if_neg (fun z => h1 z.1)] at e1
          exact br_f (fun z => h1 ((nI_eq (by omega) (by omega)).mp z)) (hK _ (by rw [e1]; rfl)))
  exact ⟨m, hm⟩
theorem wy_ch (W : ws_wf n d U B A) (Y : ws_Y n d U B A yo yt ya) {L : Option Nat} (hL : ∀ a, L = some a → a ≤ 4158) {v : Nat} (hv : v < n) (h : post (nI (ws_b1 ((ws_mk (fun x => ws_hit L (ws_co n d U B A x)) (fun x => ws_val n d x v) (d ^ n)).testBit 0) + ws_b1 ((ws_mk (fun x => ws_hit L (ws_co n d U B A x)) (fun x => ws_val n d x v) (d ^ n)).testBit 1) + ws_b1 ((ws_mk (fun x => ws_hit L (ws_co n d U B A x)) (fun x => ws_val n d x v) (d ^ n)).testBit 2)))) : ∃ fuel, wY_choices_20 post (nI v) (ws_en (-1) L) (nI n) (nI d) (nI (d ^ n)) yo yt ya fuel 0 0 := by
  have hall := ws_pow W.1.2 W.2.1.2
  have hn6 := W.1.2
  have hd2 := W.2.1.1
  have hd3 := W.2.1.2
  have hlt := ws_mk_lt (q := fun x => ws_hit L (ws_co n d U B A x)) (w := fun x => ws_val n d x v) (fun i => Nat.lt_of_lt_of_le (ws_val_lt (n := n) (x := i) (v := v) hd2) hd3)
  obtain ⟨m, hm⟩ := loop_0 (fun fuel i s => wY_choices_20 post (nI v) (ws_en (-1) L) (nI n) (nI d) (nI (d ^ n)) yo yt ya fuel s (nI i)) (fun i s => s = nI (ws_mk (fun x => ws_hit L (ws_co n d U B A x)) (fun x => ws_val n d x v) i)) (d ^ n) 0 rfl
    (fun m s hs => by
      rw [hs]
      refine br_t (nI_le (Nat.le_refl _) (by omega)) ?_
      rw [ws_pop _ (hlt (d ^ n))]
      exact h)
    (fun m i s hi hs hk => by
      have hK : ∀ z, z = nI (ws_mk (fun x => ws_hit L (ws_co n d U B A x)) (fun x => ws_val n d x v) (i + 1)) → ∀ t, t = nI i + 1 → wY_choices_20 post (nI v) (ws_en (-1) L) (nI n) (nI d) (nI (d ^ n)) yo yt ya m z t := fun z hz t et => by
        rw [et, nI_1 i]
        exact hk z hz
      have e1 : ws_mk (fun x => ws_hit L (ws_co n d U B A x)) (fun x => ws_val n d x v) (i + 1) = if ws_hit L (ws_co n d U B A i) = true then ws_mk (fun x => ws_hit L (ws_co n d U B A x)) (fun x => ws_val n d x v) i ||| 2 ^ ws_val n d i v else ws_mk (fun x => ws_hit L (ws_co n d U B A x)) (fun x => ws_val n d x v) i := rfl
      have hwv := ws_val_lt (n := n) (x := i) (v := v) hd2
      rw [hs]
      refine br_f (nI_ge hi (by omega)) (wy_cost W Y (by omega) (wy_val hn6 hd2 hd3 (by omega) hv ?_))
      refine ws_hitY (fun a ha => ws_cob W i a ha) hL (fun z => ?_) (fun z => ?_)
      · rw [if_pos z] at e1
        refine fun s2 es2 => hK s2 ?_
        rw [es2, e1]
        exact (ws_or8 _ (hlt i) _ (by omega)).2
      · rw [if_neg (by rw [z]; decide)] at e1
        exact hK _ (by rw [e1]))
  exact ⟨m, hm⟩
end
end
section
/-! choices of X; relate and the constructors on both sides -/
section
variable {post : Int32 → Prop} {n d : Nat} {U : Nat → Nat → Nat} {B : Nat → Nat → Nat → Nat → Nat} {A : Nat → Nat} {xu xb xa : Nat → Int32}
theorem wx_ch (W : ws_wf n d U B A) (X : ws_X n d U B A xu xb xa) {v m0 : Nat} (hv : v < n) (hm0 : m0 ≤ 4158) (h : post (nI (ws_sm (fun a => ws_b1 (decide (ws_mn (ws_pw (ws_co n d U B A) (fun x => ws_val n d x v) (fun x => ws_val n d x v) a a) (d ^ n) = some m0))) d))) : ∃ fuel, wX_choices_28 post (nI v) (nI m0) (nI n) (nI d) (nI (d ^ n)) xu xb xa fuel 0 0 := by
  have hd3 := W.2.1.2
  obtain ⟨m, hm⟩ := loop_0 (fun fuel i s => wX_choices_28 post (nI v) (nI m0) (nI n) (nI d) (nI (d ^ n)) xu xb xa fuel s (nI i)) (fun i s => s = nI (ws_sm (fun a => ws_b1 (decide (ws_mn (ws_pw (ws_co n d U B A) (fun x => ws_val n d x v) (fun x => ws_val n d x v) a a) (d ^ n) = some m0))) i)) d 0 rfl
    (fun m s hs => by
      rw [hs]
      exact br_t (nI_le (Nat.le_refl _) (by omega)) h)
    (fun m i s hi hs hk => by
      have hK : ∀ z, z = nI (ws_sm (fun a => ws_b1 (decide (ws_mn (ws_pw (ws_co n d U B A) (fun x => ws_val n d x v) (fun x => ws_val n d x v) a a) (d ^ n) = some m0))) (i + 1)) → ∀ t, t = nI i + 1 → wX_choices_28 post (nI v) (nI m0) (nI n) (nI d) (nI (d ^ n)) xu xb xa m z t := fun z hz t et => by
        rw [et, nI_1 i]
        exact hk z hz
      have e1 : ws_sm (fun a => ws_b1 (decide (ws_mn (ws_pw (ws_co n d U B A) (fun x => ws_val n d x v) (fun x => ws_val n d x v) a a) (d ^ n) = some m0))) (i + 1) = ws_sm (fun a => ws_b1 (decide (ws_mn (ws_pw (ws_co n d U B A) (fun x => ws_val n d x v) (fun x => ws_val n d x v) a a) (d ^ n) = some m0))) i + ws_b1 (decide (ws_mn (ws_pw (ws_co n d U B A) (fun x => ws_val n d x v) (fun x => ws_val n d x v) i i) (d ^ n) = some m0)) := rfl
      have hb2 := ws_pw_le (w1 := fun x => ws_val n d x v) (w2 := fun x => ws_val n d x v) (a := i) (b := i) (ws_cob W)
      rw [hs]
      refine br_f (nI_ge hi (by omega)) (wx_lw W X hv hv hi hi ?_)
      by_cases z : ws_mn (ws_pw (ws_co n d U B A) (fun x => ws_val n d x v) (fun x => ws_val n d x v) i i) (d ^ n) = some m0
      · rw [decide_eq_true z] at e1
        rw [z]
        refine br_t rfl (fun s2 es2 => hK s2 ?_)
        rw [es2, e1, nI_1]
        rfl
      · rw [decide_eq_false z] at e1
        refine br_f ?_ (hK _ (by rw [e1]; rfl))
        cases hq : ws_mn (ws_pw (ws_co n d U B A) (fun x => ws_val n d x v) (fun x => ws_val n d x v) i i) (d ^ n) with
        | none => exact fun y => ws_ne1 (c := m0) (by omega) y.symm
        | some m1 =>
          have h1 := ws_mn_le hb2 hq
          intro y
          have y2 := (nI_eq (a := m1) (b := m0) (by omega) (by omega)).mp y
          exact z (by rw [hq, y2]))
  exact ⟨m, hm⟩
theorem wx_cell_j {e : Int32} {u v j : Nat} (hn2 : 2 ≤ n) (hn : n ≤ 6) (hd2 : 2 ≤ d) (hd : d ≤ 3) (hu : u < n) (hv : v < n) (huv : u ≠ v) (hj : j < d * d) (h : post (nI (ws_cl n d u v (j / d) (j % d)))) : wpX_binaryCell post (nI n, nI d, e, xu, xb, xa) (nI (n * u + v)) (nI j) := by
  obtain ⟨h1, h2, h3⟩ := ws_split hj
  have z := wx_cell (post := post) (e := e) (xu := xu) (xb := xb) (xa := xa) hn2 hn hd2 hd hu hv huv h1 h2 h
  rw [← h3] at z
  exact z
end
section
variable {n d : Nat} {e : Int32} {B : Nat → Nat → Nat → Nat → Nat}
theorem wx_relate_l {post : Int32 → SX → Prop} {xu xa : Nat → Int32} {u v k w : Nat} (hn2 : 2 ≤ n) (hn : n ≤ 6) (hd2 : 2 ≤ d) (hd : d ≤ 3) (hu : u < n) (hv : v < n) (huv : u ≠ v) (hk : k < 3) (hp : ∀ xb, ws_xb n d (ws_it d u v k w B (d * d)) xb → post 0 (nI n, nI d, e, xu, xb, xa)) : ∀ m j fuel xb, j + m = d * d → m < fuel → ws_xb n d (ws_it d u v k w B j) xb → wX_relate_38 post (nI (n * u + v)) (nI k) (nI w) (nI n) (nI d) e fuel (nI j) xu xb xa := by
  have h9 := ws_le9 hd
  intro m
  induction m with
  | zero =>
    intro j fuel xb hj hf hb
    obtain ⟨f', rfl⟩ : ∃ m, fuel = m + 1 := ⟨fuel - 1, by omega⟩
    have hjj : j = d * d := hj
    rw [hjj] at hb ⊢
    exact br_t (by rw [pk_mul]; exact nI_le (Nat.le_refl _) (by omega)) (hp xb hb)
  | succ m ih =>
    intro j fuel xb hj hf hb
    obtain ⟨f', rfl⟩ : ∃ m, fuel = m + 1 := ⟨fuel - 1, by omega⟩
    obtain ⟨h1, h2, h3⟩ := ws_split (n := d) (j := j) (by omega)
    have hc := ws_cl_lt (u := u) (v := v) hn hd hu hv h1 h2
    refine br_f (by rw [pk_mul]; exact nI_ge (a := j) (b := d * d) (by omega) (by omega)) (wx_cell_j hn2 hn hd2 hd hu hv huv (by omega) ?_)
    refine ⟨nI_ne0 (by omega) (by omega), nI_ne0 (by omega) (by omega), ?_⟩
    rw [pk_rem (by omega) (by omega) (by omega), pk_div (by omega) (by omega) (by omega)]
    refine wx_rel hk (by omega) (by omega) ⟨vp_in_nI hc (by decide), fun xb2 exb2 t et => ?_⟩
    rw [nI_clamp (by omega), pk_mul] at exb2
    rw [et, nI_1 j]
    refine ih (j + 1) f' xb2 (by omega) (by omega) ?_
    rw [exb2]
    exact ws_xb_w hb hu hv huv h1 h2
theorem wy_relate_111 {post : Int32 → SY → Prop} {J38 J50 : Int32 → (Nat → Int32) → (Nat → Int32) → (Nat → Int32) → Prop} {x2 : Int32} {yo yt ya : Nat → Int32} {u v w a b t : Nat} (hn : n ≤ 6) (hd : d ≤ 3) (hu : u < n) (hv : v < n) (ha : a < d) (hb : b < d) (hJ : J50 (nI (b + 1)) yo (upd (upd yt (ws_py u v a b) (nI (w * t))) (ws_py v u b a) (nI (w * t))) ya) : wY_relate_111 post J38 J50 (nI (n * u + v)) x2 (nI w) (nI a) (nI b) (nI t) (nI n) (nI d) e yo yt ya := by
  have hp1 := ws_py_lt (u := u) (v := v) (a := a) (b := b) (by omega) (by omega) (by omega) (by omega)
  have hp2 := ws_py_lt (u := v) (v := u) (a := b) (b := a) (by omega) (by omega) (by omega) (by omega)
  unfold wY_relate_111
  rw [show nI d * nI a + nI b = nI (d * a + b) from by rw [pk_mul, nI_add], pk_mul]
  refine wy_place hn hd hu hv ha hb (wy_mirr hn hd hu hv ha hb ⟨vp_in_nI hp1 (by decide), fun y1 e1 => ⟨vp_in_nI hp2 (by decide), fun y2 e2 s es => ?_⟩⟩)
  rw [nI_clamp (by omega)] at e1
  rw [nI_clamp (by omega)] at e2
  rw [es, e2, e1, nI_1 b]
  exact hJ
theorem wy_relate_50 {post : Int32 → SY → Prop} {J : Int32 → (Nat → Int32) → (Nat → Int32) → (Nat → Int32) → Prop} {yo ya : Nat → Int32} {u v k w a : Nat} (hn : n ≤ 6) (hd2 : 2 ≤ d) (hd : d ≤ 3) (hu : u < n) (hv : v < n) (huv : u ≠ v) (hk : k < 3) (ha : a < d) (hJ : ∀ yt, ws_yb n d (ws_it d u v k w B (d * (a + 1))) yt → J (nI (a + 1)) yo yt ya) : ∀ m b fuel yt, b + m = d → m < fuel → ws_yb n d (ws_it d u v k w B (d * a + b)) yt → wY_relate_50 post J (nI (n * u + v)) (nI k) (nI w) (nI a) (nI n) (nI d) e fuel (nI b) yo yt ya := by
  intro m
  induction m with
  | zero =>
    intro b fuel yt hb hf hy
    obtain ⟨f', rfl⟩ : ∃ m, fuel = m + 1 := ⟨fuel - 1, by omega⟩
    have hbd : b = d := hb
    refine br_t (nI_le (by omega) (by omega)) (fun t et => ?_)
    rw [et, nI_1 a]
    refine hJ yt ?_
    rw [hbd] at hy
    rw [Nat.mul_add, Nat.mul_one]
    exact hy
  | succ m ih =>
    intro b fuel yt hb hf hy
    obtain ⟨f', rfl⟩ : ∃ m, fuel = m + 1 := ⟨fuel - 1, by omega⟩
    have hbd : b < d := by omega
    have z := ws_dm (a := a) hbd
    have hnx : wY_relate_50 post J (nI (n * u + v)) (nI k) (nI w) (nI a) (nI n) (nI d) e f' (nI (b + 1)) yo (upd (upd yt (ws_py u v a b) (nI (w * ws_tt k a b))) (ws_py v u b a) (nI (w * ws_tt k a b))) ya := by
      refine ih (b + 1) f' _ (by omega) (by omega) ?_
      show ws_yb n d (ws_Bw (ws_it d u v k w B (d * a + b)) u v ((d * a + b) / d) ((d * a + b) % d) (w * ws_tt k ((d * a + b) / d) ((d * a + b) % d))) _
      rw [z.1, z.2]
      exact ws_yb_w hy hn hd hu hv huv ha hbd
    have G : ∀ t : Nat, t = ws_tt k a b → wY_relate_111 post J (wY_relate_50 post J (nI (n * u + v)) (nI k) (nI w) (nI a) (nI n) (nI d) e f') (nI (n * u + v)) (nI k) (nI w) (nI a) (nI b) (nI t) (nI n) (nI d) e yo yt ya := fun t et => by
      rw [et]
      exact wy_relate_111 hn hd hu hv ha hbd hnx
    refine br_f (nI_ge (a := b) (b := d) (by omega) (by omega)) (fun x6 e6 => ?_)
    rw [pk_mul] at e6
    rcases (by omega : k = 0 ∨ k = 1 ∨ k = 2) with rfl | rfl | rfl
    · refine br_t rfl (pk_le b a (fun y => ?_) (fun y => ?_))
      · unfold wY_relate_90 wY_relate_92
        refine br_f (by decide) ?_
        rw [pk_sub y]
        refine G (a - b) ?_
        show a - b = (if a < b then b - a else a - b)
        rw [if_neg (by omega)]
      · unfold wY_relate_90 wY_relate_92
        refine br_f (by decide) ?_
        rw [pk_sub (by omega)]
        refine G (b - a) ?_
        show b - a = (if a < b then b - a else a - b)
        rw [if_pos y]
    · unfold wY_relate_92 wY_relate_109
      refine br_f (by decide) (br_t rfl (pk_eq a b (fun y => ?_) (fun y => ?_)))
      · exact G 1 (if_pos y).symm
      · exact G 0 (if_neg y).symm
    · unfold wY_relate_92
      rw [e6]
      exact br_f (by decide) (br_f (by decide) (G (a * b) rfl))
theorem wy_relate_38 {post : Int32 → SY → Prop} {yo ya : Nat → Int32} {u v k w : Nat} (hn : n ≤ 6) (hd2 : 2 ≤ d) (hd : d ≤ 3) (hu : u < n) (hv : v < n) (huv : u ≠ v) (hk : k < 3) (hp : ∀ yt, ws_yb n d (ws_it d u v k w B (d * d)) yt → post 0 (nI n, nI d, e, yo, yt, ya)) : ∀ m a fuel yt, a + m = d → m < fuel → ws_yb n d (ws_it d u v k w B (d * a)) yt → wY_relate_38 post (nI (n * u + v)) (nI k) (nI w) (nI n) (nI d) e fuel (nI a) yo yt ya := by
  intro m
  induction m with
  | zero =>
    intro a fuel yt hb hf hy
    obtain ⟨f', rfl⟩ : ∃ m, fuel = m + 1 := ⟨fuel - 1, by omega⟩
    have had : a = d := hb
    rw [had] at hy ⊢
    exact br_t (nI_le (Nat.le_refl _) (by omega)) (hp yt hy)
  | succ m ih =>
    intro a fuel yt hb hf hy
    obtain ⟨f', rfl⟩ : ∃ m, fuel = m + 1 := ⟨fuel - 1, by omega⟩
    exact br_f (nI_ge (a := a) (b := d) (by omega) (by omega)) ⟨d + 1, wy_relate_50 hn hd2 hd hu hv huv hk (by omega) (fun yt2 hy2 => ih (a + 1) f' yt2 (by omega) (by omega) hy2) d 0 (d + 1) yt (by omega) (by omega) hy⟩
theorem ws_clamp (x : Int32) (lo hi : Nat) (h : lo ≤ hi) (hh : hi < 2 ^ 31) : ∃ j, lo ≤ j ∧ j ≤ hi ∧ ∀ F : Int32 → Prop, F (nI j) → ((nI lo ≤ x → ((x ≤ nI hi → F x) ∧ (¬ x ≤ nI hi → F (nI hi)))) ∧ (¬ nI lo ≤ x → F (nI lo))) := by
  by_cases h1 : nI lo ≤ x
  · by_cases h2 : x ≤ nI hi
    · have h0 : ¬ x < 0 := Int32.not_lt.mpr (Int32.le_trans (nI_pos' (by omega)) h1)
      obtain ⟨j, hj, e⟩ := nI_of h0
      have h3 : lo ≤ j := by
        rw [e, nI_leI (by omega) hj] at h1
        exact h1
      have h4 : j ≤ hi := by
        rw [e, nI_leI hj hh] at h2
        exact h2
      refine ⟨j, h3, h4, fun F hF => br_t h1 (br_t h2 ?_)⟩
      rw [e]
      exact hF
    · exact ⟨hi, h, Nat.le_refl _, fun F hF => br_t h1 (br_f h2 hF)⟩
  · exact ⟨lo, Nat.le_refl _, h, fun F hF => br_f h1 hF⟩
theorem ws_aa_s {i : Nat} {s : Nat} {al : Nat → Int32} (h : ws_aa i (fun _ => s) al) : ws_aa (i + 1) (fun _ => s) (upd al i (nI s)) := by
  intro v hv
  by_cases z : v = i
  · rw [z, pk_us]
  · rw [pk_un z]
    exact h v (by omega)
theorem wx_init_l {post : SX → Prop} {xu xb : Nat → Int32} (hn : n ≤ 6) (hd : d ≤ 3) (hp : ∀ xa, ws_aa n (fun _ => 2 ^ d - 1) xa → post (nI n, nI d, nI (d ^ n), xu, xb, xa)) : ∀ m i fuel xa, i + m = n → m < fuel → ws_aa i (fun _ => 2 ^ d - 1) xa → wX_init_55 post (nI n) (nI d) e fuel (nI (d ^ i)) (nI i) xu xb xa := by
  intro m
  induction m with
  | zero =>
    intro i fuel xa hi hf ha
    obtain ⟨f', rfl⟩ : ∃ m, fuel = m + 1 := ⟨fuel - 1, by omega⟩
    have hin : i = n := hi
    rw [hin] at ha ⊢
    exact br_t (nI_le (Nat.le_refl _) (by omega)) (hp xa ha)
  | succ m ih =>
    intro i fuel xa hi hf ha
    obtain ⟨f', rfl⟩ : ∃ m, fuel = m + 1 := ⟨fuel - 1, by omega⟩
    refine br_f (nI_ge (a := i) (b := n) (by omega) (by omega)) (fun p ep => ⟨vp_in_nI (by omega) (by decide), fun xa2 ea t et => ?_⟩)
    rw [pk_mul, ← Nat.pow_succ] at ep
    rw [nI_clamp (by omega), ws_full d (by omega)] at ea
    rw [et, nI_1 i, ep]
    refine ih (i + 1) f' xa2 (by omega) (by omega) ?_
    rw [ea]
    exact ws_aa_s ha
theorem wy_init_l {post : SY → Prop} {yo yt : Nat → Int32} (hn : n ≤ 6) (hd : d ≤ 3) (hp : ∀ ya, ws_aa n (fun _ => 2 ^ d - 1) ya → post (nI n, nI d, nI (d ^ n), yo, yt, ya)) : ∀ m i fuel ya, i + m = n → m < fuel → ws_aa i (fun _ => 2 ^ d - 1) ya → wY_init_84 post (nI n) (nI d) fuel (nI i) (nI (d ^ i)) yo yt ya := by
  intro m
  induction m with
  | zero =>
    intro i fuel ya hi hf ha
    obtain ⟨f', rfl⟩ : ∃ m, fuel = m + 1 := ⟨fuel - 1, by omega⟩
    have hin : i = n := hi
    rw [hin] at ha ⊢
    exact br_t (nI_le (Nat.le_refl _) (by omega)) (hp ya ha)
  | succ m ih =>
    intro i fuel ya hi hf ha
    obtain ⟨f', rfl⟩ : ∃ m, fuel = m + 1 := ⟨fuel - 1, by omega⟩
    refine br_f (nI_ge (a := i) (b := n) (by omega) (by omega)) (fun p ep => br_f (nI_ge (a := i) (b := 6) (by omega) (by decide)) ⟨vp_in_nI (by omega) (by decide), fun ya2 ea t et => ?_⟩)
    rw [pk_mul, ← Nat.pow_succ] at ep
    rw [nI_clamp (by omega), ws_full d (by omega)] at ea
    rw [et, nI_1 i, ep]
    refine ih (i + 1) f' ya2 (by omega) (by omega) ?_
    rw [ea]
    exact ws_aa_s ha
end
end
section
/-! the relation; the constructors; the calls that write or read a table -/
/-- one pair of tables (costs of values, costs of pairs, allowed sets) lies in both states -/
def i_Rel (k : Nat) (u : SX) (v : SY) : Prop := ∃ (n d : Nat) (U : Nat → Nat → Nat) (B : Nat → Nat → Nat → Nat → Nat) (A : Nat → Nat) (xu xb xa yo yt ya : Nat → Int32), u = (nI n, nI d, nI (d ^ n), xu, xb, xa) ∧ v = (nI n, nI d, nI (d ^ n), yo, yt, ya) ∧ ws_wf n d U B A ∧ ws_X n d U B A xu xb xa ∧ ws_Y n d U B A yo yt ya
theorem i_up {k : Nat} {u : SX} {v : SY} (h : i_Rel k u v) : i_Rel (k + 4) u v := h
theorem ws_rel (k : Nat) {n d : Nat} {U : Nat → Nat → Nat} {B : Nat → Nat → Nat → Nat → Nat} {A : Nat → Nat} {xu xb xa yo yt ya : Nat → Int32} (W : ws_wf n d U B A) (X : ws_X n d U B A xu xb xa) (Y : ws_Y n d U B A yo yt ya) : i_Rel k (nI n, nI d, nI (d ^ n), xu, xb, xa) (nI n, nI d, nI (d ^ n), yo, yt, ya) := ⟨n, d, U, B, A, xu, xb, xa, yo, yt, ya, rfl, rfl, W, X, Y⟩
theorem ws_rel0 {n d : Nat} (hn2 : 2 ≤ n) (hn : n ≤ 6) (hd2 : 2 ≤ d) (hd : d ≤ 3) {xa ya : Nat → Int32} (hxa : ws_aa n (fun _ => 2 ^ d - 1) xa) (hya : ws_aa n (fun _ => 2 ^ d - 1) ya) : i_Rel 2 (nI n, nI d, nI (d ^ n), (fun _ => 0), (fun _ => 0), xa) (nI n, nI d, nI (d ^ n), (fun _ => 0), (fun _ => 0), ya) := by
  have h8 : 2 ^ d ≤ 2 ^ 3 := Nat.pow_le_pow_right (by decide) hd
  refine ws_rel 2 (U := fun _ _ => 0) (B := fun _ _ _ _ => 0) (A := fun _ => 2 ^ d - 1) ⟨⟨hn2, hn⟩, ⟨hd2, hd⟩, fun _ _ => Nat.zero_le _, fun _ _ _ _ => Nat.zero_le _, fun _ => ?_⟩ ⟨fun _ _ _ _ => rfl, fun u v a b _ _ _ _ _ => ?_, hxa⟩ ⟨fun _ _ _ _ => rfl, fun u v a b _ _ _ _ _ => ?_, hya⟩
  · show 2 ^ d - 1 < 8
    omega
  · show (0 : Int32) = nI (if u < v then 0 else 0)
    rw [ite_self]
    rfl
  · show (0 : Int32) = nI (if u < v then 0 else 0)
    rw [ite_self]
    rfl
theorem i_vc0 (k0 : Int32) (k1 : Int32) : wpX_init (fun u => wpY_init (fun v => i_Rel 2 u v) k0 k1) k0 k1 := by
  obtain ⟨n, hn2, hn, Fn⟩ := ws_clamp k0 2 6 (by decide) (by decide)
  obtain ⟨d, hd2, hd, Fd⟩ := ws_clamp k1 2 3 (by decide) (by decide)
  have FnX : ∀ post : Int32 → Prop, post (nI n) → wpX_clamp post k0 2 6 := fun post h => Fn post h
  have FdX : ∀ post : Int32 → Prop, post (nI d) → wpX_clamp post k1 2 3 := fun post h => Fd post h
  have GY : ∀ post : SY → Prop, (∀ ya, ws_aa n (fun _ => 2 ^ d - 1) ya → post (nI n, nI d, nI (d ^ n), (fun _ => 0), (fun _ => 0), ya)) → wpY_init post k0 k1 := fun post h =>
    Fn (fun z => wY_init_51 post k1 z 0 0 0 (fun _ => 0) (fun _ => 0) (fun _ => 0)) (Fd (fun z => ∃ n84 : Nat, wY_init_84 post (nI n) z n84 0 1 (fun _ => 0) (fun _ => 0) (fun _ => 0)) ⟨n + 1, wy_init_l hn hd h n 0 (n + 1) (fun _ => 0) (by omega) (by omega) (fun v hv => absurd hv (Nat.not_lt_zero v))⟩)
  unfold wpX_init
  refine FnX _ (FdX _ ⟨n + 1, ?_⟩)
  exact wx_init_l hn hd (fun xa hxa => GY _ (fun ya hya => ws_rel0 hn2 hn hd2 hd hxa hya)) n 0 (n + 1) (fun _ => 0) (by omega) (by omega) (fun v hv => absurd hv (Nat.not_lt_zero v))
theorem i_vc_unary {k : Nat} {u : SX} {v : SY} (I : i_Rel k u v) (hk : k + 4 ≤ 2050) (v1 : Int32) (v2 : Int32) (v3 : Int32) : wpX_unary (fun r u' => wpY_unary (fun r' v' => r' = r ∧ i_Rel (k + 4) u' v') v v1 v2 v3) u v1 v2 v3 := by
  obtain ⟨n, d, U, B, A, xu, xb, xa, yo, yt, ya, rfl, rfl, W, X, Y⟩ := I
  have R := ws_rel (k + 4) W X Y
  obtain ⟨⟨hn2, hn6⟩, ⟨hd2, hd3⟩, hU, hB, hA⟩ := W
  unfold wpX_unary
  dsimp only
  rcases ws_var_c v1 (n := n) (by omega) with h1 | ⟨w, hw, rfl⟩
  · refine wx_var_b h1 (br_t rfl ?_)
    unfold wpY_unary
    dsimp only
    exact wy_var_b h1 (br_f (by decide) ⟨rfl, R⟩)
  · refine wx_var_g hn6 hw (br_f (by decide) ?_)
    rcases ws_var_c v2 (n := d) (by omega) with h2 | ⟨a, ha, rfl⟩
    · refine wx_value_b h2 (br_t rfl ?_)
      unfold wpY_unary
      dsimp only
      exact wy_var_g hn6 hw (br_t rfl (wy_value_b h2 (br_f (by decide) ⟨rfl, R⟩)))
    · refine wx_value_g hd3 ha (br_f (by decide) ?_)
      rcases ws_cost_c v3 with h3 | ⟨c, hc, rfl⟩
      · refine wx_cost_b h3 (br_t rfl ?_)
        unfold wpY_unary
        dsimp only
        exact wy_var_g hn6 hw (br_t rfl (wy_value_g hd3 ha (br_t rfl (wy_cost_b h3 (br_f (by decide) ⟨rfl, R⟩)))))
      · have hi := ws_uc_lt hn6 hd3 hw ha
        refine wx_cost_g hc (br_f (by decide) (wx_uc ⟨vp_in_nI hi (by decide), fun x ex => ⟨vp_in_nI hi (by decide), fun xu2 exu => ?_⟩⟩))
        unfold wpY_unary
        dsimp only
        refine wy_var_g hn6 hw (br_t rfl (wy_value_g hd3 ha (br_t rfl (wy_cost_g hc (br_t rfl ?_)))))
        rw [ws_ouI]
        rw [nI_clamp (by omega)] at ex exu
        refine ⟨vp_in_nI (by omega) (by decide), fun y ey => ⟨vp_in_nI (by omega) (by decide), fun yo2 eyo => ⟨?_, ?_⟩⟩⟩
        · rw [ey, ex, nI_clamp (by omega), X.1 w a hw ha, Y.1 w a hw ha]
        · rw [nI_clamp (by omega)] at eyo
          rw [exu, eyo]
          exact ws_rel (k + 4) (U := ws_U1 U w a c) (B := B) (A := A) ⟨⟨hn2, hn6⟩, ⟨hd2, hd3⟩, ws_U1_le hU (by omega), hB, hA⟩ ⟨ws_xu_w X.1 ha, X.2.1, X.2.2⟩ ⟨ws_yu_w Y.1 hd3 ha, Y.2.1, Y.2.2⟩
theorem i_vc_binary {k : Nat} {u : SX} {v : SY} (I : i_Rel k u v) (hk : k + 4 ≤ 2050) (v1 : Int32) (v2 : Int32) (v3 : Int32) : wpX_binary (fun r u' => wpY_binary (fun r' v' => r' = r ∧ i_Rel (k + 4) u' v') v v1 v2 v3) u v1 v2 v3 := by
  obtain ⟨n, d, U, B, A, xu, xb, xa, yo, yt, ya, rfl, rfl, W, X, Y⟩ := I
  have R := ws_rel (k + 4) W X Y
  obtain ⟨⟨hn2, hn6⟩, ⟨hd2, hd3⟩, hU, hB, hA⟩ := W
  unfold wpX_binary
  dsimp only
  rcases ws_pair_c v1 hn6 with h1 | ⟨p, q, hp, hq, hpq, rfl⟩
  · refine wx_pair_b hn2 hn6 h1 (br_t rfl ?_)
    unfold wpY_binary
    dsimp only
    exact wy_pair_b hn2 hn6 h1 (br_f (by decide) ⟨rfl, R⟩)
  · refine wx_pair_g hn2 hn6 hp hq hpq (br_f (by decide) ?_)
    rcases ws_two_c v2 hd3 with h2 | ⟨a, b, ha, hb, rfl⟩
    · refine wx_two_b h2 (br_t rfl ?_)
      unfold wpY_binary
      dsimp only
      exact wy_pair_g hn2 hn6 hp hq hpq (br_t rfl (wy_two_b hd2 hd3 h2 (br_f (by decide) ⟨rfl, R⟩)))
    · have hab := ws_lt2 ha hb
      refine wx_two_g hd3 hab (br_f (by decide) ?_)
      rcases ws_cost_c v3 with h3 | ⟨c, hc, rfl⟩
      · refine wx_cost_b h3 (br_t rfl ?_)
        unfold wpY_binary
        dsimp only
        exact wy_pair_g hn2 hn6 hp hq hpq (br_t rfl (wy_two_g hd3 hab (br_t rfl (wy_cost_b h3 (br_f (by decide) ⟨rfl, R⟩)))))
      · have hi := ws_cl_lt hn6 hd3 hp hq ha hb
        have hj1 := ws_py_lt (u := p) (v := q) (a := a) (b := b) (by omega) (by omega) (by omega) (by omega)
        have hj2 := ws_py_lt (u := q) (v := p) (a := b) (b := a) (by omega) (by omega) (by omega) (by omega)
        refine wx_cost_g hc (br_f (by decide) (wx_cell hn2 hn6 hd2 hd3 hp hq hpq ha hb ⟨vp_in_nI hi (by decide), fun x ex => ⟨vp_in_nI hi (by decide), fun xb2 exb => ?_⟩⟩))
        unfold wpY_binary
        dsimp only
        refine wy_pair_g hn2 hn6 hp hq hpq (br_t rfl (wy_two_g hd3 hab (br_t rfl (wy_cost_g hc (br_t rfl (wy_place hn6 hd3 hp hq ha hb (wy_mirr hn6 hd3 hp hq ha hb ?_)))))))
        rw [nI_clamp (by omega)] at ex exb
        refine ⟨vp_in_nI hj1 (by decide), fun y ey => ⟨vp_in_nI hj1 (by decide), fun y1 ey1 => ⟨vp_in_nI hj2 (by decide), fun y2 ey2 => ⟨?_, ?_⟩⟩⟩⟩
        · rw [ey, ex, nI_clamp (by omega), X.2.1 p q a b hp hq hpq ha hb, Y.2.1 p q a b hp hq hpq ha hb]
        · rw [nI_clamp (by omega)] at ey1 ey2
          rw [exb, ey2, ey1]
          exact ws_rel (k + 4) (U := U) (B := ws_Bw B p q a b c) (A := A) ⟨⟨hn2, hn6⟩, ⟨hd2, hd3⟩, hU, ws_Bw_le hB (by omega), hA⟩ ⟨X.1, ws_xb_w X.2.1 hp hq hpq ha hb, X.2.2⟩ ⟨Y.1, ws_yb_w Y.2.1 hn6 hd3 hp hq hpq ha hb, Y.2.2⟩
theorem i_vc_relate {k : Nat} {u : SX} {v : SY} (I : i_Rel k u v) (hk : k + 4 ≤ 2050) (v1 : Int32) (v2 : Int32) (v3 : Int32) : wpX_relate (fun r u' => wpY_relate (fun r' v' => r' = r ∧ i_Rel (k + 4) u' v') v v1 v2 v3) u v1 v2 v3 := by
  obtain ⟨n, d, U, B, A, xu, xb, xa, yo, yt, ya, rfl, rfl, W, X, Y⟩ := I
  have R := ws_rel (k + 4) W X Y
  obtain ⟨⟨hn2, hn6⟩, ⟨hd2, hd3⟩, hU, hB, hA⟩ := W
  unfold wpX_relate
  dsimp only
  rcases ws_pair_c v1 hn6 with h1 | ⟨p, q, hp, hq, hpq, rfl⟩
  · refine wx_pair_b hn2 hn6 h1 (br_t rfl ?_)
    unfold wpY_relate
    dsimp only
    exact wy_pair_b hn2 hn6 h1 (br_f (by decide) ⟨rfl, R⟩)
  · refine wx_pair_g hn2 hn6 hp hq hpq (br_f (by decide) ?_)
    by_cases h2 : v2 < 0
    · refine br_t h2 ?_
      unfold wpY_relate
      dsimp only
      exact wy_pair_g hn2 hn6 hp hq hpq (br_t rfl (br_t h2 ⟨rfl, R⟩))
    · refine br_f h2 ?_
      by_cases h3 : v2 ≤ 2
      · refine br_t h3 ?_
        by_cases h4 : v3 < 0
        · refine br_t h4 ?_
          unfold wpY_relate
          dsimp only
          exact wy_pair_g hn2 hn6 hp hq hpq (br_t rfl (br_f h2 (br_t h3 (br_t h4 ⟨rfl, R⟩))))
        · refine br_f h4 ?_
          by_cases h5 : v3 ≤ 10
          · refine br_t h5 ?_
            obtain ⟨c, hc, rfl⟩ := nI_of2 (M := 2) (n := 2) (by decide) h2 h3
            obtain ⟨w, hw, rfl⟩ := nI_of2 (M := 10) (n := 10) (by decide) h4 h5
            refine ⟨d * d + 1, wx_relate_l (B := B) hn2 hn6 hd2 hd3 hp hq hpq (by omega) (fun xb2 hxb2 => ?_) (d * d) 0 (d * d + 1) xb (by omega) (by omega) X.2.1⟩
            unfold wpY_relate
            dsimp only
            refine wy_pair_g hn2 hn6 hp hq hpq (br_t rfl (br_f h2 (br_t h3 (br_f h4 (br_t h5 ⟨d + 1, wy_relate_38 (B := B) hn6 hd2 hd3 hp hq hpq (by omega) (fun yt2 hyt2 => ⟨rfl, ?_⟩) d 0 (d + 1) yt (by omega) (by omega) Y.2.1⟩)))))
            exact ws_rel (k + 4) (U := U) (B := ws_it d p q c w B (d * d)) (A := A) ⟨⟨hn2, hn6⟩, ⟨hd2, hd3⟩, hU, ws_it_le hd3 (by omega) hw hB (d * d) (Nat.le_refl _), hA⟩ ⟨X.1, hxb2, X.2.2⟩ ⟨Y.1, hyt2, Y.2.2⟩
          · refine br_f h5 ?_
            unfold wpY_relate
            dsimp only
            exact wy_pair_g hn2 hn6 hp hq hpq (br_t rfl (br_f h2 (br_t h3 (br_f h4 (br_f h5 ⟨rfl, R⟩)))))
      · refine br_f h3 ?_
        unfold wpY_relate
        dsimp only
        exact wy_pair_g hn2 hn6 hp hq hpq (br_t rfl (br_f h2 (br_f h3 ⟨rfl, R⟩)))
theorem i_vc_unaryCost {k : Nat} {u : SX} {v : SY} (I : i_Rel k u v) (hk : k + 4 ≤ 2050) (v1 : Int32) (v2 : Int32) : wpX_unaryCost (fun r => wpY_unaryCost (fun r' => r' = r ∧ i_Rel (k + 4) u v) v v1 v2) u v1 v2 := by
  obtain ⟨n, d, U, B, A, xu, xb, xa, yo, yt, ya, rfl, rfl, W, X, Y⟩ := I
  have R := ws_rel (k + 4) W X Y
  obtain ⟨⟨hn2, hn6⟩, ⟨hd2, hd3⟩, hU, hB, hA⟩ := W
  unfold wpX_unaryCost wpY_unaryCost
  dsimp only
  rcases ws_var_c v1 (n := n) (by omega) with h1 | ⟨w, hw, rfl⟩
  · exact wx_var_b h1 (br_t rfl (wy_var_b h1 (br_f (by decide) ⟨rfl, R⟩)))
  · refine wx_var_g hn6 hw (br_f (by decide) ?_)
    rcases ws_var_c v2 (n := d) (by omega) with h2 | ⟨a, ha, rfl⟩
    · exact wx_value_b h2 (br_t rfl (wy_var_g hn6 hw (br_t rfl (wy_value_b h2 (br_f (by decide) ⟨rfl, R⟩)))))
    · have hi := ws_uc_lt hn6 hd3 hw ha
      refine wx_value_g hd3 ha (br_f (by decide) (wx_uc ⟨vp_in_nI hi (by decide), ?_⟩))
      refine wy_var_g hn6 hw (br_t rfl (wy_value_g hd3 ha (br_t rfl ?_)))
      rw [ws_ouI]
      refine ⟨vp_in_nI (by omega) (by decide), ?_, R⟩
      rw [nI_clamp (by omega), nI_clamp (by omega), X.1 w a hw ha, Y.1 w a hw ha]
theorem i_vc_binaryCost {k : Nat} {u : SX} {v : SY} (I : i_Rel k u v) (hk : k + 4 ≤ 2050) (v1 : Int32) (v2 : Int32) : wpX_binaryCost (fun r => wpY_binaryCost (fun r' => r' = r ∧ i_Rel (k + 4) u v) v v1 v2) u v1 v2 := by
  obtain ⟨n, d, U, B, A, xu, xb, xa, yo, yt, ya, rfl, rfl, W, X, Y⟩ := I
  have R := ws_rel (k + 4) W X Y
  obtain ⟨⟨hn2, hn6⟩, ⟨hd2, hd3⟩, hU, hB, hA⟩ := W
  unfold wpX_binaryCost wpY_binaryCost
  dsimp only
  rcases ws_pair_c v1 hn6 with h1 | ⟨p, q, hp, hq, hpq, rfl⟩
  · exact wx_pair_b hn2 hn6 h1 (br_t rfl (wy_pair_b hn2 hn6 h1 (br_f (by decide) ⟨rfl, R⟩)))
  · refine wx_pair_g hn2 hn6 hp hq hpq (br_f (by decide) ?_)
    rcases ws_two_c v2 hd3 with h2 | ⟨a, b, ha, hb, rfl⟩
    · exact wx_two_b h2 (br_t rfl (wy_pair_g hn2 hn6 hp hq hpq (br_t rfl (wy_two_b hd2 hd3 h2 (br_f (by decide) ⟨rfl, R⟩)))))
    · have hab := ws_lt2 ha hb
      have hi := ws_cl_lt hn6 hd3 hp hq ha hb
      have hj1 := ws_py_lt (u := p) (v := q) (a := a) (b := b) (by omega) (by omega) (by omega) (by omega)
      refine wx_two_g hd3 hab (br_f (by decide) (wx_cell hn2 hn6 hd2 hd3 hp hq hpq ha hb ⟨vp_in_nI hi (by decide), ?_⟩))
      refine wy_pair_g hn2 hn6 hp hq hpq (br_t rfl (wy_two_g hd3 hab (br_t rfl (wy_place hn6 hd3 hp hq ha hb ⟨vp_in_nI hj1 (by decide), ?_, R⟩))))
      rw [nI_clamp (by omega), nI_clamp (by omega), X.2.1 p q a b hp hq hpq ha hb, Y.2.1 p q a b hp hq hpq ha hb]
theorem i_vc_allow {k : Nat} {u : SX} {v : SY} (I : i_Rel k u v) (hk : k + 4 ≤ 2050) (v1 : Int32) (v2 : Int32) : wpX_allow (fun r u' => wpY_allow (fun r' v' => r' = r ∧ i_Rel (k + 4) u' v') v v1 v2) u v1 v2 := by
  obtain ⟨n, d, U, B, A, xu, xb, xa, yo, yt, ya, rfl, rfl, W, X, Y⟩ := I
  have R := ws_rel (k + 4) W X Y
  obtain ⟨⟨hn2, hn6⟩, ⟨hd2, hd3⟩, hU, hB, hA⟩ := W
  have h8 : 2 ^ d ≤ 2 ^ 3 := Nat.pow_le_pow_right (by decide) hd3
  unfold wpX_allow
  dsimp only
  rw [ws_full d (by omega)]
  rcases ws_var_c v1 (n := n) (by omega) with h1 | ⟨w, hw, rfl⟩
  · refine wx_var_b h1 (br_t rfl ?_)
    unfold wpY_allow
    dsimp only
    exact wy_var_b h1 (br_f (by decide) ⟨rfl, R⟩)
  · refine wx_var_g hn6 hw (br_f (by decide) ?_)
    by_cases h2 : v2 < 1
    · refine br_t h2 ?_
      unfold wpY_allow
      dsimp only
      exact wy_var_g hn6 hw (br_t rfl (br_t h2 ⟨rfl, R⟩))
    · refine br_f h2 ?_
      by_cases h3 : v2 ≤ nI (2 ^ d - 1)
      · refine br_t h3 ?_
        have h0 : ¬ v2 < 0 := fun z => h2 (Int32.lt_of_lt_of_le z (by decide))
        obtain ⟨s, hs, rfl⟩ := nI_of2 (n := 2 ^ d - 1) (nI_toInt (by omega)) h0 h3
        refine ⟨vp_in_nI (by omega) (by decide), fun x ex => ⟨vp_in_nI (by omega) (by decide), fun xa2 exa => ?_⟩⟩
        rw [nI_clamp (by omega)] at ex exa
        unfold wpY_allow
        dsimp only
        rw [ws_full d (by omega)]
        refine wy_var_g hn6 hw (br_t rfl (br_f h2 (br_t h3 ⟨vp_in_nI (by omega) (by decide), fun y ey => ⟨vp_in_nI (by omega) (by decide), fun ya2 eya => ⟨?_, ?_⟩⟩⟩)))
        · rw [ey, ex, nI_clamp (by omega), X.2.2 w hw, Y.2.2 w hw]
        · rw [nI_clamp (by omega)] at eya
          rw [exa, eya]
          exact ws_rel (k + 4) (U := U) (B := B) (A := ws_A1 A w s) ⟨⟨hn2, hn6⟩, ⟨hd2, hd3⟩, hU, hB, ws_A1_lt hA (by omega)⟩ ⟨X.1, X.2.1, ws_aa_w X.2.2⟩ ⟨Y.1, Y.2.1, ws_aa_w Y.2.2⟩
      · refine br_f h3 ?_
        unfold wpY_allow
        dsimp only
        rw [ws_full d (by omega)]
        exact wy_var_g hn6 hw (br_t rfl (br_f h2 (br_f h3 ⟨rfl, R⟩)))
end
section
/-! the questions -/
theorem i_vc_best {k : Nat} {u : SX} {v : SY} (I : i_Rel k u v) (hk : k + 4 ≤ 2050) : wpX_best (fun r => wpY_best (fun r' => r' = r ∧ i_Rel (k + 4) u v) v) u := by
  obtain ⟨n, d, U, B, A, xu, xb, xa, yo, yt, ya, rfl, rfl, W, X, Y⟩ := I
  unfold wpX_best
  dsimp only
  exact wx_best W X (wy_best W Y ⟨rfl, ws_rel (k + 4) W X Y⟩)
theorem i_vc_bestCount {k : Nat} {u : SX} {v : SY} (I : i_Rel k u v) (hk : k + 4 ≤ 2050) : wpX_bestCount (fun r => wpY_bestCount (fun r' => r' = r ∧ i_Rel (k + 4) u v) v) u := by
  obtain ⟨n, d, U, B, A, xu, xb, xa, yo, yt, ya, rfl, rfl, W, X, Y⟩ := I
  unfold wpX_bestCount wpY_bestCount
  dsimp only
  exact wx_best W X (wx_ct W X (wy_best W Y (wy_bc W Y (fun a ha => ws_mn_le (ws_cob W) ha) ⟨congrArg nI (ws_count_eq (ws_cob W)).symm, ws_rel (k + 4) W X Y⟩)))
theorem i_vc_bestValue {k : Nat} {u : SX} {v : SY} (I : i_Rel k u v) (hk : k + 4 ≤ 2050) (v1 : Int32) : wpX_bestValue (fun r => wpY_bestValue (fun r' => r' = r ∧ i_Rel (k + 4) u v) v v1) u v1 := by
  obtain ⟨n, d, U, B, A, xu, xb, xa, yo, yt, ya, rfl, rfl, W, X, Y⟩ := I
  have R := ws_rel (k + 4) W X Y
  have hn6 := W.1.2
  have hd2 := W.2.1.1
  have hd3 := W.2.1.2
  have hall := ws_pow hn6 hd3
  unfold wpX_bestValue wpY_bestValue
  dsimp only
  rcases ws_var_c v1 (n := n) (by omega) with h1 | ⟨w, hw, rfl⟩
  · exact wx_var_b h1 (br_t rfl (wy_var_b h1 (br_f (by decide) ⟨rfl, R⟩)))
  · refine wx_var_g hn6 hw (br_f (by decide) (wx_best W X ?_))
    have hsp := ws_mn_spec (ws_co n d U B A) (d ^ n)
    cases hL : ws_mn (ws_co n d U B A) (d ^ n) with
    | none =>
      refine br_t rfl (wy_var_g hn6 hw (br_t rfl (wy_best W Y ?_)))
      rw [hL]
      refine wy_bv_f W Y (L := none) (fun a ha => by cases ha) (fun j hj z => ?_) ⟨rfl, R⟩
      obtain ⟨m, h2, h3⟩ := ws_hit_t z
      cases h3
    | some m =>
      have hm := ws_mn_le (ws_cob W) hL
      obtain ⟨⟨i, hi, hci⟩, hmin⟩ := hsp.2 m hL
      obtain ⟨i0, hc0, hl0⟩ := pk_least (fun j => ws_co n d U B A j = some m) ⟨i, hci⟩
      have hi0 : i0 < d ^ n := by
        rcases Nat.lt_or_ge i i0 with z | z
        · exact absurd hci (hl0 i z)
        · omega
      refine br_f (ws_ne1 (by omega)) (wx_fw W X hi0 hc0 hl0 (wx_val hn6 hd2 hd3 (by omega) hw (wy_var_g hn6 hw (br_t rfl (wy_best W Y ?_)))))
      rw [hL]
      refine wy_bv_t W Y (L := some m) (fun a ha => by cases ha; exact hm) hw hi0 (by rw [hc0, ws_hit_s]) (fun j hj z => ?_) ⟨rfl, R⟩
      obtain ⟨m1, h2, h3⟩ := ws_hit_t z
      cases h3
      exact hl0 j hj h2
theorem i_vc_bestWith {k : Nat} {u : SX} {v : SY} (I : i_Rel k u v) (hk : k + 4 ≤ 2050) (v1 : Int32) (v2 : Int32) : wpX_bestWith (fun r => wpY_bestWith (fun r' => r' = r ∧ i_Rel (k + 4) u v) v v1 v2) u v1 v2 := by
  obtain ⟨n, d, U, B, A, xu, xb, xa, yo, yt, ya, rfl, rfl, W, X, Y⟩ := I
  have R := ws_rel (k + 4) W X Y
  have hn6 := W.1.2
  have hd3 := W.2.1.2
  unfold wpX_bestWith wpY_bestWith
  dsimp only
  rcases ws_var_c v1 (n := n) (by omega) with h1 | ⟨w, hw, rfl⟩
  · exact wx_var_b h1 (br_t rfl (wy_var_b h1 (br_f (by decide) ⟨rfl, R⟩)))
  · refine wx_var_g hn6 hw (br_f (by decide) ?_)
    rcases ws_var_c v2 (n := d) (by omega) with h2 | ⟨a, ha, rfl⟩
    · exact wx_value_b h2 (br_t rfl (wy_var_g hn6 hw (br_t rfl (wy_value_b h2 (br_f (by decide) ⟨rfl, R⟩)))))
    · refine wx_value_g hd3 ha (br_f (by decide) (wx_lw W X hw hw ha ha ?_))
      cases hL : ws_mn (ws_pw (ws_co n d U B A) (fun x => ws_val n d x w) (fun x => ws_val n d x w) a a) (d ^ n) with
      | none =>
        refine br_t rfl (wy_var_g hn6 hw (br_t rfl (wy_value_g hd3 ha (br_t rfl (wy_bw W Y hw ha ?_)))))
        rw [hL]
        exact ⟨rfl, R⟩
      | some m =>
        have hm := ws_mn_le (ws_pw_le (ws_cob W)) hL
        refine br_f (ws_ne1 (by omega)) (wy_var_g hn6 hw (br_t rfl (wy_value_g hd3 ha (br_t rfl (wy_bw W Y hw ha ?_)))))
        rw [hL]
        exact ⟨rfl, R⟩
theorem i_vc_bestWithPair {k : Nat} {u : SX} {v : SY} (I : i_Rel k u v) (hk : k + 4 ≤ 2050) (v1 : Int32) (v2 : Int32) : wpX_bestWithPair (fun r => wpY_bestWithPair (fun r' => r' = r ∧ i_Rel (k + 4) u v) v v1 v2) u v1 v2 := by
  obtain ⟨n, d, U, B, A, xu, xb, xa, yo, yt, ya, rfl, rfl, W, X, Y⟩ := I
  have R := ws_rel (k + 4) W X Y
  have hn2 := W.1.1
  have hn6 := W.1.2
  have hd2 := W.2.1.1
  have hd3 := W.2.1.2
  have h36 := ws_le36 hn6
  have h9 := ws_le9 hd3
  unfold wpX_bestWithPair wpY_bestWithPair
  dsimp only
  rcases ws_pair_c v1 hn6 with h1 | ⟨p, q, hp, hq, hpq, rfl⟩
  · exact wx_pair_b hn2 hn6 h1 (br_t rfl (wy_pair_b hn2 hn6 h1 (br_f (by decide) ⟨rfl, R⟩)))
  · refine wx_pair_g hn2 hn6 hp hq hpq (br_f (by decide) ?_)
    rcases ws_two_c v2 hd3 with h2 | ⟨a, b, ha, hb, rfl⟩
    · exact wx_two_b h2 (br_t rfl (wy_pair_g hn2 hn6 hp hq hpq (br_t rfl (wy_two_b hd2 hd3 h2 (br_f (by decide) ⟨rfl, R⟩)))))
    · have hab := ws_lt2 ha hb
      have hpq2 := ws_lt2 hp hq
      have z := ws_q (u := p) hq (by omega) (by omega)
      have y := ws_q (u := a) hb (by omega) (by omega)
      have z2 := ws_dm (a := p) hq
      have y2 := ws_dm (a := a) hb
      refine wx_two_g hd3 hab (br_f (by decide) ⟨nI_ne0 (by omega) (by omega), nI_ne0 (by omega) (by omega), nI_ne0 (by omega) (by omega), nI_ne0 (by omega) (by omega), ?_⟩)
      rw [z.2, z.1, y.2, y.1]
      have GY : ∀ r : Int32, ws_en (-3) (ws_mn (ws_pw (ws_co n d U B A) (fun x => ws_val n d x p) (fun x => ws_val n d x q) a b) (d ^ n)) = r → wpY_bestWithPair (fun r' => r' = r ∧ i_Rel (k + 4) (nI n, nI d, nI (d ^ n), xu, xb, xa) (nI n, nI d, nI (d ^ n), yo, yt, ya)) (nI n, nI d, nI (d ^ n), yo, yt, ya) (nI (n * p + q)) (nI (d * a + b)) := fun r hr => by
        unfold wpY_bestWithPair
        dsimp only
        refine wy_pair_g hn2 hn6 hp hq hpq (br_t rfl (wy_two_g hd3 hab (br_t rfl (wy_over (by omega) (by omega) (by omega) (wy_rest (by omega) (by omega) (by omega) (wy_over (by omega) (by omega) (by omega) (wy_rest (by omega) (by omega) (by omega) ?_)))))))
        rw [z2.1, z2.2, y2.1, y2.2]
        exact wy_bp W Y hp hq ha hb ⟨hr, R⟩
      unfold wpY_bestWithPair at GY
      dsimp only at GY
      refine wx_lw W X hp hq ha hb ?_
      cases hL : ws_mn (ws_pw (ws_co n d U B A) (fun x => ws_val n d x p) (fun x => ws_val n d x q) a b) (d ^ n) with
      | none =>
        rw [hL] at GY
        exact br_t rfl (GY _ rfl)
      | some m =>
        have hm := ws_mn_le (ws_pw_le (ws_cob W)) hL
        rw [hL] at GY
        exact br_f (ws_ne1 (by omega)) (GY _ rfl)
theorem i_vc_countUpTo {k : Nat} {u : SX} {v : SY} (I : i_Rel k u v) (hk : k + 4 ≤ 2050) (v1 : Int32) : wpX_countUpTo (fun r => wpY_countUpTo (fun r' => r' = r ∧ i_Rel (k + 4) u v) v v1) u v1 := by
  obtain ⟨n, d, U, B, A, xu, xb, xa, yo, yt, ya, rfl, rfl, W, X, Y⟩ := I
  unfold wpX_countUpTo
  dsimp only
  exact wx_ct W X (wy_ct W Y ⟨rfl, ws_rel (k + 4) W X Y⟩)
theorem i_vc_nextCost {k : Nat} {u : SX} {v : SY} (I : i_Rel k u v) (hk : k + 4 ≤ 2050) (v1 : Int32) : wpX_nextCost (fun r => wpY_nextCost (fun r' => r' = r ∧ i_Rel (k + 4) u v) v v1) u v1 := by
  obtain ⟨n, d, U, B, A, xu, xb, xa, yo, yt, ya, rfl, rfl, W, X, Y⟩ := I
  unfold wpX_nextCost
  dsimp only
  exact wx_la W X (wy_next W Y ⟨rfl, ws_rel (k + 4) W X Y⟩)
theorem i_vc_costOf {k : Nat} {u : SX} {v : SY} (I : i_Rel k u v) (hk : k + 4 ≤ 2050) (v1 : Int32) : wpX_costOf (fun r => wpY_costOf (fun r' => r' = r ∧ i_Rel (k + 4) u v) v v1) u v1 := by
  obtain ⟨n, d, U, B, A, xu, xb, xa, yo, yt, ya, rfl, rfl, W, X, Y⟩ := I
  have R := ws_rel (k + 4) W X Y
  have hall := ws_pow W.1.2 W.2.1.2
  have hpos : 0 < d ^ n := Nat.pow_pos (by have := W.2.1.1; omega)
  unfold wpX_costOf wpY_costOf
  dsimp only
  rw [ws_m1 hpos]
  rcases ws_var_c v1 (n := d ^ n) (by omega) with (h1 | h1) | ⟨x, hx, rfl⟩
  · exact br_t h1 (br_t h1 ⟨rfl, R⟩)
  · have h2 : ¬ v1 < nI (d ^ n) := Int32.not_lt.mpr h1
    have h3 := ws_nle hpos (by omega) h1
    exact br_c (fun z => br_t z ⟨rfl, R⟩) (fun z => br_f h2 (br_f z (br_f h3 ⟨rfl, R⟩)))
  · refine br_f (nI_pos (by omega)) (br_t (nI_lt hx (by omega)) (wx_sol W X (by omega) ?_))
    cases hco : ws_co n d U B A x with
    | none =>
      refine br_t rfl (br_f (nI_pos (by omega)) (br_t (nI_le (by omega) (by omega)) (wy_cost W Y (by omega) ?_)))
      rw [hco]
      exact ⟨rfl, R⟩
    | some c =>
      have hc := ws_cob W x c hco
      refine br_f (ws_ne1 (by omega)) (br_f (nI_pos (by omega)) (br_t (nI_le (by omega) (by omega)) (wy_cost W Y (by omega) ?_)))
      rw [hco]
      exact ⟨rfl, R⟩
theorem i_vc_choices {k : Nat} {u : SX} {v : SY} (I : i_Rel k u v) (hk : k + 4 ≤ 2050) (v1 : Int32) : wpX_choices (fun r => wpY_choices (fun r' => r' = r ∧ i_Rel (k + 4) u v) v v1) u v1 := by
  obtain ⟨n, d, U, B, A, xu, xb, xa, yo, yt, ya, rfl, rfl, W, X, Y⟩ := I
  have R := ws_rel (k + 4) W X Y
  have hn6 := W.1.2
  have hd2 := W.2.1.1
  have hd3 := W.2.1.2
  unfold wpX_choices wpY_choices
  dsimp only
  rcases ws_var_c v1 (n := n) (by omega) with h1 | ⟨w, hw, rfl⟩
  · exact wx_var_b h1 (br_t rfl (wy_var_b h1 (br_f (by decide) ⟨rfl, R⟩)))
  · refine wx_var_g hn6 hw (br_f (by decide) (wx_best W X ?_))
    cases hL : ws_mn (ws_co n d U B A) (d ^ n) with
    | none =>
      refine br_t rfl (wy_var_g hn6 hw (br_t rfl (wy_best W Y ?_)))
      rw [hL]
      refine wy_ch W Y (L := none) (fun a ha => by cases ha) hw ⟨?_, R⟩
      have hb : ∀ a, (ws_mk (fun x => ws_hit none (ws_co n d U B A x)) (fun x => ws_val n d x w) (d ^ n)).testBit a = false := by
        intro a
        cases e : (ws_mk (fun x => ws_hit none (ws_co n d U B A x)) (fun x => ws_val n d x w) (d ^ n)).testBit a with
        | false => rfl
        | true =>
          obtain ⟨i, _, h2, _⟩ := (ws_mk_bit _ _ _ _).mp e
          obtain ⟨m, _, h3⟩ := ws_hit_t h2
          cases h3
      rw [hb 0, hb 1, hb 2]
      rfl
    | some m =>
      have hm := ws_mn_le (ws_cob W) hL
      refine br_f (ws_ne1 (by omega)) (wx_ch W X hw hm (wy_var_g hn6 hw (br_t rfl (wy_best W Y ?_))))
      rw [hL]
      exact wy_ch W Y (L := some m) (fun a ha => by cases ha; exact hm) hw ⟨congrArg nI (ws_ch_eq hd2 hd3 (fun i => ws_val_lt hd2) hL).symm, R⟩
end
