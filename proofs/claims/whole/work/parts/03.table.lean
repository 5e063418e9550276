/-! the tables: reading and writing -/
def ws_U1 (U : Nat → Nat → Nat) (v0 a0 c v a : Nat) : Nat := if v = v0 ∧ a = a0 then c else U v a
def ws_B1 (B : Nat → Nat → Nat → Nat → Nat) (u0 v0 a0 b0 c u v a b : Nat) : Nat := if u = u0 ∧ v = v0 ∧ a = a0 ∧ b = b0 then c else B u v a b
def ws_Br (B : Nat → Nat → Nat → Nat → Nat) (u v a b : Nat) : Nat := if u < v then B u v a b else B v u b a
def ws_Bw (B : Nat → Nat → Nat → Nat → Nat) (u0 v0 a0 b0 c u v a b : Nat) : Nat := if u0 < v0 then ws_B1 B u0 v0 a0 b0 c u v a b else ws_B1 B v0 u0 b0 a0 c u v a b
def ws_A1 (A : Nat → Nat) (v0 s v : Nat) : Nat := if v = v0 then s else A v
def ws_cN (n d u v a b : Nat) : Nat := (n * u + v) * d * d + (d * a + b)
def ws_cl (n d u v a b : Nat) : Nat := if u < v then ws_cN n d u v a b else ws_cN n d v u b a
def ws_py (u v a b : Nat) : Nat := 9 * (6 * u + v) + 3 * a + b
def ws_xu (n d : Nat) (U : Nat → Nat → Nat) (xu : Nat → Int32) : Prop := ∀ v a, v < n → a < d → xu (v * d + a) = nI (U v a)
def ws_xb (n d : Nat) (B : Nat → Nat → Nat → Nat → Nat) (xb : Nat → Int32) : Prop := ∀ u v a b, u < n → v < n → u ≠ v → a < d → b < d → xb (ws_cl n d u v a b) = nI (ws_Br B u v a b)
def ws_aa (n : Nat) (A : Nat → Nat) (al : Nat → Int32) : Prop := ∀ v, v < n → al v = nI (A v)
def ws_yu (n d : Nat) (U : Nat → Nat → Nat) (yo : Nat → Int32) : Prop := ∀ v a, v < n → a < d → yo (3 * v + a) = nI (U v a)
def ws_yb (n d : Nat) (B : Nat → Nat → Nat → Nat → Nat) (yt : Nat → Int32) : Prop := ∀ u v a b, u < n → v < n → u ≠ v → a < d → b < d → yt (ws_py u v a b) = nI (ws_Br B u v a b)
theorem ws_Br_lt {B : Nat → Nat → Nat → Nat → Nat} {u v a b : Nat} (h : u < v) : ws_Br B u v a b = B u v a b := if_pos h
theorem ws_Br_w {B : Nat → Nat → Nat → Nat → Nat} {u0 v0 a0 b0 c : Nat} : ws_Br (ws_Bw B u0 v0 a0 b0 c) u0 v0 a0 b0 = c := by
  unfold ws_Br ws_Bw
  by_cases h : u0 < v0
  · rw [if_pos h, if_pos h]
    exact if_pos ⟨rfl, rfl, rfl, rfl⟩
  · rw [if_neg h, if_neg h]
    exact if_pos ⟨rfl, rfl, rfl, rfl⟩
theorem ws_Br_m {B : Nat → Nat → Nat → Nat → Nat} {u0 v0 a0 b0 c : Nat} (hne : u0 ≠ v0) : ws_Br (ws_Bw B u0 v0 a0 b0 c) v0 u0 b0 a0 = c := by
  unfold ws_Br ws_Bw
  by_cases h : u0 < v0
  · have h' : ¬ v0 < u0 := by omega
    rw [if_neg h', if_pos h]
    exact if_pos ⟨rfl, rfl, rfl, rfl⟩
  · have h' : v0 < u0 := by omega
    rw [if_pos h', if_neg h]
    exact if_pos ⟨rfl, rfl, rfl, rfl⟩
theorem ws_Br_o {B : Nat → Nat → Nat → Nat → Nat} {u0 v0 a0 b0 c u v a b : Nat} (e : ¬ ((u = u0 ∧ v = v0 ∧ a = a0 ∧ b = b0) ∨ (u = v0 ∧ v = u0 ∧ a = b0 ∧ b = a0))) : ws_Br (ws_Bw B u0 v0 a0 b0 c) u v a b = ws_Br B u v a b := by
  unfold ws_Br ws_Bw
  by_cases h1 : u < v
  · rw [if_pos h1, if_pos h1]
    by_cases h2 : u0 < v0
    · rw [if_pos h2]
      exact if_neg (fun z => e (Or.inl z))
    · rw [if_neg h2]
      exact if_neg (fun z => e (Or.inr z))
  · rw [if_neg h1, if_neg h1]
    by_cases h2 : u0 < v0
    · rw [if_pos h2]
      exact if_neg (fun z => e (Or.inr ⟨z.2.1, z.1, z.2.2.2, z.2.2.1⟩))
    · rw [if_neg h2]
      exact if_neg (fun z => e (Or.inl ⟨z.2.1, z.1, z.2.2.2, z.2.2.1⟩))
theorem ws_cN_inj {n d u v a b u0 v0 a0 b0 : Nat} (hv : v < n) (hv0 : v0 < n) (ha : a < d) (hb : b < d) (ha0 : a0 < d) (hb0 : b0 < d) (h : ws_cN n d u v a b = ws_cN n d u0 v0 a0 b0) : u = u0 ∧ v = v0 ∧ a = a0 ∧ b = b0 := by
  have e1 : (n * u + v) * d * d = (d * d) * (n * u + v) := (Nat.mul_assoc _ _ _).trans (Nat.mul_comm _ _)
  have e2 : (n * u0 + v0) * d * d = (d * d) * (n * u0 + v0) := (Nat.mul_assoc _ _ _).trans (Nat.mul_comm _ _)
  have h' : (d * d) * (n * u + v) + (d * a + b) = (d * d) * (n * u0 + v0) + (d * a0 + b0) := by
    rw [← e1, ← e2]
    exact h
  obtain ⟨h1, h2⟩ := ws_inj (ws_lt2 ha hb) (ws_lt2 ha0 hb0) h'
  obtain ⟨h3, h4⟩ := ws_inj hv hv0 h1
  obtain ⟨h5, h6⟩ := ws_inj hb hb0 h2
  exact ⟨h3, h4, h5, h6⟩
theorem ws_cl_inj {n d u v a b u0 v0 a0 b0 : Nat} (hu : u < n) (hv : v < n) (hu0 : u0 < n) (hv0 : v0 < n) (ha : a < d) (hb : b < d) (ha0 : a0 < d) (hb0 : b0 < d) (h : ws_cl n d u v a b = ws_cl n d u0 v0 a0 b0) : (u = u0 ∧ v = v0 ∧ a = a0 ∧ b = b0) ∨ (u = v0 ∧ v = u0 ∧ a = b0 ∧ b = a0) := by
  unfold ws_cl at h
  by_cases h1 : u < v
  · rw [if_pos h1] at h
    by_cases h2 : u0 < v0
    · rw [if_pos h2] at h
      exact Or.inl (ws_cN_inj hv hv0 ha hb ha0 hb0 h)
    · rw [if_neg h2] at h
      exact Or.inr (ws_cN_inj hv hu0 ha hb hb0 ha0 h)
  · rw [if_neg h1] at h
    by_cases h2 : u0 < v0
    · rw [if_pos h2] at h
      have z := ws_cN_inj hu hv0 hb ha ha0 hb0 h
      exact Or.inr ⟨z.2.1, z.1, z.2.2.2, z.2.2.1⟩
    · rw [if_neg h2] at h
      have z := ws_cN_inj hu hu0 hb ha hb0 ha0 h
      exact Or.inl ⟨z.2.1, z.1, z.2.2.2, z.2.2.1⟩
theorem ws_cl_sym {n d u v a b : Nat} (h : u ≠ v) : ws_cl n d v u b a = ws_cl n d u v a b := by
  unfold ws_cl
  by_cases h1 : u < v
  · have h2 : ¬ v < u := by omega
    rw [if_pos h1, if_neg h2]
  · have h2 : v < u := by omega
    rw [if_neg h1, if_pos h2]
theorem ws_cN_lt {n d u v a b : Nat} (hn : n ≤ 6) (hd : d ≤ 3) (hu : u < n) (hv : v < n) (ha : a < d) (hb : b < d) : ws_cN n d u v a b < 324 := by
  have h1 : n * u + v < n * n := ws_lt2 hu hv
  have h2 : d * a + b < d * d := ws_lt2 ha hb
  have h3 : n * n ≤ 36 := ws_le36 hn
  have h4 : d * d ≤ 9 := ws_le9 hd
  have e1 : (n * u + v) * d * d = (n * u + v) * (d * d) := Nat.mul_assoc _ _ _
  have h5 : (n * u + v) * (d * d) ≤ 35 * 9 := Nat.mul_le_mul (by omega) h4
  unfold ws_cN
  rw [e1]
  omega
theorem ws_cl_lt {n d u v a b : Nat} (hn : n ≤ 6) (hd : d ≤ 3) (hu : u < n) (hv : v < n) (ha : a < d) (hb : b < d) : ws_cl n d u v a b < 324 := by
  unfold ws_cl
  by_cases h : u < v
  · rw [if_pos h]
    exact ws_cN_lt hn hd hu hv ha hb
  · rw [if_neg h]
    exact ws_cN_lt hn hd hv hu hb ha
theorem ws_uc_lt {n d v a : Nat} (hn : n ≤ 6) (hd : d ≤ 3) (hv : v < n) (ha : a < d) : v * d + a < 18 := by
  have h : v * d ≤ 5 * 3 := Nat.mul_le_mul (by omega) hd
  omega
theorem ws_py_lt {u v a b : Nat} (hu : u < 6) (hv : v < 6) (ha : a < 3) (hb : b < 3) : ws_py u v a b < 324 := by
  unfold ws_py
  omega
theorem ws_py_inj {u v a b u0 v0 a0 b0 : Nat} (hv : v < 6) (hv0 : v0 < 6) (ha : a < 3) (hb : b < 3) (ha0 : a0 < 3) (hb0 : b0 < 3) (h : ws_py u v a b = ws_py u0 v0 a0 b0) : u = u0 ∧ v = v0 ∧ a = a0 ∧ b = b0 := by
  unfold ws_py at h
  have h1 : 6 * u + v = 6 * u0 + v0 := by omega
  have h2 : 3 * a + b = 3 * a0 + b0 := by omega
  exact ⟨by omega, by omega, by omega, by omega⟩
theorem ws_xu_w {n d : Nat} {U : Nat → Nat → Nat} {xu : Nat → Int32} (h : ws_xu n d U xu) {v0 a0 c : Nat} (ha0 : a0 < d) : ws_xu n d (ws_U1 U v0 a0 c) (upd xu (v0 * d + a0) (nI c)) := by
  intro v a hv ha
  unfold ws_U1
  by_cases e : v = v0 ∧ a = a0
  · rw [if_pos e, e.1, e.2, pk_us]
  · have hne : v * d + a ≠ v0 * d + a0 := by
      intro z
      rw [Nat.mul_comm v d, Nat.mul_comm v0 d] at z
      exact e (ws_inj ha ha0 z)
    rw [if_neg e, pk_un hne]
    exact h v a hv ha
theorem ws_yu_w {n d : Nat} {U : Nat → Nat → Nat} {yo : Nat → Int32} (h : ws_yu n d U yo) (hd : d ≤ 3) {v0 a0 c : Nat} (ha0 : a0 < d) : ws_yu n d (ws_U1 U v0 a0 c) (upd yo (3 * v0 + a0) (nI c)) := by
  intro v a hv ha
  unfold ws_U1
  by_cases e : v = v0 ∧ a = a0
  · rw [if_pos e, e.1, e.2, pk_us]
  · have hne : 3 * v + a ≠ 3 * v0 + a0 := by
      intro z
      exact e ⟨by omega, by omega⟩
    rw [if_neg e, pk_un hne]
    exact h v a hv ha
theorem ws_aa_w {n : Nat} {A : Nat → Nat} {al : Nat → Int32} (h : ws_aa n A al) {v0 s : Nat} : ws_aa n (ws_A1 A v0 s) (upd al v0 (nI s)) := by
  intro v hv
  unfold ws_A1
  by_cases e : v = v0
  · rw [if_pos e, e, pk_us]
  · rw [if_neg e, pk_un e]
    exact h v hv
theorem ws_xb_w {n d : Nat} {B : Nat → Nat → Nat → Nat → Nat} {xb : Nat → Int32} (h : ws_xb n d B xb) {u0 v0 a0 b0 c : Nat} (hu0 : u0 < n) (hv0 : v0 < n) (hne : u0 ≠ v0) (ha0 : a0 < d) (hb0 : b0 < d) : ws_xb n d (ws_Bw B u0 v0 a0 b0 c) (upd xb (ws_cl n d u0 v0 a0 b0) (nI c)) := by
  intro u v a b hu hv huv ha hb
  by_cases e : (u = u0 ∧ v = v0 ∧ a = a0 ∧ b = b0) ∨ (u = v0 ∧ v = u0 ∧ a = b0 ∧ b = a0)
  · rcases e with ⟨e1, e2, e3, e4⟩ | ⟨e1, e2, e3, e4⟩
    · rw [e1, e2, e3, e4, pk_us, ws_Br_w]
    · rw [e1, e2, e3, e4, ws_cl_sym hne, pk_us, ws_Br_m hne]
  · rw [pk_un (fun z => e (ws_cl_inj hu hv hu0 hv0 ha hb ha0 hb0 z)), ws_Br_o e]
    exact h u v a b hu hv huv ha hb
theorem ws_yb_w {n d : Nat} {B : Nat → Nat → Nat → Nat → Nat} {yt : Nat → Int32} (h : ws_yb n d B yt) (hn : n ≤ 6) (hd : d ≤ 3) {u0 v0 a0 b0 c : Nat} (hu0 : u0 < n) (hv0 : v0 < n) (hne : u0 ≠ v0) (ha0 : a0 < d) (hb0 : b0 < d) : ws_yb n d (ws_Bw B u0 v0 a0 b0 c) (upd (upd yt (ws_py u0 v0 a0 b0) (nI c)) (ws_py v0 u0 b0 a0) (nI c)) := by
  intro u v a b hu hv huv ha hb
  by_cases e2 : u = v0 ∧ v = u0 ∧ a = b0 ∧ b = a0
  · obtain ⟨z1, z2, z3, z4⟩ := e2
    rw [z1, z2, z3, z4, pk_us, ws_Br_m hne]
  · rw [pk_un (fun z => e2 (ws_py_inj (by omega) (by omega) (by omega) (by omega) (by omega) (by omega) z))]
    by_cases e1 : u = u0 ∧ v = v0 ∧ a = a0 ∧ b = b0
    · obtain ⟨z1, z2, z3, z4⟩ := e1
      rw [z1, z2, z3, z4, pk_us, ws_Br_w]
    · rw [pk_un (fun z => e1 (ws_py_inj (by omega) (by omega) (by omega) (by omega) (by omega) (by omega) z)), ws_Br_o (fun z => z.elim e1 e2)]
      exact h u v a b hu hv huv ha hb
theorem ws_U1_le {U : Nat → Nat → Nat} {v0 a0 c : Nat} (hU : ∀ v a, U v a ≤ 99) (hc : c ≤ 99) : ∀ v a, ws_U1 U v0 a0 c v a ≤ 99 := by
  intro v a
  unfold ws_U1
  by_cases e : v = v0 ∧ a = a0
  · rw [if_pos e]
    exact hc
  · rw [if_neg e]
    exact hU v a
theorem ws_B1_le {B : Nat → Nat → Nat → Nat → Nat} {u0 v0 a0 b0 c : Nat} (hB : ∀ u v a b, B u v a b ≤ 99) (hc : c ≤ 99) : ∀ u v a b, ws_B1 B u0 v0 a0 b0 c u v a b ≤ 99 := by
  intro u v a b
  unfold ws_B1
  by_cases e : u = u0 ∧ v = v0 ∧ a = a0 ∧ b = b0
  · rw [if_pos e]
    exact hc
  · rw [if_neg e]
    exact hB u v a b
theorem ws_Bw_le {B : Nat → Nat → Nat → Nat → Nat} {u0 v0 a0 b0 c : Nat} (hB : ∀ u v a b, B u v a b ≤ 99) (hc : c ≤ 99) : ∀ u v a b, ws_Bw B u0 v0 a0 b0 c u v a b ≤ 99 := by
  intro u v a b
  unfold ws_Bw
  by_cases e : u0 < v0
  · rw [if_pos e]
    exact ws_B1_le hB hc u v a b
  · rw [if_neg e]
    exact ws_B1_le hB hc u v a b
theorem ws_A1_lt {A : Nat → Nat} {v0 s : Nat} (hA : ∀ v, A v < 8) (hs : s < 8) : ∀ v, ws_A1 A v0 s v < 8 := by
  intro v
  unfold ws_A1
  by_cases e : v = v0
  · rw [if_pos e]
    exact hs
  · rw [if_neg e]
    exact hA v
/-! relate: the same writes in the same order on both sides -/
def ws_tt (kind a b : Nat) : Nat := if kind = 0 then (if a < b then b - a else a - b) else if kind = 1 then (if a = b then 1 else 0) else a * b
def ws_it (d u0 v0 kind w : Nat) (B : Nat → Nat → Nat → Nat → Nat) : Nat → (Nat → Nat → Nat → Nat → Nat)
  | 0 => B
  | j + 1 => ws_Bw (ws_it d u0 v0 kind w B j) u0 v0 (j / d) (j % d) (w * ws_tt kind (j / d) (j % d))
theorem ws_tt_le : ∀ k, k < 3 → ∀ a, a < 3 → ∀ b, b < 3 → ws_tt k a b ≤ 4 := by decide +kernel
theorem ws_it_le {d u0 v0 kind w : Nat} {B : Nat → Nat → Nat → Nat → Nat} (hd : d ≤ 3) (hk : kind < 3) (hw : w ≤ 10) (hB : ∀ u v a b, B u v a b ≤ 99) (j : Nat) (hj : j ≤ d * d) : ∀ u v a b, ws_it d u0 v0 kind w B j u v a b ≤ 99 := by
  induction j with
  | zero => exact hB
  | succ j ih =>
    have hs := ws_split (n := d) (j := j) (by omega)
    have ht := ws_tt_le kind hk (j / d) (by omega) (j % d) (by omega)
    have hm : w * ws_tt kind (j / d) (j % d) ≤ 10 * 4 := Nat.mul_le_mul hw ht
    exact ws_Bw_le (ih (by omega)) (by omega)
