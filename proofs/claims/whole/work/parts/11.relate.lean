/-! choices of X; relate and the constructors on both sides -/
section
variable {post : Int32 → Prop} {n d : Nat} {U : Nat → Nat → Nat} {B : Nat → Nat → Nat → Nat → Nat} {A : Nat → Nat} {xu xb xa : Nat → Int32}
theorem wx_ch (W : ws_wf n d U B A) (X : ws_X n d U B A xu xb xa) {v m0 : Nat} (hv : v < n) (hm0 : m0 ≤ 4158) (h : post (nI (ws_sm (fun a => ws_b1 (decide (ws_mn (ws_pw (ws_co n d U B A) (fun x => ws_val n d x v) (fun x => ws_val n d x v) a a) (d ^ n) = some m0))) d))) : ∃ fuel, wX_choices_28 post (nI v) (nI m0) (nI n) (nI d) (nI (d ^ n)) xu xb xa fuel 0 0 := by
  have hd3 := W.2.1.2
  obtain ⟨m, hm⟩ := loop_0 (fun fuel i s => wX_choices_28 post (nI v) (nI m0) (nI n) (nI d) (nI (d ^ n)) xu xb xa fuel s (nI i)) (fun i s => s = nI (ws_sm (fun a => ws_b1 (decide (ws_mn (ws_pw (ws_co n d U B A) (fun x => ws_val n d x v) (fun x => ws_val n d x v) a a) (d ^ n) = some m0))) i)) d 0 rfl
    (fun m s hs => by
      rw [hs]
      exact br_t (nI_le (Nat.le_refl _) (by omega)) h)
    (fun m i s hi hs hk => by
      have hK : ∀ z, z = nI (ws_sm (fun a => ws_b1 (decide (ws_mn (ws_pw (ws_co n d U B A) (fun x => ws_val n d x v) (fun x => ws_val n d x v) a a) (d ^ n) = some m0))) (i + 1)) → ∀ t, t = nI i + 1 → wX_choices_28 post (nI v) (nI m0) (nI n) (nI d) (nI (d ^ n)) xu xb xa m z t := fun z hz t et => by
        rw [et, nI_1 i]
        exact hk z hz
      have e1 : ws_sm (fun a => ws_b1 (decide (ws_mn (ws_pw (ws_co n d U B A) (fun x => ws_val n d x v) (fun x => ws_val n d x v) a a) (d ^ n) = some m0))) (i + 1) = ws_sm (fun a => ws_b1 (decide (ws_mn (ws_pw (ws_co n d U B A) (fun x => ws_val n d x v) (fun x => ws_val n d x v) a a) (d ^ n) = some m0))) i + ws_b1 (decide (ws_mn (ws_pw (ws_co n d U B A) (fun x => ws_val n d x v) (fun x => ws_val n d x v) i i) (d ^ n) = some m0)) := rfl
      have hb2 := ws_pw_le (w1 := fun x => ws_val n d x v) (w2 := fun x => ws_val n d x v) (a := i) (b := i) (ws_cob W)
      rw [hs]
      refine br_f (nI_ge hi (by omega)) (wx_lw W X hv hv hi hi ?_)
      by_cases z : ws_mn (ws_pw (ws_co n d U B A) (fun x => ws_val n d x v) (fun x => ws_val n d x v) i i) (d ^ n) = some m0
      · rw [decide_eq_true z] at e1
        rw [z]
        refine br_t rfl (fun s2 es2 => hK s2 ?_)
        rw [es2, e1, nI_1]
        rfl
      · rw [decide_eq_false z] at e1
        refine br_f ?_ (hK _ (by rw [e1]; rfl))
        cases hq : ws_mn (ws_pw (ws_co n d U B A) (fun x => ws_val n d x v) (fun x => ws_val n d x v) i i) (d ^ n) with
        | none => exact fun y => ws_ne1 (c := m0) (by omega) y.symm
        | some m1 =>
          have h1 := ws_mn_le hb2 hq
          intro y
          have y2 := (nI_eq (a := m1) (b := m0) (by omega) (by omega)).mp y
          exact z (by rw [hq, y2]))
  exact ⟨m, hm⟩
theorem wx_cell_j {e : Int32} {u v j : Nat} (hn2 : 2 ≤ n) (hn : n ≤ 6) (hd2 : 2 ≤ d) (hd : d ≤ 3) (hu : u < n) (hv : v < n) (huv : u ≠ v) (hj : j < d * d) (h : post (nI (ws_cl n d u v (j / d) (j % d)))) : wpX_binaryCell post (nI n, nI d, e, xu, xb, xa) (nI (n * u + v)) (nI j) := by
  obtain ⟨h1, h2, h3⟩ := ws_split hj
  have z := wx_cell (post := post) (e := e) (xu := xu) (xb := xb) (xa := xa) hn2 hn hd2 hd hu hv huv h1 h2 h
  rw [← h3] at z
  exact z
end
section
variable {n d : Nat} {e : Int32} {B : Nat → Nat → Nat → Nat → Nat}
theorem wx_relate_l {post : Int32 → SX → Prop} {xu xa : Nat → Int32} {u v k w : Nat} (hn2 : 2 ≤ n) (hn : n ≤ 6) (hd2 : 2 ≤ d) (hd : d ≤ 3) (hu : u < n) (hv : v < n) (huv : u ≠ v) (hk : k < 3) (hp : ∀ xb, ws_xb n d (ws_it d u v k w B (d * d)) xb → post 0 (nI n, nI d, e, xu, xb, xa)) : ∀ m j fuel xb, j + m = d * d → m < fuel → ws_xb n d (ws_it d u v k w B j) xb → wX_relate_38 post (nI (n * u + v)) (nI k) (nI w) (nI n) (nI d) e fuel (nI j) xu xb xa := by
  have h9 := ws_le9 hd
  intro m
  induction m with
  | zero =>
    intro j fuel xb hj hf hb
    obtain ⟨f', rfl⟩ : ∃ m, fuel = m + 1 := ⟨fuel - 1, by omega⟩
    have hjj : j = d * d := hj
    rw [hjj] at hb ⊢
    exact br_t (by rw [pk_mul]; exact nI_le (Nat.le_refl _) (by omega)) (hp xb hb)
  | succ m ih =>
    intro j fuel xb hj hf hb
    obtain ⟨f', rfl⟩ : ∃ m, fuel = m + 1 := ⟨fuel - 1, by omega⟩
    obtain ⟨h1, h2, h3⟩ := ws_split (n := d) (j := j) (by omega)
    have hc := ws_cl_lt (u := u) (v := v) hn hd hu hv h1 h2
    refine br_f (by rw [pk_mul]; exact nI_ge (a := j) (b := d * d) (by omega) (by omega)) (wx_cell_j hn2 hn hd2 hd hu hv huv (by omega) ?_)
    refine ⟨nI_ne0 (by omega) (by omega), nI_ne0 (by omega) (by omega), ?_⟩
    rw [pk_rem (by omega) (by omega) (by omega), pk_div (by omega) (by omega) (by omega)]
    refine wx_rel hk (by omega) (by omega) ⟨vp_in_nI hc (by decide), fun xb2 exb2 t et => ?_⟩
    rw [nI_clamp (by omega), pk_mul] at exb2
    rw [et, nI_1 j]
    refine ih (j + 1) f' xb2 (by omega) (by omega) ?_
    rw [exb2]
    exact ws_xb_w hb hu hv huv h1 h2
theorem wy_relate_111 {post : Int32 → SY → Prop} {J38 J50 : Int32 → (Nat → Int32) → (Nat → Int32) → (Nat → Int32) → Prop} {x2 : Int32} {yo yt ya : Nat → Int32} {u v w a b t : Nat} (hn : n ≤ 6) (hd : d ≤ 3) (hu : u < n) (hv : v < n) (ha : a < d) (hb : b < d) (hJ : J50 (nI (b + 1)) yo (upd (upd yt (ws_py u v a b) (nI (w * t))) (ws_py v u b a) (nI (w * t))) ya) : wY_relate_111 post J38 J50 (nI (n * u + v)) x2 (nI w) (nI a) (nI b) (nI t) (nI n) (nI d) e yo yt ya := by
  have hp1 := ws_py_lt (u := u) (v := v) (a := a) (b := b) (by omega) (by omega) (by omega) (by omega)
  have hp2 := ws_py_lt (u := v) (v := u) (a := b) (b := a) (by omega) (by omega) (by omega) (by omega)
  unfold wY_relate_111
  rw [show nI d * nI a + nI b = nI (d * a + b) from by rw [pk_mul, nI_add], pk_mul]
  refine wy_place hn hd hu hv ha hb (wy_mirr hn hd hu hv ha hb ⟨vp_in_nI hp1 (by decide), fun y1 e1 => ⟨vp_in_nI hp2 (by decide), fun y2 e2 s es => ?_⟩⟩)
  rw [nI_clamp (by omega)] at e1
  rw [nI_clamp (by omega)] at e2
  rw [es, e2, e1, nI_1 b]
  exact hJ
theorem wy_relate_50 {post : Int32 → SY → Prop} {J : Int32 → (Nat → Int32) → (Nat → Int32) → (Nat → Int32) → Prop} {yo ya : Nat → Int32} {u v k w a : Nat} (hn : n ≤ 6) (hd2 : 2 ≤ d) (hd : d ≤ 3) (hu : u < n) (hv : v < n) (huv : u ≠ v) (hk : k < 3) (ha : a < d) (hJ : ∀ yt, ws_yb n d (ws_it d u v k w B (d * (a + 1))) yt → J (nI (a + 1)) yo yt ya) : ∀ m b fuel yt, b + m = d → m < fuel → ws_yb n d (ws_it d u v k w B (d * a + b)) yt → wY_relate_50 post J (nI (n * u + v)) (nI k) (nI w) (nI a) (nI n) (nI d) e fuel (nI b) yo yt ya := by
  intro m
  induction m with
  | zero =>
    intro b fuel yt hb hf hy
    obtain ⟨f', rfl⟩ : ∃ m, fuel = m + 1 := ⟨fuel - 1, by omega⟩
    have hbd : b = d := hb
    refine br_t (nI_le (by omega) (by omega)) (fun t et => ?_)
    rw [et, nI_1 a]
    refine hJ yt ?_
    rw [hbd] at hy
    rw [Nat.mul_add, Nat.mul_one]
    exact hy
  | succ m ih =>
    intro b fuel yt hb hf hy
    obtain ⟨f', rfl⟩ : ∃ m, fuel = m + 1 := ⟨fuel - 1, by omega⟩
    have hbd : b < d := by omega
    have z := ws_dm (a := a) hbd
    have hnx : wY_relate_50 post J (nI (n * u + v)) (nI k) (nI w) (nI a) (nI n) (nI d) e f' (nI (b + 1)) yo (upd (upd yt (ws_py u v a b) (nI (w * ws_tt k a b))) (ws_py v u b a) (nI (w * ws_tt k a b))) ya := by
      refine ih (b + 1) f' _ (by omega) (by omega) ?_
      show ws_yb n d (ws_Bw (ws_it d u v k w B (d * a + b)) u v ((d * a + b) / d) ((d * a + b) % d) (w * ws_tt k ((d * a + b) / d) ((d * a + b) % d))) _
      rw [z.1, z.2]
      exact ws_yb_w hy hn hd hu hv huv ha hbd
    have G : ∀ t : Nat, t = ws_tt k a b → wY_relate_111 post J (wY_relate_50 post J (nI (n * u + v)) (nI k) (nI w) (nI a) (nI n) (nI d) e f') (nI (n * u + v)) (nI k) (nI w) (nI a) (nI b) (nI t) (nI n) (nI d) e yo yt ya := fun t et => by
      rw [et]
      exact wy_relate_111 hn hd hu hv ha hbd hnx
    refine br_f (nI_ge (a := b) (b := d) (by omega) (by omega)) (fun x6 e6 => ?_)
    rw [pk_mul] at e6
    rcases (by omega : k = 0 ∨ k = 1 ∨ k = 2) with rfl | rfl | rfl
    · refine br_t rfl (pk_le b a (fun y => ?_) (fun y => ?_))
      · unfold wY_relate_90 wY_relate_92
        refine br_f (by decide) ?_
        rw [pk_sub y]
        refine G (a - b) ?_
        show a - b = (if a < b then b - a else a - b)
        rw [if_neg (by omega)]
      · unfold wY_relate_90 wY_relate_92
        refine br_f (by decide) ?_
        rw [pk_sub (by omega)]
        refine G (b - a) ?_
        show b - a = (if a < b then b - a else a - b)
        rw [if_pos y]
    · unfold wY_relate_92 wY_relate_109
      refine br_f (by decide) (br_t rfl (pk_eq a b (fun y => ?_) (fun y => ?_)))
      · exact G 1 (if_pos y).symm
      · exact G 0 (if_neg y).symm
    · unfold wY_relate_92
      rw [e6]
      exact br_f (by decide) (br_f (by decide) (G (a * b) rfl))
theorem wy_relate_38 {post : Int32 → SY → Prop} {yo ya : Nat → Int32} {u v k w : Nat} (hn : n ≤ 6) (hd2 : 2 ≤ d) (hd : d ≤ 3) (hu : u < n) (hv : v < n) (huv : u ≠ v) (hk : k < 3) (hp : ∀ yt, ws_yb n d (ws_it d u v k w B (d * d)) yt → post 0 (nI n, nI d, e, yo, yt, ya)) : ∀ m a fuel yt, a + m = d → m < fuel → ws_yb n d (ws_it d u v k w B (d * a)) yt → wY_relate_38 post (nI (n * u + v)) (nI k) (nI w) (nI n) (nI d) e fuel (nI a) yo yt ya := by
  intro m
  induction m with
  | zero =>
    intro a fuel yt hb hf hy
    obtain ⟨f', rfl⟩ : ∃ m, fuel = m + 1 := ⟨fuel - 1, by omega⟩
    have had : a = d := hb
    rw [had] at hy ⊢
    exact br_t (nI_le (Nat.le_refl _) (by omega)) (hp yt hy)
  | succ m ih =>
    intro a fuel yt hb hf hy
    obtain ⟨f', rfl⟩ : ∃ m, fuel = m + 1 := ⟨fuel - 1, by omega⟩
    exact br_f (nI_ge (a := a) (b := d) (by omega) (by omega)) ⟨d + 1, wy_relate_50 hn hd2 hd hu hv huv hk (by omega) (fun yt2 hy2 => ih (a + 1) f' yt2 (by omega) (by omega) hy2) d 0 (d + 1) yt (by omega) (by omega) hy⟩
theorem ws_clamp (x : Int32) (lo hi : Nat) (h : lo ≤ hi) (hh : hi < 2 ^ 31) : ∃ j, lo ≤ j ∧ j ≤ hi ∧ ∀ F : Int32 → Prop, F (nI j) → ((nI lo ≤ x → ((x ≤ nI hi → F x) ∧ (¬ x ≤ nI hi → F (nI hi)))) ∧ (¬ nI lo ≤ x → F (nI lo))) := by
  by_cases h1 : nI lo ≤ x
  · by_cases h2 : x ≤ nI hi
    · have h0 : ¬ x < 0 := Int32.not_lt.mpr (Int32.le_trans (nI_pos' (by omega)) h1)
      obtain ⟨j, hj, e⟩ := nI_of h0
      have h3 : lo ≤ j := by
        rw [e, nI_leI (by omega) hj] at h1
        exact h1
      have h4 : j ≤ hi := by
        rw [e, nI_leI hj hh] at h2
        exact h2
      refine ⟨j, h3, h4, fun F hF => br_t h1 (br_t h2 ?_)⟩
      rw [e]
      exact hF
    · exact ⟨hi, h, Nat.le_refl _, fun F hF => br_t h1 (br_f h2 hF)⟩
  · exact ⟨lo, Nat.le_refl _, h, fun F hF => br_f h1 hF⟩
theorem ws_aa_s {i : Nat} {s : Nat} {al : Nat → Int32} (h : ws_aa i (fun _ => s) al) : ws_aa (i + 1) (fun _ => s) (upd al i (nI s)) := by
  intro v hv
  by_cases z : v = i
  · rw [z, pk_us]
  · rw [pk_un z]
    exact h v (by omega)
theorem wx_init_l {post : SX → Prop} {xu xb : Nat → Int32} (hn : n ≤ 6) (hd : d ≤ 3) (hp : ∀ xa, ws_aa n (fun _ => 2 ^ d - 1) xa → post (nI n, nI d, nI (d ^ n), xu, xb, xa)) : ∀ m i fuel xa, i + m = n → m < fuel → ws_aa i (fun _ => 2 ^ d - 1) xa → wX_init_55 post (nI n) (nI d) e fuel (nI (d ^ i)) (nI i) xu xb xa := by
  intro m
  induction m with
  | zero =>
    intro i fuel xa hi hf ha
    obtain ⟨f', rfl⟩ : ∃ m, fuel = m + 1 := ⟨fuel - 1, by omega⟩
    have hin : i = n := hi
    rw [hin] at ha ⊢
    exact br_t (nI_le (Nat.le_refl _) (by omega)) (hp xa ha)
  | succ m ih =>
    intro i fuel xa hi hf ha
    obtain ⟨f', rfl⟩ : ∃ m, fuel = m + 1 := ⟨fuel - 1, by omega⟩
    refine br_f (nI_ge (a := i) (b := n) (by omega) (by omega)) (fun p ep => ⟨vp_in_nI (by omega) (by decide), fun xa2 ea t et => ?_⟩)
    rw [pk_mul, ← Nat.pow_succ] at ep
    rw [nI_clamp (by omega), ws_full d (by omega)] at ea
    rw [et, nI_1 i, ep]
    refine ih (i + 1) f' xa2 (by omega) (by omega) ?_
    rw [ea]
    exact ws_aa_s ha
theorem wy_init_l {post : SY → Prop} {yo yt : Nat → Int32} (hn : n ≤ 6) (hd : d ≤ 3) (hp : ∀ ya, ws_aa n (fun _ => 2 ^ d - 1) ya → post (nI n, nI d, nI (d ^ n), yo, yt, ya)) : ∀ m i fuel ya, i + m = n → m < fuel → ws_aa i (fun _ => 2 ^ d - 1) ya → wY_init_84 post (nI n) (nI d) fuel (nI i) (nI (d ^ i)) yo yt ya := by
  intro m
  induction m with
  | zero =>
    intro i fuel ya hi hf ha
    obtain ⟨f', rfl⟩ : ∃ m, fuel = m + 1 := ⟨fuel - 1, by omega⟩
    have hin : i = n := hi
    rw [hin] at ha ⊢
    exact br_t (nI_le (Nat.le_refl _) (by omega)) (hp ya ha)
  | succ m ih =>
    intro i fuel ya hi hf ha
    obtain ⟨f', rfl⟩ : ∃ m, fuel = m + 1 := ⟨fuel - 1, by omega⟩
    refine br_f (nI_ge (a := i) (b := n) (by omega) (by omega)) (fun p ep => br_f (nI_ge (a := i) (b := 6) (by omega) (by decide)) ⟨vp_in_nI (by omega) (by decide), fun ya2 ea t et => ?_⟩)
    rw [pk_mul, ← Nat.pow_succ] at ep
    rw [nI_clamp (by omega), ws_full d (by omega)] at ea
    rw [et, nI_1 i, ep]
    refine ih (i + 1) f' ya2 (by omega) (by omega) ?_
    rw [ea]
    exact ws_aa_s ha
end
