section
variable {c ln sz mo wr : Int32} {ks xs ys ss wd ro ma rs fo : Nat → Int32}
/-- cells k to i - 1 moved down by one -/
def rc_sh (k i : Nat) (a : Nat → Int32) : Nat → Int32 := fun j => if k ≤ j ∧ j < i then a (j + 1) else a j
theorem rc_sh_0 (k : Nat) (a : Nat → Int32) : rc_sh k k a = a := by
  funext j
  exact if_neg (by omega)
theorem rc_sh_s {k i : Nat} (h : k ≤ i) (a : Nat → Int32) : upd (rc_sh k i a) i (rc_sh k i a (i + 1)) = rc_sh k (i + 1) a := by
  funext j
  by_cases e : j = i
  · subst e
    rw [pk_us, rc_sh, rc_sh, if_neg (by omega), if_pos (by omega)]
  · rw [pk_un e]
    show (if k ≤ j ∧ j < i then a (j + 1) else a j) = (if k ≤ j ∧ j < i + 1 then a (j + 1) else a j)
    by_cases z : k ≤ j ∧ j < i
    · rw [if_pos z, if_pos (by omega)]
    · rw [if_neg z, if_neg (by omega)]
def rc_dR (k : Nat) (R : Nat → rc_Ru) : Nat → rc_Ru := fun r => if r < k then R r else R (r + 1)
theorem rc_B_drop {m k e : Nat} {R : Nat → rc_Ru} (h : rc_B m R ks xs ys ss) (he : m - 1 ≤ e) : rc_B (m - 1) (rc_dR k R) (rc_sh k e ks) (rc_sh k e xs) (rc_sh k e ys) (rc_sh k e ss) := by
  intro r hr
  by_cases z : r < k
  · rw [rc_dR, if_pos z, rc_sh, rc_sh, rc_sh, rc_sh, if_neg (by omega), if_neg (by omega), if_neg (by omega), if_neg (by omega)]
    exact h r (by omega)
  · rw [rc_dR, if_neg z, rc_sh, rc_sh, rc_sh, rc_sh, if_pos (by omega), if_pos (by omega), if_pos (by omega), if_pos (by omega)]
    exact h (r + 1) (by omega)
theorem rx_rule_t {post : Int32 → Prop} {m k : Nat} (hm : m ≤ 5) (hk : k < m) (h : post 1) : wpX_isRule post (nI m, wr, ks, xs, ys, ss, fo) (nI k) :=
  br_f (nI_pos (by omega)) (pk_le m k (fun z => absurd z (by omega)) (fun _ => h))
theorem rx_rule_n {post : Int32 → Prop} {m : Nat} {x : Int32} (hx : x < 0) (h : post 0) : wpX_isRule post (nI m, wr, ks, xs, ys, ss, fo) x := br_t hx h
theorem rx_rule_f {post : Int32 → Prop} {m k : Nat} (hm : m ≤ 5) (hk : ¬ k < m) (h3 : k < 2 ^ 31) (h : post 0) : wpX_isRule post (nI m, wr, ks, xs, ys, ss, fo) (nI k) :=
  br_f (nI_pos h3) (pk_le m k (fun _ => h) (fun z => absurd z hk))
theorem rx_to_kinds_loop {post : SX → Prop} {k : Nat} (h : post (c, wr, rc_sh k 4 ks, xs, ys, ss, fo)) : ∀ d i, i + d = 4 → k ≤ i → wX_takeOut__kinds_2 post c wr (d + 1) (nI i) (rc_sh k i ks) xs ys ss fo := by
  intro d
  induction d with
  | zero =>
    intro i hi hk
    obtain rfl : i = 4 := by omega
    exact pk_le 4 4 (fun _ => h) (fun z => absurd z (by omega))
  | succ d ih =>
    intro i hi hk
    refine pk_le 4 i (fun z => absurd z (by omega)) (fun _ => ?_)
    rw [nI_1 i]
    refine ⟨vp_in_nI (by omega) (by decide), vp_in_nI (by omega) (by decide), nm_r (e' := rc_sh k (i + 1) ks) ?_ (nm_e (ih (i + 1) (by omega) (by omega)))⟩
    rw [nI_clamp (show i < 2 ^ 31 by omega), nI_clamp (show i + 1 < 2 ^ 31 by omega), rc_sh_s hk]
theorem rx_to_kinds {post : SX → Prop} {k : Nat} (hk : k ≤ 4) (h : post (c, wr, rc_sh k 4 ks, xs, ys, ss, fo)) : wpX_takeOut__kinds post (c, wr, ks, xs, ys, ss, fo) (nI k) := by
  have e := rx_to_kinds_loop h (4 - k) k (by omega) (Nat.le_refl k)
  rw [rc_sh_0] at e
  exact ⟨_, e⟩
theorem rx_to_xs_loop {post : SX → Prop} {k : Nat} (h : post (c, wr, ks, rc_sh k 4 xs, ys, ss, fo)) : ∀ d i, i + d = 4 → k ≤ i → wX_takeOut__xs_2 post c wr (d + 1) (nI i) ks (rc_sh k i xs) ys ss fo := by
  intro d
  induction d with
  | zero =>
    intro i hi hk
    obtain rfl : i = 4 := by omega
    exact pk_le 4 4 (fun _ => h) (fun z => absurd z (by omega))
  | succ d ih =>
    intro i hi hk
    refine pk_le 4 i (fun z => absurd z (by omega)) (fun _ => ?_)
    rw [nI_1 i]
    refine ⟨vp_in_nI (by omega) (by decide), vp_in_nI (by omega) (by decide), nm_r (e' := rc_sh k (i + 1) xs) ?_ (nm_e (ih (i + 1) (by omega) (by omega)))⟩
    rw [nI_clamp (show i < 2 ^ 31 by omega), nI_clamp (show i + 1 < 2 ^ 31 by omega), rc_sh_s hk]
theorem rx_to_xs {post : SX → Prop} {k : Nat} (hk : k ≤ 4) (h : post (c, wr, ks, rc_sh k 4 xs, ys, ss, fo)) : wpX_takeOut__xs post (c, wr, ks, xs, ys, ss, fo) (nI k) := by
  have e := rx_to_xs_loop h (4 - k) k (by omega) (Nat.le_refl k)
  rw [rc_sh_0] at e
  exact ⟨_, e⟩
theorem rx_to_ys_loop {post : SX → Prop} {k : Nat} (h : post (c, wr, ks, xs, rc_sh k 4 ys, ss, fo)) : ∀ d i, i + d = 4 → k ≤ i → wX_takeOut__ys_2 post c wr (d + 1) (nI i) ks xs (rc_sh k i ys) ss fo := by
  intro d
  induction d with
  | zero =>
    intro i hi hk
    obtain rfl : i = 4 := by omega
    exact pk_le 4 4 (fun _ => h) (fun z => absurd z (by omega))
  | succ d ih =>
    intro i hi hk
    refine pk_le 4 i (fun z => absurd z (by omega)) (fun _ => ?_)
    rw [nI_1 i]
    refine ⟨vp_in_nI (by omega) (by decide), vp_in_nI (by omega) (by decide), nm_r (e' := rc_sh k (i + 1) ys) ?_ (nm_e (ih (i + 1) (by omega) (by omega)))⟩
    rw [nI_clamp (show i < 2 ^ 31 by omega), nI_clamp (show i + 1 < 2 ^ 31 by omega), rc_sh_s hk]
theorem rx_to_ys {post : SX → Prop} {k : Nat} (hk : k ≤ 4) (h : post (c, wr, ks, xs, rc_sh k 4 ys, ss, fo)) : wpX_takeOut__ys post (c, wr, ks, xs, ys, ss, fo) (nI k) := by
  have e := rx_to_ys_loop h (4 - k) k (by omega) (Nat.le_refl k)
  rw [rc_sh_0] at e
  exact ⟨_, e⟩
theorem rx_to_sideSets_loop {post : SX → Prop} {k : Nat} (h : post (c, wr, ks, xs, ys, rc_sh k 4 ss, fo)) : ∀ d i, i + d = 4 → k ≤ i → wX_takeOut__sideSets_2 post c wr (d + 1) (nI i) ks xs ys (rc_sh k i ss) fo := by
  intro d
  induction d with
  | zero =>
    intro i hi hk
    obtain rfl : i = 4 := by omega
    exact pk_le 4 4 (fun _ => h) (fun z => absurd z (by omega))
  | succ d ih =>
    intro i hi hk
    refine pk_le 4 i (fun z => absurd z (by omega)) (fun _ => ?_)
    rw [nI_1 i]
    refine ⟨vp_in_nI (by omega) (by decide), vp_in_nI (by omega) (by decide), nm_r (e' := rc_sh k (i + 1) ss) ?_ (nm_e (ih (i + 1) (by omega) (by omega)))⟩
    rw [nI_clamp (show i < 2 ^ 31 by omega), nI_clamp (show i + 1 < 2 ^ 31 by omega), rc_sh_s hk]
theorem rx_to_sideSets {post : SX → Prop} {k : Nat} (hk : k ≤ 4) (h : post (c, wr, ks, xs, ys, rc_sh k 4 ss, fo)) : wpX_takeOut__sideSets post (c, wr, ks, xs, ys, ss, fo) (nI k) := by
  have e := rx_to_sideSets_loop h (4 - k) k (by omega) (Nat.le_refl k)
  rw [rc_sh_0] at e
  exact ⟨_, e⟩
theorem rc_m1 {m : Nat} (h : 0 < m) : nI m - 1 = nI (m - 1) := pk_sub (b := 1) h
theorem ry_drop_loop {post : Int32 → SY → Prop} {k e : Nat} (he : e ≤ 4) (h : post (nI e) (nI e, ln, sz, mo, rc_sh k e ks, rc_sh k e xs, rc_sh k e ys, rc_sh k e ss, wd, ro, ma, rs)) : ∀ d i, i + d = e → k ≤ i → wY_drop_27 post (nI e) ln sz mo (d + 1) (nI i) (rc_sh k i ks) (rc_sh k i xs) (rc_sh k i ys) (rc_sh k i ss) wd ro ma rs := by
  intro d
  induction d with
  | zero =>
    intro i hi hk
    obtain rfl : i = e := by omega
    exact pk_le i i (fun _ => h) (fun z => absurd z (by omega))
  | succ d ih =>
    intro i hi hk
    have h1 : vp_in (nI (i + 1)) 5 := vp_in_nI (by omega) (by decide)
    have h0 : vp_in (nI i) 5 := vp_in_nI (by omega) (by decide)
    have c1 := nI_clamp (show i + 1 < 2 ^ 31 by omega)
    have c0 := nI_clamp (show i < 2 ^ 31 by omega)
    refine pk_le e i (fun z => absurd z (by omega)) (fun _ => ?_)
    rw [nI_1 i]
    exact ⟨h1, h0, nm_r (e' := rc_sh k (i + 1) ks) (by rw [c0, c1, rc_sh_s hk]) ⟨h1, h0, nm_r (e' := rc_sh k (i + 1) xs) (by rw [c0, c1, rc_sh_s hk]) ⟨h1, h0, nm_r (e' := rc_sh k (i + 1) ys) (by rw [c0, c1, rc_sh_s hk]) ⟨h1, h0, nm_r (e' := rc_sh k (i + 1) ss) (by rw [c0, c1, rc_sh_s hk]) (nm_e (ih (i + 1) (by omega) (by omega)))⟩⟩⟩⟩
theorem i_vc_drop {k : Nat} {u : SX} {v : SY} (I : i_Rel k u v) (hk : k + 5 ≤ 2560) (v1 : Int32) : wpX_drop (fun r u' => wpY_drop (fun r' v' => r' = r ∧ i_Rel (k + 5) u' v') v v1) u v1 := by
  obtain ⟨m, R, t, kx, xx, yx, sx, fo, ky, xy, yy, sy, wy, ro, ma, rs, sz, mo, rfl, rfl, hm, hX, hY, hW, hl, hH⟩ := I
  unfold wpX_drop
  rcases rc_cls v1 with h | ⟨j, hj, rfl⟩
  · exact rx_rule_n h (br_t rfl (br_t h ⟨rfl, rc_mk hm hX hY hW hl hH⟩))
  by_cases hjm : j < m
  · refine rx_rule_t hm hjm (br_f (by decide) ?_)
    refine rx_to_kinds (by omega) (rx_to_xs (by omega) (rx_to_ys (by omega) (rx_to_sideSets (by omega) (nm_r (rc_m1 (by omega)) ?_))))
    unfold wpY_drop
    refine br_f (nI_pos hj) (pk_lt j m (fun _ => nm_r (rc_m1 (by omega)) ?_) (fun z => absurd z (by omega)))
    have g := ry_drop_loop (post := fun r' v' => r' = nI (m - 1) ∧ i_Rel (k + 5) (nI (m - 1), nI (rc_cd t), rc_sh j 4 kx, rc_sh j 4 xx, rc_sh j 4 yx, rc_sh j 4 sx, fo) v') (ln := nI t.length) (sz := sz) (mo := mo) (ks := ky) (xs := xy) (ys := yy) (ss := sy) (wd := wy) (ro := ro) (ma := ma) (rs := rs) (k := j) (e := m - 1) (by omega) ⟨rfl, rc_mk (R := rc_dR j R) (by omega) (rc_B_drop hX (by omega)) (rc_B_drop hY (Nat.le_refl _)) hW hl hH⟩ (m - 1 - j) j (by omega) (Nat.le_refl j)
    rw [rc_sh_0, rc_sh_0, rc_sh_0, rc_sh_0] at g
    exact ⟨_, g⟩
  · exact rx_rule_f hm hjm hj (br_t rfl (br_f (nI_pos hj) (pk_lt j m (fun z => absurd z hjm) (fun _ => ⟨rfl, rc_mk hm hX hY hW hl hH⟩))))
/-- cells k and k + 1 exchanged -/
def rc_sw (k : Nat) (a : Nat → Int32) : Nat → Int32 := upd (upd a k (a (k + 1))) (k + 1) (a k)
def rc_sR (k : Nat) (R : Nat → rc_Ru) : Nat → rc_Ru := fun r => if r = k then R (k + 1) else if r = k + 1 then R k else R r
theorem rc_sw_1 (k : Nat) (a : Nat → Int32) : rc_sw k a k = a (k + 1) := by rw [rc_sw, pk_un (by omega), pk_us]
theorem rc_sw_2 (k : Nat) (a : Nat → Int32) : rc_sw k a (k + 1) = a k := pk_us
theorem rc_sw_3 {k j : Nat} (a : Nat → Int32) (h1 : ¬ j = k) (h2 : ¬ j = k + 1) : rc_sw k a j = a j := by rw [rc_sw, pk_un h2, pk_un h1]
theorem rc_sR_1 (k : Nat) (R : Nat → rc_Ru) : rc_sR k R k = R (k + 1) := if_pos rfl
theorem rc_sR_2 (k : Nat) (R : Nat → rc_Ru) : rc_sR k R (k + 1) = R k := by rw [rc_sR, if_neg (by omega), if_pos rfl]
theorem rc_sR_3 {k j : Nat} (R : Nat → rc_Ru) (h1 : ¬ j = k) (h2 : ¬ j = k + 1) : rc_sR k R j = R j := by rw [rc_sR, if_neg h1, if_neg h2]
theorem rc_sR_sR (k : Nat) (R : Nat → rc_Ru) : rc_sR k (rc_sR k R) = R := by
  funext r
  by_cases e1 : r = k
  · subst e1
    rw [rc_sR_1, rc_sR_2]
  · by_cases e2 : r = k + 1
    · subst e2
      rw [rc_sR_2, rc_sR_1]
    · rw [rc_sR_3 _ e1 e2, rc_sR_3 _ e1 e2]
theorem rc_B_swap {m k : Nat} {R : Nat → rc_Ru} (h : rc_B m R ks xs ys ss) (hk : k + 1 < m) : rc_B m (rc_sR k R) (rc_sw k ks) (rc_sw k xs) (rc_sw k ys) (rc_sw k ss) := by
  intro r hr
  by_cases e1 : r = k
  · subst e1
    rw [rc_sR_1, rc_sw_1, rc_sw_1, rc_sw_1, rc_sw_1]
    exact h _ hk
  · by_cases e2 : r = k + 1
    · subst e2
      rw [rc_sR_2, rc_sw_2, rc_sw_2, rc_sw_2, rc_sw_2]
      exact h _ (by omega)
    · rw [rc_sR_3 _ e1 e2, rc_sw_3 _ e1 e2, rc_sw_3 _ e1 e2, rc_sw_3 _ e1 e2, rc_sw_3 _ e1 e2]
      exact h r hr
theorem rc_pr {A B : Prop} {m k : Nat} (hm : m ≤ 5) (hk : k < 2 ^ 31) (f : ¬ k + 1 < m → A) (g : k + 1 < m → B) : ((nI m - 1) ≤ nI k → A) ∧ (¬ (nI m - 1) ≤ nI k → B) := by
  by_cases h0 : 0 < m
  · rw [rc_m1 h0]
    exact pk_le (m - 1) k (fun z => f (by omega)) (fun z => g (by omega))
  · obtain rfl : m = 0 := by omega
    exact br_t (Int32.le_trans (show nI 0 - 1 ≤ 0 by decide) (nI_pos' hk)) (f (by omega))
theorem rc_pr' {A B : Prop} {m k : Nat} (hm : m ≤ 5) (hk : k < 2 ^ 31) (g : k + 1 < m → B) (f : ¬ k + 1 < m → A) : (nI k < (nI m - 1) → B) ∧ (¬ nI k < (nI m - 1) → A) := by
  have h := rc_pr hm hk f g
  exact ⟨fun z => h.2 (Int32.not_le.mpr z), fun z => h.1 (Int32.not_lt.mp z)⟩
theorem rx_ex_kinds {post : SX → Prop} {k : Nat} (hk : k < 4) (h : post (c, wr, rc_sw k ks, xs, ys, ss, fo)) : wpX_exchange__kinds post (c, wr, ks, xs, ys, ss, fo) (nI k) := by
  have h1 : vp_in (nI (k + 1)) 5 := vp_in_nI (by omega) (by decide)
  have h0 : vp_in (nI k) 5 := vp_in_nI (by omega) (by decide)
  have c1 := nI_clamp (show k + 1 < 2 ^ 31 by omega)
  have c0 := nI_clamp (show k < 2 ^ 31 by omega)
  unfold wpX_exchange__kinds
  rw [nI_1 k]
  exact ⟨h0, nm_r (e' := ks k) (by rw [c0]) ⟨h1, h0, nm_r (e' := upd ks k (ks (k + 1))) (by rw [c0, c1]) ⟨h1, nm_r (e' := rc_sw k ks) (by rw [c1]; rfl) h⟩⟩⟩
theorem rx_ex_xs {post : SX → Prop} {k : Nat} (hk : k < 4) (h : post (c, wr, ks, rc_sw k xs, ys, ss, fo)) : wpX_exchange__xs post (c, wr, ks, xs, ys, ss, fo) (nI k) := by
  have h1 : vp_in (nI (k + 1)) 5 := vp_in_nI (by omega) (by decide)
  have h0 : vp_in (nI k) 5 := vp_in_nI (by omega) (by decide)
  have c1 := nI_clamp (show k + 1 < 2 ^ 31 by omega)
  have c0 := nI_clamp (show k < 2 ^ 31 by omega)
  unfold wpX_exchange__xs
  rw [nI_1 k]
  exact ⟨h0, nm_r (e' := xs k) (by rw [c0]) ⟨h1, h0, nm_r (e' := upd xs k (xs (k + 1))) (by rw [c0, c1]) ⟨h1, nm_r (e' := rc_sw k xs) (by rw [c1]; rfl) h⟩⟩⟩
theorem rx_ex_ys {post : SX → Prop} {k : Nat} (hk : k < 4) (h : post (c, wr, ks, xs, rc_sw k ys, ss, fo)) : wpX_exchange__ys post (c, wr, ks, xs, ys, ss, fo) (nI k) := by
  have h1 : vp_in (nI (k + 1)) 5 := vp_in_nI (by omega) (by decide)
  have h0 : vp_in (nI k) 5 := vp_in_nI (by omega) (by decide)
  have c1 := nI_clamp (show k + 1 < 2 ^ 31 by omega)
  have c0 := nI_clamp (show k < 2 ^ 31 by omega)
  unfold wpX_exchange__ys
  rw [nI_1 k]
  exact ⟨h0, nm_r (e' := ys k) (by rw [c0]) ⟨h1, h0, nm_r (e' := upd ys k (ys (k + 1))) (by rw [c0, c1]) ⟨h1, nm_r (e' := rc_sw k ys) (by rw [c1]; rfl) h⟩⟩⟩
theorem rx_ex_sideSets {post : SX → Prop} {k : Nat} (hk : k < 4) (h : post (c, wr, ks, xs, ys, rc_sw k ss, fo)) : wpX_exchange__sideSets post (c, wr, ks, xs, ys, ss, fo) (nI k) := by
  have h1 : vp_in (nI (k + 1)) 5 := vp_in_nI (by omega) (by decide)
  have h0 : vp_in (nI k) 5 := vp_in_nI (by omega) (by decide)
  have c1 := nI_clamp (show k + 1 < 2 ^ 31 by omega)
  have c0 := nI_clamp (show k < 2 ^ 31 by omega)
  unfold wpX_exchange__sideSets
  rw [nI_1 k]
  exact ⟨h0, nm_r (e' := ss k) (by rw [c0]) ⟨h1, h0, nm_r (e' := upd ss k (ss (k + 1))) (by rw [c0, c1]) ⟨h1, nm_r (e' := rc_sw k ss) (by rw [c1]; rfl) h⟩⟩⟩
theorem ry_swap {post : Int32 → SY → Prop} {m k : Nat} (hm : m ≤ 5) (hk : k + 1 < m) (h : post 0 (nI m, ln, sz, mo, rc_sw k ks, rc_sw k xs, rc_sw k ys, rc_sw k ss, wd, ro, ma, rs)) : wpY_swap post (nI m, ln, sz, mo, ks, xs, ys, ss, wd, ro, ma, rs) (nI k) := by
  have h1 : vp_in (nI (k + 1)) 5 := vp_in_nI (by omega) (by decide)
  have h0 : vp_in (nI k) 5 := vp_in_nI (by omega) (by decide)
  have c1 := nI_clamp (show k + 1 < 2 ^ 31 by omega)
  have c0 := nI_clamp (show k < 2 ^ 31 by omega)
  unfold wpY_swap
  rw [nI_1 k]
  refine br_f (nI_pos (by omega)) (rc_pr' hm (by omega) (fun _ => br_t rfl ?_) (fun z => absurd hk z))
  exact ⟨h0, nm_r (e' := ks k) (by rw [c0]) ⟨h0, nm_r (e' := xs k) (by rw [c0]) ⟨h0, nm_r (e' := ys k) (by rw [c0]) ⟨h0, nm_r (e' := ss k) (by rw [c0]) ⟨h1, h0, nm_r (e' := upd ks k (ks (k + 1))) (by rw [c0, c1]) ⟨h1, h0, nm_r (e' := upd xs k (xs (k + 1))) (by rw [c0, c1]) ⟨h1, h0, nm_r (e' := upd ys k (ys (k + 1))) (by rw [c0, c1]) ⟨h1, h0, nm_r (e' := upd ss k (ss (k + 1))) (by rw [c0, c1]) ⟨h1, nm_r (e' := rc_sw k ks) (by rw [c1]; rfl) ⟨h1, nm_r (e' := rc_sw k xs) (by rw [c1]; rfl) ⟨h1, nm_r (e' := rc_sw k ys) (by rw [c1]; rfl) ⟨h1, nm_r (e' := rc_sw k ss) (by rw [c1]; rfl) h⟩⟩⟩⟩⟩⟩⟩⟩⟩⟩⟩⟩
theorem i_vc_swap {k : Nat} {u : SX} {v : SY} (I : i_Rel k u v) (hk : k + 5 ≤ 2560) (v1 : Int32) : wpX_swap (fun r u' => wpY_swap (fun r' v' => r' = r ∧ i_Rel (k + 5) u' v') v v1) u v1 := by
  obtain ⟨m, R, t, kx, xx, yx, sx, fo, ky, xy, yy, sy, wy, ro, ma, rs, sz, mo, rfl, rfl, hm, hX, hY, hW, hl, hH⟩ := I
  unfold wpX_swap
  rcases rc_cls v1 with h | ⟨j, hj, rfl⟩
  · refine br_t h (br_t rfl ?_)
    unfold wpY_swap
    exact br_t h (br_f (by decide) ⟨rfl, rc_mk hm hX hY hW hl hH⟩)
  · refine br_f (nI_pos hj) (rc_pr hm hj (fun z => br_t rfl ?_) (fun z => br_f (by decide) ?_))
    · unfold wpY_swap
      exact br_f (nI_pos hj) (rc_pr' hm hj (fun y => absurd y z) (fun _ => br_f (by decide) ⟨rfl, rc_mk hm hX hY hW hl hH⟩))
    · refine rx_ex_kinds (by omega) (rx_ex_xs (by omega) (rx_ex_ys (by omega) (rx_ex_sideSets (by omega) ?_)))
      exact ry_swap hm z ⟨rfl, rc_mk hm (rc_B_swap hX z) (rc_B_swap hY z) hW hl hH⟩
theorem i_vc_push {k : Nat} {u : SX} {v : SY} (I : i_Rel k u v) (hk : k + 5 ≤ 2560) (v1 : Int32) : wpX_push (fun r u' => wpY_push (fun r' v' => r' = r ∧ i_Rel (k + 5) u' v') v v1) u v1 := by
  obtain ⟨m, R, t, kx, xx, yx, sx, fo, ky, xy, yy, sy, wy, ro, ma, rs, sz, mo, rfl, rfl, hm, hX, hY, hW, hl, hH⟩ := I
  unfold wpX_push wpY_push
  rcases rc_cls v1 with h | ⟨j, hj, rfl⟩
  · exact rx_isl_n h (br_t rfl (ry_bad_n h (br_f (by decide) ⟨rfl, rc_mk hm hX hY hW hl hH⟩)))
  by_cases h4 : j < 4
  · refine rx_isl_t h4 (br_f (by decide) ?_)
    by_cases ht : t.length < 12
    · have hs := rc_cd_small hW ht
      obtain ⟨e1, e2⟩ := rc_app_lt j ht
      have hW' := rc_W_app hW (rc_W_one h4)
      have hl' : (t ++ [j]).length = t.length + 1 := by rw [List.length_append, List.length_singleton]
      refine br_t (nI_lt (b := 16777216) hs (by decide)) ?_
      rw [← e2]
      refine rx_app hW h4 ?_
      rw [e1, e2]
      refine rx_len hW' (by omega) (ry_bad_t h4 (br_t rfl ?_))
      refine pk_eq t.length 12 (fun z => absurd z (by omega)) (fun _ => ⟨vp_in_nI ht (by decide), nm_r (e' := upd wy t.length (nI j)) (by rw [nI_clamp (by omega)]) (nm_r (e' := nI (t ++ [j]).length) (by rw [nI_1, hl']) ⟨rfl, rc_mk hm hX hY hW' (by omega) (rc_H_put hH j)⟩)⟩)
    · have hf := rc_cd_full hW (by omega)
      have hc := rc_cd_lt hW hl
      refine br_f (nI_nlt (b := 16777216) hf (by omega)) (ry_bad_t h4 (br_t rfl (pk_eq t.length 12 (fun _ => ⟨rfl, rc_mk hm hX hY hW hl hH⟩) (fun z => absurd (show t.length = 12 by omega) z))))
  · exact rx_isl_f h4 hj (br_t rfl (ry_bad_f h4 hj (br_f (by decide) ⟨rfl, rc_mk hm hX hY hW hl hH⟩)))
theorem i_vc_clear {k : Nat} {u : SX} {v : SY} (I : i_Rel k u v) (hk : k + 5 ≤ 2560) : wpX_clear (fun r u' => wpY_clear (fun r' v' => r' = r ∧ i_Rel (k + 5) u' v') v) u := by
  obtain ⟨m, R, t, kx, xx, yx, sx, fo, ky, xy, yy, sy, wy, ro, ma, rs, sz, mo, rfl, rfl, hm, hX, hY, hW, hl, hH⟩ := I
  unfold wpX_clear wpY_clear
  exact rx_len hW hl ⟨rfl, rc_mk (t := []) hm hX hY rc_W_nil (by decide) (rc_P_0 _ _)⟩
end
