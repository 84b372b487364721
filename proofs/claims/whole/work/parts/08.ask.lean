section
variable {c ln sz mo wr : Int32} {ks xs ys ss wd ro ma rs fo : Nat → Int32}
theorem rx_cas0 {post : Int32 → Prop} {c : Int32} {R : Nat → rc_Ru} {m : Nat} (hm : m ≤ 5) (hB : rc_B m R ks xs ys ss) {b : Nat} (hb : b ≤ m) {l : List Nat} (hW : rc_W l) (hl : l.length ≤ 12) (h : post (nI (rc_cd (rc_ca R 0 b l)))) : wpX_cascade post (c, wr, ks, xs, ys, ss, fo) (nI (rc_cd l)) 0 (nI b) := by
  have e := rx_cas (post := post) (c := c) (wd := wr) (fo := fo) hm hB 0 b (by omega) hW hl h
  rw [Nat.zero_add] at e
  exact e
theorem ry_app_loop {post : Int32 → SY → Prop} {t : List Nat} (ht : t.length ≤ 12) (hm : rc_H t ro) (hp : ∀ wd', rc_H t wd' → post (nI t.length) (c, nI t.length, nI t.length, mo, ks, xs, ys, ss, wd', ro, ma, rs)) : ∀ d i wd, i + d = t.length → rc_P t i wd → wY_apply_22 post c (nI t.length) (nI t.length) mo (d + 1) (nI i) ks xs ys ss wd ro ma rs := by
  intro d
  induction d with
  | zero =>
    intro i wd hi hP
    obtain rfl : i = t.length := by omega
    exact pk_le t.length t.length (fun _ => hp wd hP) (fun z => absurd z (by omega))
  | succ d ih =>
    intro i wd hi hP
    refine pk_le t.length i (fun z => absurd z (by omega)) (fun _ => ⟨vp_in_nI (by omega) (by decide), vp_in_nI (by omega) (by decide), nm_r (e' := upd wd i (nI (t.getD i 4))) ?_ (nm_r (nI_1 i) (ih (i + 1) _ (by omega) (rc_P_s hP)))⟩)
    rw [nI_clamp (by omega), hm i (by omega)]
theorem rc_ca_W0 {m b : Nat} {R : Nat → rc_Ru} (hB : rc_B m R ks xs ys ss) (hb : b ≤ m) {l : List Nat} (hW : rc_W l) : rc_W (rc_ca R 0 b l) := rc_ca_W b 0 (fun r _ h2 => rc_B_y hB (by omega)) hW
theorem i_vc_apply {k : Nat} {u : SX} {v : SY} (I : i_Rel k u v) (hk : k + 5 ≤ 2560) : wpX_apply (fun r u' => wpY_apply (fun r' v' => r' = r ∧ i_Rel (k + 5) u' v') v) u := by
  obtain ⟨m, R, t, kx, xx, yx, sx, fo, ky, xy, yy, sy, wy, ro, ma, rs, sz, mo, rfl, rfl, hm, hX, hY, hW, hl, hH⟩ := I
  have hW' := rc_ca_W0 hX (Nat.le_refl m) hW
  have hl' := rc_ca_len (R := R) m 0 hl
  unfold wpX_apply
  refine rx_cas0 hm hX (Nat.le_refl m) hW hl (rx_len hW' hl' ?_)
  unfold wpY_apply
  refine ry_take hl hH (fun ro' h => ry_all hm hY (Nat.le_refl m) hW hl h (fun mo' ro'' ma' h' => ?_))
  exact ⟨_, ry_app_loop hl' h' (fun wd' h'' => ⟨rfl, rc_mk hm hX hY hW' hl' h''⟩) (rc_ca R 0 m t).length 0 wy (by omega) (rc_P_0 _ _)⟩
theorem i_vc_after {k : Nat} {u : SX} {v : SY} (I : i_Rel k u v) (hk : k + 5 ≤ 2560) (v1 : Int32) : wpX_after (fun r => wpY_after (fun r' v' => r' = r ∧ i_Rel (k + 5) u v') v v1) u v1 := by
  obtain ⟨m, R, t, kx, xx, yx, sx, fo, ky, xy, yy, sy, wy, ro, ma, rs, sz, mo, rfl, rfl, hm, hX, hY, hW, hl, hH⟩ := I
  unfold wpX_after wpY_after
  rcases rc_cls v1 with h | ⟨j, hj, rfl⟩
  · exact br_t h (br_t h ⟨rfl, rc_mk hm hX hY hW hl hH⟩)
  refine br_f (nI_pos hj) (pk_le j m (fun hjm => ?_) (fun hjm => ?_))
  · refine rx_cas0 hm hX hjm hW hl (br_f (nI_pos hj) (pk_le j m (fun _ => ?_) (fun z => absurd z (by omega))))
    exact ry_take hl hH (fun ro' h => ry_all hm hY hjm hW hl h (fun mo' ro'' ma' h' => ry_cor (rc_ca_len j 0 hl) h' ⟨rfl, rc_mk hm hX hY hW hl hH⟩))
  · exact br_f (nI_pos hj) (pk_le j m (fun z => absurd z (by omega)) (fun _ => ⟨rfl, rc_mk hm hX hY hW hl hH⟩))
theorem i_vc_letter {k : Nat} {u : SX} {v : SY} (I : i_Rel k u v) (hk : k + 5 ≤ 2560) (v1 : Int32) : wpX_letter (fun r => wpY_letter (fun r' v' => r' = r ∧ i_Rel (k + 5) u v') v v1) u v1 := by
  obtain ⟨m, R, t, kx, xx, yx, sx, fo, ky, xy, yy, sy, wy, ro, ma, rs, sz, mo, rfl, rfl, hm, hX, hY, hW, hl, hH⟩ := I
  have hW' := rc_ca_W0 hX (Nat.le_refl m) hW
  have hl' := rc_ca_len (R := R) m 0 hl
  unfold wpX_letter wpY_letter
  refine rx_cas0 hm hX (Nat.le_refl m) hW hl (rx_len hW' hl' ?_)
  rcases rc_cls v1 with h | ⟨j, hj, rfl⟩
  · exact br_t h (ry_take hl hH (fun ro' h1 => ry_all hm hY (Nat.le_refl m) hW hl h1 (fun mo' ro'' ma' h' => br_t h ⟨rfl, rc_mk hm hX hY hW hl hH⟩)))
  refine br_f (nI_pos hj) (pk_lt j (rc_ca R 0 m t).length (fun hjl => ?_) (fun hjl => ?_))
  · refine rx_le hW' hl' (by omega) (ry_take hl hH (fun ro' h1 => ry_all hm hY (Nat.le_refl m) hW hl h1 (fun mo' ro'' ma' h' => ?_)))
    refine br_f (nI_pos hj) (pk_lt j (rc_ca R 0 m t).length (fun _ => ⟨vp_in_nI (by omega) (by decide), ?_, rc_mk hm hX hY hW hl hH⟩) (fun z => absurd z (by omega)))
    rw [nI_clamp hj, h' j hjl]
  · exact ry_take hl hH (fun ro' h1 => ry_all hm hY (Nat.le_refl m) hW hl h1 (fun mo' ro'' ma' h' => br_f (nI_pos hj) (pk_lt j (rc_ca R 0 m t).length (fun z => absurd z (by omega)) (fun _ => ⟨rfl, rc_mk hm hX hY hW hl hH⟩))))
theorem rc_N {n : Nat} (hn : n ≤ 5) : 4 ^ n ≤ 1024 := by
  have h := rc_p4 hn
  exact h
theorem rc_N0 (n : Nat) : 0 < 4 ^ n := Nat.pow_pos (by decide)
theorem rc_fw {n : Nat} (hn : n ≤ 5) : (1 : Int32) <<< ((2 * nI n) &&& 31) = nI (4 ^ n) := by
  have h := rc_N hn
  rw [rx_2]
  have e := pk_shlN (n := 1) (nI (2 * n) &&& 31) (2 * n) (s_l _ (by omega)) (by rw [rx_44]; omega)
  rw [rx_44, Nat.one_mul] at e
  exact e
theorem rc_fw2 {n : Nat} (hn : n ≤ 5) : (2 : Int32) * ((1 : Int32) <<< ((2 * nI n) &&& 31)) = nI (2 * 4 ^ n) := by rw [rc_fw hn, rx_2]
theorem rx_fw {post : Int32 → Prop} {n : Nat} (hn : n ≤ 5) (h : post (nI (4 ^ n))) : wpX_firstWord post (nI n) := by
  unfold wpX_firstWord
  rw [rc_fw hn]
  exact h
theorem ry_lst {post : Int32 → Prop} {n : Nat} (hn : n ≤ 5) (h : post (nI (4 ^ n))) : wpY_least post (c, ln, sz, mo, ks, xs, ys, ss, wd, ro, ma, rs) (nI n) := by
  unfold wpY_least
  rw [rc_fw hn]
  exact h
/-- the asked length: refused on both sides, or a number up to 5 -/
def rc_bad (x : Int32) : Prop := x < 0 ∨ ∃ j : Nat, 5 < j ∧ j < 2 ^ 31 ∧ x = nI j
theorem rc_n5 (x : Int32) : rc_bad x ∨ ∃ n : Nat, n ≤ 5 ∧ x = nI n := by
  rcases rc_cls x with h | ⟨j, hj, e⟩
  · exact Or.inl (Or.inl h)
  · by_cases h5 : j ≤ 5
    · exact Or.inr ⟨j, h5, e⟩
    · exact Or.inl (Or.inr ⟨j, by omega, hj, e⟩)
theorem rx_al_f {post : Int32 → Prop} {x : Int32} (hb : rc_bad x) (h : post 0) : wpX_isAskedLength post x := by
  rcases hb with z | ⟨j, h1, h2, rfl⟩
  · exact br_t z h
  · exact br_f (nI_pos h2) (pk_lt 5 j (fun _ => h) (fun z => absurd z (by omega)))
theorem rx_al_t {post : Int32 → Prop} {n : Nat} (hn : n ≤ 5) (h : post 1) : wpX_isAskedLength post (nI n) :=
  br_f (nI_pos (by omega)) (pk_lt 5 n (fun z => absurd z (by omega)) (fun _ => h))
theorem ry_ns_f {post : Int32 → Prop} {x : Int32} (hb : rc_bad x) (h : post 1) : wpY_noSize post (c, ln, sz, mo, ks, xs, ys, ss, wd, ro, ma, rs) x := by
  rcases hb with z | ⟨j, h1, h2, rfl⟩
  · exact br_t z h
  · exact br_f (nI_pos h2) (pk_le j 5 (fun z => absurd z (by omega)) (fun _ => h))
theorem ry_ns_t {post : Int32 → Prop} {n : Nat} (hn : n ≤ 5) (h : post 0) : wpY_noSize post (c, ln, sz, mo, ks, xs, ys, ss, wd, ro, ma, rs) (nI n) :=
  br_f (nI_pos (by omega)) (pk_le n 5 (fun _ => h) (fun z => absurd z (by omega)))
end
section
variable {ln : Int32} {kx xx yx sx fo ky xy yy sy wy rs : Nat → Int32} {R : Nat → rc_Ru} {m n : Nat}
theorem rs_loop {g : Int32} (hm : m ≤ 5) (hX : rc_B m R kx xx yx sx) (hY : rc_B m R ky xy yy sy) (hn : n ≤ 5) : ∀ d w (cn : Int32), w + d = 2 * 4 ^ n → 4 ^ n ≤ w → ∃ r : Int32, (∀ post : Int32 → Prop, post r → wX_sources_19 post (nI (4 ^ n)) (nI m) g kx xx yx sx fo (d + 1) cn (nI w)) ∧ (∀ (post : Int32 → SY → Prop) (sz mo : Int32) (ro ma : Nat → Int32), (∀ (sz mo : Int32) (ro ma : Nat → Int32), post r (nI m, ln, sz, mo, ky, xy, yy, sy, wy, ro, ma, rs)) → wY_sources_24 post (nI n) g (d + 1) cn (nI w) (nI m) ln sz mo ky xy yy sy wy ro ma rs) := by
  have hN := rc_N hn
  intro d
  induction d with
  | zero =>
    intro w cn hw h1
    refine ⟨cn, fun post hp => pk_le (2 * 4 ^ n) w (fun _ => hp) (fun z => absurd z (by omega)) (hx := rx_2 _), fun post sz mo ro ma hp => pk_le (2 * 4 ^ n) w (fun _ => hp _ _ _ _) (fun z => absurd z (by omega)) (hx := rc_fw2 hn)⟩
  | succ d ih =>
    intro w cn hw h1
    have h2 : w < 2 * 4 ^ n := by omega
    by_cases e : nI (rc_re R m n w) = g
    · obtain ⟨r, iX, iY⟩ := ih (w + 1) (cn + 1) (by omega) (by omega)
      refine ⟨r, fun post hp => pk_le (2 * 4 ^ n) w (fun z => absurd z (by omega)) (fun _ => ?_) (hx := rx_2 _), fun post sz mo ro ma hp => pk_le (2 * 4 ^ n) w (fun z => absurd z (by omega)) (fun _ => ?_) (hx := rc_fw2 hn)⟩
      · exact rx_re hm hX (by omega) h1 h2 (br_t e (nm_e (nm_r (nI_1 w) (iX post hp))))
      · exact ry_res hm hY (by omega) h1 h2 (fun sz' mo' ro' ma' => br_t e (nm_e (nm_r (nI_1 w) (iY post sz' mo' ro' ma' hp))))
    · obtain ⟨r, iX, iY⟩ := ih (w + 1) cn (by omega) (by omega)
      refine ⟨r, fun post hp => pk_le (2 * 4 ^ n) w (fun z => absurd z (by omega)) (fun _ => ?_) (hx := rx_2 _), fun post sz mo ro ma hp => pk_le (2 * 4 ^ n) w (fun z => absurd z (by omega)) (fun _ => ?_) (hx := rc_fw2 hn)⟩
      · exact rx_re hm hX (by omega) h1 h2 (br_f e (nm_r (nI_1 w) (iX post hp)))
      · exact ry_res hm hY (by omega) h1 h2 (fun sz' mo' ro' ma' => br_f e (nm_r (nI_1 w) (iY post sz' mo' ro' ma' hp)))
theorem rt_loop (hm : m ≤ 5) (hX : rc_B m R kx xx yx sx) (hY : rc_B m R ky xy yy sy) (hn : n ≤ 5) {g : Int32} : ∀ d w (cn : Int32), w + d = 2 * 4 ^ n → 4 ^ n ≤ w → ∃ r : Int32, (∀ post : Int32 → Prop, post r → wX_still_19 post (nI (4 ^ n)) (nI m) g kx xx yx sx fo (d + 1) cn (nI w)) ∧ (∀ (post : Int32 → SY → Prop) (sz mo : Int32) (ro ma : Nat → Int32), (∀ (sz mo : Int32) (ro ma : Nat → Int32), post r (nI m, ln, sz, mo, ky, xy, yy, sy, wy, ro, ma, rs)) → wY_still_18 post (nI n) (d + 1) cn (nI w) (nI m) ln sz mo ky xy yy sy wy ro ma rs) := by
  have hN := rc_N hn
  intro d
  induction d with
  | zero =>
    intro w cn hw h1
    refine ⟨cn, fun post hp => pk_le (2 * 4 ^ n) w (fun _ => hp) (fun z => absurd z (by omega)) (hx := rx_2 _), fun post sz mo ro ma hp => pk_le (2 * 4 ^ n) w (fun _ => hp _ _ _ _) (fun z => absurd z (by omega)) (hx := rc_fw2 hn)⟩
  | succ d ih =>
    intro w cn hw h1
    have h2 : w < 2 * 4 ^ n := by omega
    by_cases e : nI (rc_re R m n w) = nI w
    · obtain ⟨r, iX, iY⟩ := ih (w + 1) (cn + 1) (by omega) (by omega)
      refine ⟨r, fun post hp => pk_le (2 * 4 ^ n) w (fun z => absurd z (by omega)) (fun _ => ?_) (hx := rx_2 _), fun post sz mo ro ma hp => pk_le (2 * 4 ^ n) w (fun z => absurd z (by omega)) (fun _ => ?_) (hx := rc_fw2 hn)⟩
      · exact rx_re hm hX (by omega) h1 h2 (br_t e (nm_e (nm_r (nI_1 w) (iX post hp))))
      · exact ry_res hm hY (by omega) h1 h2 (fun sz' mo' ro' ma' => br_t e (nm_e (nm_r (nI_1 w) (iY post sz' mo' ro' ma' hp))))
    · obtain ⟨r, iX, iY⟩ := ih (w + 1) cn (by omega) (by omega)
      refine ⟨r, fun post hp => pk_le (2 * 4 ^ n) w (fun z => absurd z (by omega)) (fun _ => ?_) (hx := rx_2 _), fun post sz mo ro ma hp => pk_le (2 * 4 ^ n) w (fun z => absurd z (by omega)) (fun _ => ?_) (hx := rc_fw2 hn)⟩
      · exact rx_re hm hX (by omega) h1 h2 (br_f e (nm_r (nI_1 w) (iX post hp)))
      · exact ry_res hm hY (by omega) h1 h2 (fun sz' mo' ro' ma' => br_f e (nm_r (nI_1 w) (iY post sz' mo' ro' ma' hp)))
theorem ru_loop {g x : Int32} (hm : m ≤ 5) (hX : rc_B m R kx xx yx sx) (hY : rc_B m R ky xy yy sy) (hn : n ≤ 5) : ∀ d w (cn : Int32), w + d = 2 * 4 ^ n → 4 ^ n ≤ w → ∃ r : Int32, (∀ post : Int32 → Prop, post r → wX_source_20 post x (nI (4 ^ n)) (nI m) g kx xx yx sx fo (d + 1) cn (nI w)) ∧ (∀ (post : Int32 → SY → Prop) (sz mo : Int32) (ro ma : Nat → Int32), (∀ (sz mo : Int32) (ro ma : Nat → Int32), post r (nI m, ln, sz, mo, ky, xy, yy, sy, wy, ro, ma, rs)) → wY_source_25 post (nI n) x g (d + 1) cn (nI w) (nI m) ln sz mo ky xy yy sy wy ro ma rs) := by
  have hN := rc_N hn
  intro d
  induction d with
  | zero =>
    intro w cn hw h1
    refine ⟨-4, fun post hp => pk_le (2 * 4 ^ n) w (fun _ => hp) (fun z => absurd z (by omega)) (hx := rx_2 _), fun post sz mo ro ma hp => pk_le (2 * 4 ^ n) w (fun _ => hp _ _ _ _) (fun z => absurd z (by omega)) (hx := rc_fw2 hn)⟩
  | succ d ih =>
    intro w cn hw h1
    have h2 : w < 2 * 4 ^ n := by omega
    by_cases e : nI (rc_re R m n w) = g
    · by_cases e' : cn = x
      · refine ⟨nI w, fun post hp => pk_le (2 * 4 ^ n) w (fun z => absurd z (by omega)) (fun _ => ?_) (hx := rx_2 _), fun post sz mo ro ma hp => pk_le (2 * 4 ^ n) w (fun z => absurd z (by omega)) (fun _ => ?_) (hx := rc_fw2 hn)⟩
        · exact rx_re hm hX (by omega) h1 h2 (br_t e (br_t e' hp))
        · exact ry_res hm hY (by omega) h1 h2 (fun sz' mo' ro' ma' => br_t e (br_t e' (hp _ _ _ _)))
      · obtain ⟨r, iX, iY⟩ := ih (w + 1) (cn + 1) (by omega) (by omega)
        refine ⟨r, fun post hp => pk_le (2 * 4 ^ n) w (fun z => absurd z (by omega)) (fun _ => ?_) (hx := rx_2 _), fun post sz mo ro ma hp => pk_le (2 * 4 ^ n) w (fun z => absurd z (by omega)) (fun _ => ?_) (hx := rc_fw2 hn)⟩
        · exact rx_re hm hX (by omega) h1 h2 (br_t e (br_f e' (nm_e (nm_r (nI_1 w) (iX post hp)))))
        · exact ry_res hm hY (by omega) h1 h2 (fun sz' mo' ro' ma' => br_t e (br_f e' (nm_e (nm_r (nI_1 w) (iY post sz' mo' ro' ma' hp)))))
    · obtain ⟨r, iX, iY⟩ := ih (w + 1) cn (by omega) (by omega)
      refine ⟨r, fun post hp => pk_le (2 * 4 ^ n) w (fun z => absurd z (by omega)) (fun _ => ?_) (hx := rx_2 _), fun post sz mo ro ma hp => pk_le (2 * 4 ^ n) w (fun z => absurd z (by omega)) (fun _ => ?_) (hx := rc_fw2 hn)⟩
      · exact rx_re hm hX (by omega) h1 h2 (br_f e (nm_r (nI_1 w) (iX post hp)))
      · exact ry_res hm hY (by omega) h1 h2 (fun sz' mo' ro' ma' => br_f e (nm_r (nI_1 w) (iY post sz' mo' ro' ma' hp)))
end
theorem i_vc_sources {k : Nat} {u : SX} {v : SY} (I : i_Rel k u v) (hk : k + 5 ≤ 2560) (v1 : Int32) : wpX_sources (fun r => wpY_sources (fun r' v' => r' = r ∧ i_Rel (k + 5) u v') v v1) u v1 := by
  obtain ⟨m, R, t, kx, xx, yx, sx, fo, ky, xy, yy, sy, wy, ro, ma, rs, sz, mo, rfl, rfl, hm, hX, hY, hW, hl, hH⟩ := I
  unfold wpX_sources wpY_sources
  rcases rc_n5 v1 with h | ⟨n, hn, rfl⟩
  · exact rx_al_f h (br_t rfl (ry_ns_f h (br_f (by decide) ⟨rfl, rc_mk hm hX hY hW hl hH⟩)))
  · obtain ⟨r, iX, iY⟩ := rs_loop (ln := nI t.length) (fo := fo) (wy := wy) (rs := rs) (g := nI (rc_cd t)) hm hX hY hn (4 ^ n) (4 ^ n) 0 (by omega) (Nat.le_refl _)
    refine rx_al_t hn (br_f (by decide) (rx_fw hn ⟨_, iX _ (ry_ns_t hn (br_t rfl ?_))⟩))
    exact ry_cow hl hH (fun sz' ro' => ry_lst hn ⟨_, iY _ _ _ _ _ (fun _ _ _ _ => ⟨rfl, rc_mk hm hX hY hW hl hH⟩)⟩)
theorem i_vc_source {k : Nat} {u : SX} {v : SY} (I : i_Rel k u v) (hk : k + 5 ≤ 2560) (v1 : Int32) (v2 : Int32) : wpX_source (fun r => wpY_source (fun r' v' => r' = r ∧ i_Rel (k + 5) u v') v v1 v2) u v1 v2 := by
  obtain ⟨m, R, t, kx, xx, yx, sx, fo, ky, xy, yy, sy, wy, ro, ma, rs, sz, mo, rfl, rfl, hm, hX, hY, hW, hl, hH⟩ := I
  unfold wpX_source wpY_source
  rcases rc_n5 v1 with h | ⟨n, hn, rfl⟩
  · exact rx_al_f h (br_t rfl (ry_ns_f h (br_f (by decide) ⟨rfl, rc_mk hm hX hY hW hl hH⟩)))
  · obtain ⟨r, iX, iY⟩ := ru_loop (ln := nI t.length) (fo := fo) (wy := wy) (rs := rs) (g := nI (rc_cd t)) (x := v2) hm hX hY hn (4 ^ n) (4 ^ n) 0 (by omega) (Nat.le_refl _)
    refine rx_al_t hn (br_f (by decide) (rx_fw hn ⟨_, iX _ (ry_ns_t hn (br_t rfl ?_))⟩))
    exact ry_cow hl hH (fun sz' ro' => ry_lst hn ⟨_, iY _ _ _ _ _ (fun _ _ _ _ => ⟨rfl, rc_mk hm hX hY hW hl hH⟩)⟩)
theorem i_vc_still {k : Nat} {u : SX} {v : SY} (I : i_Rel k u v) (hk : k + 5 ≤ 2560) (v1 : Int32) : wpX_still (fun r => wpY_still (fun r' v' => r' = r ∧ i_Rel (k + 5) u v') v v1) u v1 := by
  obtain ⟨m, R, t, kx, xx, yx, sx, fo, ky, xy, yy, sy, wy, ro, ma, rs, sz, mo, rfl, rfl, hm, hX, hY, hW, hl, hH⟩ := I
  unfold wpX_still wpY_still
  rcases rc_n5 v1 with h | ⟨n, hn, rfl⟩
  · exact rx_al_f h (br_t rfl (ry_ns_f h (br_f (by decide) ⟨rfl, rc_mk hm hX hY hW hl hH⟩)))
  · obtain ⟨r, iX, iY⟩ := rt_loop (ln := nI t.length) (fo := fo) (wy := wy) (rs := rs) (g := nI (rc_cd t)) hm hX hY hn (4 ^ n) (4 ^ n) 0 (by omega) (Nat.le_refl _)
    refine rx_al_t hn (br_f (by decide) (rx_fw hn ⟨_, iX _ (ry_ns_t hn (br_t rfl ?_))⟩))
    exact ry_lst hn ⟨_, iY _ _ _ _ _ (fun _ _ _ _ => ⟨rfl, rc_mk hm hX hY hW hl hH⟩)⟩
