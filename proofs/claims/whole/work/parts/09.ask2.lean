section
variable {c ln sz mo wr : Int32} {ks xs ys ss wd ro ma rs fo : Nat → Int32}
theorem rx_fnd_loop {post : Int32 → Prop} {x : Int32} {e : Nat} (he : e ≤ 1024) (h1 : (∃ j, j < e ∧ fo j = x) → post 1) (h0 : ¬ (∃ j, j < e ∧ fo j = x) → post 0) : ∀ d i, i + d = e → (∀ j, j < i → ¬ fo j = x) → wX_isFound_2 post x (nI e) c wr ks xs ys ss fo (d + 1) (nI i) := by
  intro d
  induction d with
  | zero =>
    intro i hi hn
    obtain rfl : i = e := by omega
    exact pk_le i i (fun _ => h0 (fun ⟨j, a, b⟩ => hn j a b)) (fun z => absurd z (by omega))
  | succ d ih =>
    intro i hi hn
    refine pk_le e i (fun z => absurd z (by omega)) (fun _ => ⟨vp_in_nI (by omega) (by decide), ?_⟩)
    rw [nI_clamp (by omega)]
    by_cases e' : fo i = x
    · exact br_t e' (h1 ⟨i, by omega, e'⟩)
    · refine br_f e' (nm_r (nI_1 i) (ih (i + 1) (by omega) (fun j hj => ?_)))
      by_cases z : j = i
      · subst z
        exact e'
      · exact hn j (by omega)
theorem rx_fnd {post : Int32 → Prop} {x : Int32} {e : Nat} (he : e ≤ 1024) (h1 : (∃ j, j < e ∧ fo j = x) → post 1) (h0 : ¬ (∃ j, j < e ∧ fo j = x) → post 0) : wpX_isFound post (c, wr, ks, xs, ys, ss, fo) x (nI e) :=
  ⟨e + 1, rx_fnd_loop he h1 h0 e 0 (by omega) (fun j hj => absurd hj (Nat.not_lt_zero j))⟩
abbrev ry_J6 : Type := Int32 → ry_J
theorem ry_fnd_loop {post : Int32 → SY → Prop} {J : ry_J6} {x1 x3 x : Int32} {e : Nat} (he : e ≤ 1024) (h1 : (∃ j, j < e ∧ rs j = x) → wY_images_78 post J x1 (nI e) x3 x 1 c ln sz mo ks xs ys ss wd ro ma rs) (h0 : ¬ (∃ j, j < e ∧ rs j = x) → wY_images_78 post J x1 (nI e) x3 x 0 c ln sz mo ks xs ys ss wd ro ma rs) : ∀ d i, i + d = e → (∀ j, j < i → ¬ rs j = x) → wY_images_42 post J x1 (nI e) x3 x c ln sz mo ks xs ys ss wd ro ma rs (d + 2) 0 (nI i) := by
  intro d
  induction d with
  | zero =>
    intro i hi hn
    obtain rfl : i = e := by omega
    exact pk_le i i (fun _ => h0 (fun ⟨j, a, b⟩ => hn j a b)) (fun z => absurd z (by omega))
  | succ d ih =>
    intro i hi hn
    refine pk_le e i (fun z => absurd z (by omega)) (fun _ => br_t rfl ⟨vp_in_nI (by omega) (by decide), ?_⟩)
    rw [nI_clamp (by omega)]
    by_cases e' : rs i = x
    · have g := h1 ⟨i, by omega, e'⟩
      exact br_t e' (nm_r (nI_1 i) (pk_le e (i + 1) (fun _ => g) (fun _ => br_f (by decide) g)))
    · refine br_f e' (nm_r (nI_1 i) (ih (i + 1) (by omega) (fun j hj => ?_)))
      by_cases z : j = i
      · subst z
        exact e'
      · exact hn j (by omega)
theorem ry_fnd {post : Int32 → SY → Prop} {J : ry_J6} {x1 x3 x : Int32} {e : Nat} (he : e ≤ 1024) (h1 : (∃ j, j < e ∧ rs j = x) → wY_images_78 post J x1 (nI e) x3 x 1 c ln sz mo ks xs ys ss wd ro ma rs) (h0 : ¬ (∃ j, j < e ∧ rs j = x) → wY_images_78 post J x1 (nI e) x3 x 0 c ln sz mo ks xs ys ss wd ro ma rs) : ∃ d, wY_images_42 post J x1 (nI e) x3 x c ln sz mo ks xs ys ss wd ro ma rs d 0 0 :=
  ⟨e + 2, ry_fnd_loop he h1 h0 e 0 (by omega) (fun j hj => absurd hj (Nat.not_lt_zero j))⟩
end
section
variable {ln : Int32} {kx xx yx sx ky xy yy sy wy : Nat → Int32} {R : Nat → rc_Ru} {m n : Nat}
theorem ri_loop {g : Int32} (hm : m ≤ 5) (hX : rc_B m R kx xx yx sx) (hY : rc_B m R ky xy yy sy) (hn : n ≤ 5) : ∀ d w cn (fo rs : Nat → Int32), w + d = 2 * 4 ^ n → 4 ^ n + cn ≤ w → (∀ j, j < cn → fo j = rs j) → ∃ r : Int32, (∀ post : Int32 → SX → Prop, (∀ fo, post r (nI m, g, kx, xx, yx, sx, fo)) → wX_images_19 post (nI (4 ^ n)) (nI m) g (d + 1) (nI cn) (nI w) kx xx yx sx fo) ∧ (∀ (post : Int32 → SY → Prop) (sz mo : Int32) (ro ma : Nat → Int32), (∀ (sz mo : Int32) (ro ma rs : Nat → Int32), post r (nI m, ln, sz, mo, ky, xy, yy, sy, wy, ro, ma, rs)) → wY_images_18 post (nI n) (d + 1) (nI cn) (nI w) (nI m) ln sz mo ky xy yy sy wy ro ma rs) := by
  have hN := rc_N hn
  intro d
  induction d with
  | zero =>
    intro w cn fo rs hw h1 hf
    exact ⟨nI cn, fun post hp => pk_le (2 * 4 ^ n) w (fun _ => hp _) (fun z => absurd z (by omega)) (hx := rx_2 _), fun post sz mo ro ma hp => pk_le (2 * 4 ^ n) w (fun _ => hp _ _ _ _ _) (fun z => absurd z (by omega)) (hx := rc_fw2 hn)⟩
  | succ d ih =>
    intro w cn fo rs hw h1 hf
    have h2 : w < 2 * 4 ^ n := by omega
    have h1' : 4 ^ n ≤ w := by omega
    have hv : vp_in (nI cn) 1024 := vp_in_nI (by omega) (by decide)
    have hcl : (nI cn).toNatClampNeg = cn := nI_clamp (by omega)
    have eq : (∃ j, j < cn ∧ fo j = nI (rc_re R m n w)) ↔ (∃ j, j < cn ∧ rs j = nI (rc_re R m n w)) := ⟨fun ⟨j, a, b⟩ => ⟨j, a, (hf j a) ▸ b⟩, fun ⟨j, a, b⟩ => ⟨j, a, (hf j a).symm ▸ b⟩⟩
    by_cases e : ∃ j, j < cn ∧ fo j = nI (rc_re R m n w)
    · obtain ⟨r, iX, iY⟩ := ih (w + 1) cn fo rs (by omega) (by omega) hf
      refine ⟨r, fun post hp => pk_le (2 * 4 ^ n) w (fun z => absurd z (by omega)) (fun _ => ?_) (hx := rx_2 _), fun post sz mo ro ma hp => pk_le (2 * 4 ^ n) w (fun z => absurd z (by omega)) (fun _ => ?_) (hx := rc_fw2 hn)⟩
      · exact rx_re hm hX (by omega) h1' h2 (rx_fnd (by omega) (fun _ => br_f (by decide) (nm_r (nI_1 w) (iX post hp))) (fun z => absurd e z))
      · refine ry_res hm hY (by omega) h1' h2 (fun sz' mo' ro' ma' => ry_fnd (by omega) (fun _ => ?_) (fun z => absurd (eq.mp e) z))
        exact br_f (by decide) (nm_r (nI_1 w) (iY post sz' mo' ro' ma' hp))
    · obtain ⟨r, iX, iY⟩ := ih (w + 1) (cn + 1) (upd fo cn (nI (rc_re R m n w))) (upd rs cn (nI (rc_re R m n w))) (by omega) (by omega) (fun j hj => by
        by_cases z : j = cn
        · subst z
          rw [pk_us, pk_us]
        · rw [pk_un z, pk_un z]
          exact hf j (by omega))
      refine ⟨r, fun post hp => pk_le (2 * 4 ^ n) w (fun z => absurd z (by omega)) (fun _ => ?_) (hx := rx_2 _), fun post sz mo ro ma hp => pk_le (2 * 4 ^ n) w (fun z => absurd z (by omega)) (fun _ => ?_) (hx := rc_fw2 hn)⟩
      · exact rx_re hm hX (by omega) h1' h2 (rx_fnd (by omega) (fun z => absurd z e) (fun _ => br_t rfl ⟨hv, nm_r (e' := upd fo cn (nI (rc_re R m n w))) (by rw [hcl]) (nm_r (nI_1 cn) (nm_r (nI_1 w) (iX post hp)))⟩))
      · refine ry_res hm hY (by omega) h1' h2 (fun sz' mo' ro' ma' => ry_fnd (by omega) (fun z => absurd (eq.mpr z) e) (fun _ => ?_))
        exact br_t rfl ⟨hv, nm_r (e' := upd rs cn (nI (rc_re R m n w))) (by rw [hcl]) (nm_r (nI_1 cn) (nm_r (nI_1 w) (iY post sz' mo' ro' ma' hp)))⟩
end
theorem i_vc_images {k : Nat} {u : SX} {v : SY} (I : i_Rel k u v) (hk : k + 5 ≤ 2560) (v1 : Int32) : wpX_images (fun r u' => wpY_images (fun r' v' => r' = r ∧ i_Rel (k + 5) u' v') v v1) u v1 := by
  obtain ⟨m, R, t, kx, xx, yx, sx, fo, ky, xy, yy, sy, wy, ro, ma, rs, sz, mo, rfl, rfl, hm, hX, hY, hW, hl, hH⟩ := I
  unfold wpX_images wpY_images
  rcases rc_n5 v1 with h | ⟨n, hn, rfl⟩
  · exact rx_al_f h (br_t rfl (ry_ns_f h (br_f (by decide) ⟨rfl, rc_mk hm hX hY hW hl hH⟩)))
  · obtain ⟨r, iX, iY⟩ := ri_loop (ln := nI t.length) (wy := wy) (g := nI (rc_cd t)) hm hX hY hn (4 ^ n) (4 ^ n) 0 fo rs (by omega) (Nat.le_refl _) (fun j hj => absurd hj (Nat.not_lt_zero j))
    refine rx_al_t hn (br_f (by decide) (rx_fw hn ⟨_, iX _ (fun fo' => ry_ns_t hn (br_t rfl ?_))⟩))
    exact ry_lst hn ⟨_, iY _ _ _ _ _ (fun _ _ _ _ _ => ⟨rfl, rc_mk hm hX hY hW hl hH⟩)⟩
section
variable {c ln sz mo wr : Int32} {ks xs ys ss wd ro ma rs fo : Nat → Int32} {R : Nat → rc_Ru} {m n : Nat}
/-- the rules from a on, n of them, but for rule k -/
def rc_cw (R : Nat → rc_Ru) (k : Nat) : Nat → Nat → List Nat → List Nat
  | _, 0, l => l
  | a, n + 1, l => rc_cw R k (a + 1) n (if a = k then l else rc_st (R a) l)
theorem rc_cw_out {R : Nat → rc_Ru} {k : Nat} : ∀ (n a : Nat) (l : List Nat), (k < a ∨ a + n ≤ k) → rc_cw R k a n l = rc_ca R a n l
  | 0, _, _, _ => rfl
  | n + 1, a, l, h => by
    show rc_cw R k (a + 1) n (if a = k then l else rc_st (R a) l) = rc_ca R (a + 1) n (rc_st (R a) l)
    rw [if_neg (by omega), rc_cw_out n (a + 1) _ (by omega)]
theorem rc_cw_add {R : Nat → rc_Ru} {k : Nat} : ∀ (p n a : Nat) (l : List Nat), rc_cw R k a (p + n) l = rc_cw R k (a + p) n (rc_cw R k a p l)
  | 0, n, a, l => by rw [Nat.zero_add]; rfl
  | p + 1, n, a, l => by
    rw [show p + 1 + n = (p + n) + 1 from by omega]
    show rc_cw R k (a + 1) (p + n) (if a = k then l else rc_st (R a) l) = rc_cw R k (a + (p + 1)) n (rc_cw R k (a + 1) p (if a = k then l else rc_st (R a) l))
    rw [rc_cw_add p n (a + 1), show a + 1 + p = a + (p + 1) from by omega]
theorem rc_cw_eq {k m : Nat} (R : Nat → rc_Ru) (hk : k < m) (l : List Nat) : rc_cw R k 0 m l = rc_ca R (k + 1) (m - (k + 1)) (rc_ca R 0 k l) := by
  rw [show m = k + (1 + (m - (k + 1))) from by omega, rc_cw_add, rc_cw_add, rc_cw_out k 0 l (by omega), Nat.zero_add, rc_cw_out _ (k + 1) _ (by omega), show k + (1 + (m - (k + 1))) - (k + 1) = m - (k + 1) from by omega]
  show rc_ca R (k + 1) (m - (k + 1)) (if k = k then rc_ca R 0 k l else _) = _
  rw [if_pos rfl]
theorem rc_cw_W {k : Nat} (hB : rc_B m R ks xs ys ss) : ∀ (n a : Nat) (l : List Nat), a + n ≤ m → rc_W l → rc_W (rc_cw R k a n l)
  | 0, _, _, _, h => h
  | n + 1, a, l, ha, h => rc_cw_W hB n (a + 1) _ (by omega) (by
    split
    · exact h
    · exact rc_st_W (rc_B_y hB (by omega)) h)
theorem rc_cw_len {k : Nat} : ∀ (n a : Nat) (l : List Nat), l.length ≤ 12 → (rc_cw R k a n l).length ≤ 12
  | 0, _, _, h => h
  | n + 1, a, l, h => rc_cw_len n (a + 1) _ (by
    split
    · exact h
    · exact rc_st_len _ _)
theorem rx_without {post : Int32 → Prop} {k w : Nat} (hm : m ≤ 5) (hB : rc_B m R ks xs ys ss) (hn : n ≤ 5) (h1 : 4 ^ n ≤ w) (h2 : w < 2 * 4 ^ n) (hk : k < m) (h : post (nI (rc_cd (rc_cw R k 0 m (rc_dl n w))))) : wpX_cascadeWithout post (nI m, wr, ks, xs, ys, ss, fo) (nI w) (nI k) := by
  have hd : (rc_dl n w).length ≤ 12 := by rw [rc_dl_len]; omega
  rw [rc_cw_eq R hk] at h
  unfold wpX_cascadeWithout
  rw [nI_1 k, ← rc_dl_cd n w h1 h2]
  refine rx_cas0 hm hB (by omega) (rc_dl_W n w) hd ?_
  have e := rx_cas (post := post) (c := nI m) (wd := wr) (fo := fo) hm hB (k + 1) (m - (k + 1)) (by omega) (rc_ca_W0 (b := k) hB (by omega) (rc_dl_W n w)) (rc_ca_len k 0 hd) h
  rw [show k + 1 + (m - (k + 1)) = m from by omega] at e
  exact e
theorem ry_idle_in {post : Int32 → SY → Prop} {J : ry_J} {x3 x4 x5 : Int32} {k : Nat} (hm : m ≤ 5) (hB : rc_B m R ks xs ys ss) (hk : k < m) : ∀ p a l mo ro ma, a + p = m → rc_W l → l.length ≤ 12 → rc_H l ro → (∀ (sz mo : Int32) (ro ma : Nat → Int32), (x5 = nI (rc_cd (rc_cw R k a p l)) → J (x4 + 1) (nI m) ln sz mo ks xs ys ss wd ro ma rs) ∧ (¬ x5 = nI (rc_cd (rc_cw R k a p l)) → post 0 (nI m, ln, sz, mo, ks, xs, ys, ss, wd, ro, ma, rs))) → wY_idle_59 post J (nI k) x3 x4 x5 (p + 1) (nI a) (nI m) ln (nI l.length) mo ks xs ys ss wd ro ma rs := by
  intro p
  induction p with
  | zero =>
    intro a l mo ro ma ha hW hl hR hp
    refine pk_le m a (fun _ => ry_cor hl hR ?_) (fun z => absurd z (by omega))
    have g := hp (nI l.length) mo ro ma
    exact ⟨fun z => nm_e (g.1 z), g.2⟩
  | succ p ih =>
    intro a l mo ro ma ha hW hl hR hp
    refine pk_le m a (fun z => absurd z (by omega)) (fun _ => pk_eq a k (fun e => nm_r (nI_1 a) ?_) (fun e => ?_))
    · refine ih (a + 1) l mo ro ma (by omega) hW hl hR ?_
      have g : rc_cw R k a (p + 1) l = rc_cw R k (a + 1) p l := by
        show rc_cw R k (a + 1) p (if a = k then l else rc_st (R a) l) = _
        rw [if_pos e]
      rw [g] at hp
      exact hp
    · refine ry_work (by omega) (hB a (by omega)) hW hl hR (fun mo' ro' ma' h => nm_r (nI_1 a) ?_)
      refine ih (a + 1) (rc_st (R a) l) mo' ro' ma' (by omega) (rc_st_W (rc_B_y hB (by omega)) hW) (rc_st_len _ _) h ?_
      have g : rc_cw R k a (p + 1) l = rc_cw R k (a + 1) p (rc_st (R a) l) := by
        show rc_cw R k (a + 1) p (if a = k then l else rc_st (R a) l) = _
        rw [if_neg e]
      rw [g] at hp
      exact hp
end
section
variable {ln : Int32} {kx xx yx sx fo ky xy yy sy wy rs : Nat → Int32} {R : Nat → rc_Ru} {m n k : Nat}
theorem rd_loop {g : Int32} (hm : m ≤ 5) (hX : rc_B m R kx xx yx sx) (hY : rc_B m R ky xy yy sy) (hn : n ≤ 5) (hk : k < m) : ∀ d w, w + d = 2 * 4 ^ n → 4 ^ n ≤ w → ∃ r : Int32, (∀ post : Int32 → Prop, post r → wX_idle_28 post (nI k) (nI (4 ^ n)) (nI m) g kx xx yx sx fo (d + 1) (nI w)) ∧ (∀ (post : Int32 → SY → Prop) (sz mo : Int32) (ro ma : Nat → Int32), (∀ (sz mo : Int32) (ro ma : Nat → Int32), post r (nI m, ln, sz, mo, ky, xy, yy, sy, wy, ro, ma, rs)) → wY_idle_34 post (nI k) (nI (4 ^ n)) (d + 1) (nI w) (nI m) ln sz mo ky xy yy sy wy ro ma rs) := by
  have hN := rc_N hn
  intro d
  induction d with
  | zero =>
    intro w hw h1
    exact ⟨1, fun post hp => pk_le (2 * 4 ^ n) w (fun _ => hp) (fun z => absurd z (by omega)) (hx := rx_2 _), fun post sz mo ro ma hp => pk_le (2 * 4 ^ n) w (fun _ => hp _ _ _ _) (fun z => absurd z (by omega)) (hx := rx_2 _)⟩
  | succ d ih =>
    intro w hw h1
    have h2 : w < 2 * 4 ^ n := by omega
    have hd : (rc_dl n w).length ≤ 12 := by rw [rc_dl_len]; omega
    have hdn : nI n = nI (rc_dl n w).length := by rw [rc_dl_len]
    by_cases e : nI (rc_re R m n w) = nI (rc_cd (rc_cw R k 0 m (rc_dl n w)))
    · obtain ⟨r, iX, iY⟩ := ih (w + 1) (by omega) (by omega)
      refine ⟨r, fun post hp => pk_le (2 * 4 ^ n) w (fun z => absurd z (by omega)) (fun _ => ?_) (hx := rx_2 _), fun post sz mo ro ma hp => pk_le (2 * 4 ^ n) w (fun z => absurd z (by omega)) (fun _ => ?_) (hx := rx_2 _)⟩
      · exact rx_re hm hX (by omega) h1 h2 (rx_without hm hX hn h1 h2 hk (br_t e (nm_r (nI_1 w) (iX post hp))))
      · refine ry_res hm hY (by omega) h1 h2 (fun sz' mo' ro' ma' => ry_spr (by omega) h1 h2 (fun ro'' h => ?_))
        rw [hdn]
        refine ⟨m + 1, ry_idle_in hm hY hk m 0 (rc_dl n w) mo' ro'' ma' (by omega) (rc_dl_W n w) hd h (fun sz mo ro ma => br_t e ?_)⟩
        rw [nI_1 w]
        exact iY post sz mo ro ma hp
    · refine ⟨0, fun post hp => pk_le (2 * 4 ^ n) w (fun z => absurd z (by omega)) (fun _ => ?_) (hx := rx_2 _), fun post sz mo ro ma hp => pk_le (2 * 4 ^ n) w (fun z => absurd z (by omega)) (fun _ => ?_) (hx := rx_2 _)⟩
      · exact rx_re hm hX (by omega) h1 h2 (rx_without hm hX hn h1 h2 hk (br_f e hp))
      · refine ry_res hm hY (by omega) h1 h2 (fun sz' mo' ro' ma' => ry_spr (by omega) h1 h2 (fun ro'' h => ?_))
        rw [hdn]
        exact ⟨m + 1, ry_idle_in hm hY hk m 0 (rc_dl n w) mo' ro'' ma' (by omega) (rc_dl_W n w) hd h (fun sz mo ro ma => br_f e (hp _ _ _ _))⟩
end
theorem i_vc_idle {k : Nat} {u : SX} {v : SY} (I : i_Rel k u v) (hk : k + 5 ≤ 2560) (v1 : Int32) (v2 : Int32) : wpX_idle (fun r => wpY_idle (fun r' v' => r' = r ∧ i_Rel (k + 5) u v') v v1 v2) u v1 v2 := by
  obtain ⟨m, R, t, kx, xx, yx, sx, fo, ky, xy, yy, sy, wy, ro, ma, rs, sz, mo, rfl, rfl, hm, hX, hY, hW, hl, hH⟩ := I
  unfold wpX_idle wpY_idle
  rcases rc_cls v1 with h | ⟨j, hj, rfl⟩
  · exact rx_rule_n h (br_t rfl (br_t h ⟨rfl, rc_mk hm hX hY hW hl hH⟩))
  by_cases hjm : j < m
  · refine rx_rule_t hm hjm (br_f (by decide) ?_)
    have go : ∀ {A B : Prop}, A → (nI j < nI m → A) ∧ (¬ nI j < nI m → B) := fun a => pk_lt j m (fun _ => a) (fun z => absurd z (by omega))
    rcases rc_n5 v2 with h | ⟨n, hn, rfl⟩
    · exact rx_al_f h (br_t rfl (br_f (nI_pos hj) (go (ry_ns_f h (br_f (by decide) ⟨rfl, rc_mk hm hX hY hW hl hH⟩)))))
    · obtain ⟨r, iX, iY⟩ := rd_loop (ln := nI t.length) (fo := fo) (wy := wy) (rs := rs) (g := nI (rc_cd t)) hm hX hY hn hjm (4 ^ n) (4 ^ n) (by omega) (Nat.le_refl _)
      refine rx_al_t hn (br_f (by decide) (rx_fw hn ⟨_, iX _ (br_f (nI_pos hj) (go (ry_ns_t hn (br_t rfl ?_))))⟩))
      exact ry_lst hn ⟨_, iY _ _ _ _ _ (fun _ _ _ _ => ⟨rfl, rc_mk hm hX hY hW hl hH⟩)⟩
  · exact rx_rule_f hm hjm hj (br_t rfl (br_f (nI_pos hj) (pk_lt j m (fun z => absurd z hjm) (fun _ => ⟨rfl, rc_mk hm hX hY hW hl hH⟩))))
