section
variable {ln wr : Int32} {ks xs ys ss wd fo : Nat → Int32} {R : Nat → rc_Ru} {m n k : Nat}
theorem rc_ex_eq (R : Nat → rc_Ru) (hk : k + 1 < m) (l : List Nat) : rc_ca (rc_sR k R) 0 m l = rc_ca R (k + 2) (m - (k + 2)) (rc_ca R k 1 (rc_ca R (k + 1) 1 (rc_ca R 0 k l))) := by
  have e1 : rc_ca (rc_sR k R) 0 k l = rc_ca R 0 k l := rc_ca_congr k 0 l (fun r _ h2 => rc_sR_3 R (by omega) (by omega))
  have e2 : ∀ x, rc_ca (rc_sR k R) k 1 x = rc_ca R (k + 1) 1 x := fun x => by
    show rc_st (rc_sR k R k) x = rc_st (R (k + 1)) x
    rw [rc_sR_1]
  have e3 : ∀ x, rc_ca (rc_sR k R) (k + 1) 1 x = rc_ca R k 1 x := fun x => by
    show rc_st (rc_sR k R (k + 1)) x = rc_st (R k) x
    rw [rc_sR_2]
  have e4 : ∀ x, rc_ca (rc_sR k R) (k + 1 + 1) (m - (k + 2)) x = rc_ca R (k + 2) (m - (k + 2)) x := fun x => rc_ca_congr _ _ x (fun r h1 _ => rc_sR_3 R (by omega) (by omega))
  have em : m = k + (1 + (1 + (m - (k + 2)))) := by omega
  have e5 : rc_ca (rc_sR k R) 0 m l = rc_ca (rc_sR k R) 0 (k + (1 + (1 + (m - (k + 2))))) l := by rw [← em]
  rw [e5, rc_ca_add, rc_ca_add, rc_ca_add, Nat.zero_add, e4, e3, e2, e1]
theorem rx_exch {post : Int32 → Prop} {w : Nat} (hm : m ≤ 5) (hB : rc_B m R ks xs ys ss) (hn : n ≤ 5) (h1 : 4 ^ n ≤ w) (h2 : w < 2 * 4 ^ n) (hk : k + 1 < m) (h : post (nI (rc_re (rc_sR k R) m n w))) : wpX_cascadeExchanged post (nI m, wr, ks, xs, ys, ss, fo) (nI w) (nI k) := by
  have hd : (rc_dl n w).length ≤ 12 := by rw [rc_dl_len]; omega
  have hy : ∀ r, r < m → (R r).1 ≠ 1 → (R r).2.2.1 < 4 := fun r hr => rc_B_y hB hr
  have w0 := rc_dl_W n w
  have w1 : rc_W (rc_ca R 0 k (rc_dl n w)) := rc_ca_W k 0 (fun r _ z => hy r (by omega)) w0
  have w2 : rc_W (rc_ca R (k + 1) 1 (rc_ca R 0 k (rc_dl n w))) := rc_ca_W 1 (k + 1) (fun r _ z => hy r (by omega)) w1
  have w3 : rc_W (rc_ca R k 1 (rc_ca R (k + 1) 1 (rc_ca R 0 k (rc_dl n w)))) := rc_ca_W 1 k (fun r _ z => hy r (by omega)) w2
  have l1 := rc_ca_len (R := R) k 0 hd
  have l2 := rc_ca_len (R := R) 1 (k + 1) l1
  have l3 := rc_ca_len (R := R) 1 k l2
  rw [rc_re, rc_ex_eq R hk] at h
  unfold wpX_cascadeExchanged
  rw [nI_1 k, show nI k + 2 = nI (k + 2) from nI_add k 2, ← rc_dl_cd n w h1 h2]
  refine rx_cas0 hm hB (by omega) w0 hd ?_
  refine rx_cas hm hB (k + 1) 1 (by omega) w1 l1 ?_
  refine rx_cas hm hB k 1 (by omega) w2 l2 ?_
  have e := rx_cas (post := post) (c := nI m) (wd := wr) (fo := fo) hm hB (k + 2) (m - (k + 2)) (by omega) w3 l3 h
  rw [show k + 2 + (m - (k + 2)) = m from by omega] at e
  exact e
theorem rx_com_loop {post : Int32 → Prop} (hm : m ≤ 5) (hB : rc_B m R ks xs ys ss) (hn : n ≤ 5) (hk : k + 1 < m) : ∀ d w, w + d = 2 * 4 ^ n → 4 ^ n ≤ w → ((∀ v, w ≤ v → v < 2 * 4 ^ n → nI (rc_re R m n v) = nI (rc_re (rc_sR k R) m n v)) → post 1) → ((∃ v, w ≤ v ∧ v < 2 * 4 ^ n ∧ ¬ nI (rc_re R m n v) = nI (rc_re (rc_sR k R) m n v)) → post 0) → wX_commute_28 post (nI k) (nI (4 ^ n)) (nI m) wr ks xs ys ss fo (d + 1) (nI w) := by
  have hN := rc_N hn
  intro d
  induction d with
  | zero =>
    intro w hw h1 ha hx
    exact pk_le (2 * 4 ^ n) w (fun _ => ha (fun v a b => absurd b (by omega))) (fun z => absurd z (by omega)) (hx := rx_2 _)
  | succ d ih =>
    intro w hw h1 ha hx
    have h2 : w < 2 * 4 ^ n := by omega
    refine pk_le (2 * 4 ^ n) w (fun z => absurd z (by omega)) (fun _ => ?_) (hx := rx_2 _)
    refine rx_re hm hB (by omega) h1 h2 (rx_exch hm hB hn h1 h2 hk ?_)
    by_cases e : nI (rc_re R m n w) = nI (rc_re (rc_sR k R) m n w)
    · refine br_t e (nm_r (nI_1 w) (ih (w + 1) (by omega) (by omega) (fun g => ha (fun v a b => ?_)) (fun ⟨v, a, b, z⟩ => hx ⟨v, by omega, b, z⟩)))
      by_cases q : v = w
      · subst q
        exact e
      · exact g v (by omega) b
    · exact br_f e (hx ⟨w, Nat.le_refl w, h2, e⟩)
theorem ry_com2 {post : Int32 → SY → Prop} {Q : Nat → rc_Ru} {rs : Nat → Int32} (hm : m ≤ 5) (hB : rc_B m Q ks xs ys ss) (hn : n ≤ 5) (hk : k + 1 < m) (hr : ∀ v, 4 ^ n ≤ v → v < 2 * 4 ^ n → rs (v - 4 ^ n) = nI (rc_re R m n v)) : ∀ d w fl sz mo ro ma, w + d = 2 * 4 ^ n → 4 ^ n ≤ w → ((∀ v, w ≤ v → v < 2 * 4 ^ n → nI (rc_re R m n v) = nI (rc_re Q m n v)) → ∀ sz mo ro ma, post fl (nI m, ln, sz, mo, rc_sw k ks, rc_sw k xs, rc_sw k ys, rc_sw k ss, wd, ro, ma, rs)) → ((∃ v, w ≤ v ∧ v < 2 * 4 ^ n ∧ ¬ nI (rc_re R m n v) = nI (rc_re Q m n v)) → ∀ sz mo ro ma, post 0 (nI m, ln, sz, mo, rc_sw k ks, rc_sw k xs, rc_sw k ys, rc_sw k ss, wd, ro, ma, rs)) → wY_commute_71 post (nI k) (nI (4 ^ n)) (d + 1) fl (nI w) (nI m) ln sz mo ks xs ys ss wd ro ma rs := by
  have hN := rc_N hn
  intro d
  induction d with
  | zero =>
    intro w fl sz mo ro ma hw h1 ha hx
    exact pk_le (2 * 4 ^ n) w (fun _ => ry_swap hm hk (ha (fun v a b => absurd b (by omega)) _ _ _ _)) (fun z => absurd z (by omega)) (hx := rx_2 _)
  | succ d ih =>
    intro w fl sz mo ro ma hw h1 ha hx
    have h2 : w < 2 * 4 ^ n := by omega
    refine pk_le (2 * 4 ^ n) w (fun z => absurd z (by omega)) (fun _ => ?_) (hx := rx_2 _)
    refine ry_res hm hB (by omega) h1 h2 (fun sz' mo' ro' ma' => ?_)
    rw [pk_sub h1, nI_clamp (by omega)]
    dsimp only
    rw [hr w h1 h2]
    refine ⟨vp_in_nI (by omega) (by decide), ?_⟩
    by_cases e : nI (rc_re R m n w) = nI (rc_re Q m n w)
    · refine br_t e (nm_r (nI_1 w) (ih (w + 1) fl sz' mo' ro' ma' (by omega) (by omega) (fun g => ha (fun v a b => ?_)) (fun ⟨v, a, b, z⟩ => hx ⟨v, by omega, b, z⟩)))
      by_cases q : v = w
      · subst q
        exact e
      · exact g v (by omega) b
    · have g := hx ⟨w, Nat.le_refl w, h2, e⟩
      exact br_f e (nm_r (nI_1 w) (ih (w + 1) 0 sz' mo' ro' ma' (by omega) (by omega) (fun _ => g) (fun _ => g)))
theorem ry_com1 {post : Int32 → SY → Prop} (hm : m ≤ 5) (hB : rc_B m R ks xs ys ss) (hn : n ≤ 5) (hk : k + 1 < m) (hp : ∀ sz mo ro ma rs, (∀ v, 4 ^ n ≤ v → v < 2 * 4 ^ n → rs (v - 4 ^ n) = nI (rc_re R m n v)) → ∃ p, wY_commute_71 post (nI k) (nI (4 ^ n)) p 1 (nI (4 ^ n)) (nI m) ln sz mo (rc_sw k ks) (rc_sw k xs) (rc_sw k ys) (rc_sw k ss) wd ro ma rs) : ∀ d w sz mo ro ma rs, w + d = 2 * 4 ^ n → 4 ^ n ≤ w → (∀ v, 4 ^ n ≤ v → v < w → rs (v - 4 ^ n) = nI (rc_re R m n v)) → wY_commute_30 post (nI k) (nI (4 ^ n)) (d + 1) (nI w) (nI m) ln sz mo ks xs ys ss wd ro ma rs := by
  have hN := rc_N hn
  intro d
  induction d with
  | zero =>
    intro w sz mo ro ma rs hw h1 hr
    obtain rfl : w = 2 * 4 ^ n := by omega
    exact pk_le (2 * 4 ^ n) (2 * 4 ^ n) (fun _ => ry_swap hm hk (hp _ _ _ _ _ hr)) (fun z => absurd z (by omega)) (hx := rx_2 _)
  | succ d ih =>
    intro w sz mo ro ma rs hw h1 hr
    have h2 : w < 2 * 4 ^ n := by omega
    refine pk_le (2 * 4 ^ n) w (fun z => absurd z (by omega)) (fun _ => ?_) (hx := rx_2 _)
    refine ry_res hm hB (by omega) h1 h2 (fun sz' mo' ro' ma' => ?_)
    rw [pk_sub h1, nI_clamp (by omega)]
    refine ⟨vp_in_nI (by omega) (by decide), nm_e (nm_r (nI_1 w) (ih (w + 1) _ _ _ _ _ (by omega) (by omega) (fun v a b => ?_)))⟩
    by_cases q : v = w
    · subst q
      exact pk_us
    · rw [pk_un (by omega)]
      exact hr v a (by omega)
end
theorem i_vc_commute {k : Nat} {u : SX} {v : SY} (I : i_Rel k u v) (hk : k + 5 ≤ 2560) (v1 : Int32) (v2 : Int32) : wpX_commute (fun r => wpY_commute (fun r' v' => r' = r ∧ i_Rel (k + 5) u v') v v1 v2) u v1 v2 := by
  obtain ⟨m, R, t, kx, xx, yx, sx, fo, ky, xy, yy, sy, wy, ro, ma, rs, sz, mo, rfl, rfl, hm, hX, hY, hW, hl, hH⟩ := I
  unfold wpX_commute wpY_commute
  rcases rc_cls v1 with h | ⟨j, hj, rfl⟩
  · exact br_t h (br_t rfl (br_t h (br_f (by decide) ⟨rfl, rc_mk hm hX hY hW hl hH⟩)))
  refine br_f (nI_pos hj) (rc_pr hm hj (fun z => br_t rfl ?_) (fun z => br_f (by decide) ?_))
  · exact br_f (nI_pos hj) (rc_pr' hm hj (fun y => absurd y z) (fun _ => br_f (by decide) ⟨rfl, rc_mk hm hX hY hW hl hH⟩))
  have hS : rc_B m R (rc_sw j (rc_sw j ky)) (rc_sw j (rc_sw j xy)) (rc_sw j (rc_sw j yy)) (rc_sw j (rc_sw j sy)) := by
    have g := rc_B_swap (rc_B_swap hY z) z
    rw [rc_sR_sR] at g
    exact g
  rcases rc_n5 v2 with h | ⟨n, hn, rfl⟩
  · refine rx_al_f h (br_t rfl (br_f (nI_pos hj) (rc_pr' hm hj (fun _ => br_t rfl ?_) (fun y => absurd z y))))
    exact ry_ns_f h (br_f (by decide) ⟨rfl, rc_mk hm hX hY hW hl hH⟩)
  · refine rx_al_t hn (br_f (by decide) (rx_fw hn ⟨_, rx_com_loop hm hX hn z (4 ^ n) (4 ^ n) (by omega) (Nat.le_refl _) (fun ha => ?_) (fun hx => ?_)⟩))
    · refine br_f (nI_pos hj) (rc_pr' hm hj (fun _ => br_t rfl (ry_ns_t hn (br_t rfl (ry_lst hn ⟨_, ry_com1 hm hY hn z (fun sz mo ro ma rs hr => ?_) (4 ^ n) (4 ^ n) _ _ _ _ _ (by omega) (Nat.le_refl _) (fun v a b => absurd b (by omega))⟩)))) (fun y => absurd z y))
      exact ⟨_, ry_com2 hm (rc_B_swap hY z) hn z hr (4 ^ n) (4 ^ n) 1 sz mo ro ma (by omega) (Nat.le_refl _) (fun _ _ _ _ _ => ⟨rfl, rc_mk hm hX hS hW hl hH⟩) (fun ⟨v, a, b, q⟩ => absurd (ha v a b) q)⟩
    · refine br_f (nI_pos hj) (rc_pr' hm hj (fun _ => br_t rfl (ry_ns_t hn (br_t rfl (ry_lst hn ⟨_, ry_com1 hm hY hn z (fun sz mo ro ma rs hr => ?_) (4 ^ n) (4 ^ n) _ _ _ _ _ (by omega) (Nat.le_refl _) (fun v a b => absurd b (by omega))⟩)))) (fun y => absurd z y))
      exact ⟨_, ry_com2 hm (rc_B_swap hY z) hn z hr (4 ^ n) (4 ^ n) 1 sz mo ro ma (by omega) (Nat.le_refl _) (fun ha => by
        obtain ⟨v, a, b, q⟩ := hx
        exact absurd (ha v a b) q) (fun _ _ _ _ _ => ⟨rfl, rc_mk hm hX hS hW hl hH⟩)⟩
