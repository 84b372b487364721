theorem rc_cls (x : Int32) : x < 0 ∨ ∃ j : Nat, j < 2 ^ 31 ∧ x = nI j := by
  by_cases h : x < 0
  · exact Or.inl h
  · exact Or.inr (nI_of h)
theorem rc_ncl {x : Int32} {j : Nat} (h : x < 0) (e : x = nI j) (hj : j < 2 ^ 31) : False := by
  subst e
  exact nI_pos hj h
/-- both states: m rules R, the word t -/
def i_Rel (_ : Nat) (u : SX) (v : SY) : Prop := ∃ (m : Nat) (R : Nat → rc_Ru) (t : List Nat) (kx xx yx sx fo ky xy yy sy wy ro ma rs : Nat → Int32) (sz mo : Int32), u = (nI m, nI (rc_cd t), kx, xx, yx, sx, fo) ∧ v = (nI m, nI t.length, sz, mo, ky, xy, yy, sy, wy, ro, ma, rs) ∧ m ≤ 5 ∧ rc_B m R kx xx yx sx ∧ rc_B m R ky xy yy sy ∧ rc_W t ∧ t.length ≤ 12 ∧ rc_H t wy
theorem rc_mk {k m : Nat} {R : Nat → rc_Ru} {t : List Nat} {kx xx yx sx fo ky xy yy sy wy ro ma rs : Nat → Int32} {sz mo : Int32} (hm : m ≤ 5) (hX : rc_B m R kx xx yx sx) (hY : rc_B m R ky xy yy sy) (hW : rc_W t) (hl : t.length ≤ 12) (hH : rc_H t wy) : i_Rel k (nI m, nI (rc_cd t), kx, xx, yx, sx, fo) (nI m, nI t.length, sz, mo, ky, xy, yy, sy, wy, ro, ma, rs) :=
  ⟨m, R, t, kx, xx, yx, sx, fo, ky, xy, yy, sy, wy, ro, ma, rs, sz, mo, rfl, rfl, hm, hX, hY, hW, hl, hH⟩
theorem i_up {k : Nat} {u : SX} {v : SY} (h : i_Rel k u v) : i_Rel (k + 5) u v := h
theorem i_vc0 : wpX_init (fun u => wpY_init (fun v => i_Rel 0 u v)) := by
  unfold wpX_init wpY_init
  exact rc_mk (m := 0) (R := fun _ => (0, 0, 0, 0)) (t := []) (by decide) (fun r h => absurd h (Nat.not_lt_zero r)) (fun r h => absurd h (Nat.not_lt_zero r)) rc_W_nil (by decide) (rc_P_0 _ _)
section
variable {c ln sz mo : Int32} {ks xs ys ss wd ro ma rs : Nat → Int32}
theorem rx_isl_t {post : Int32 → Prop} {a : Nat} (ha : a < 4) (h : post 1) : wpX_isLetter post (nI a) :=
  br_f (nI_pos (by omega)) (pk_le 4 a (fun z => absurd z (by omega)) (fun _ => h))
theorem rx_isl_n {post : Int32 → Prop} {x : Int32} (hx : x < 0) (h : post 0) : wpX_isLetter post x := br_t hx h
theorem rx_isl_f {post : Int32 → Prop} {a : Nat} (ha : ¬ a < 4) (h4 : a < 2 ^ 31) (h : post 0) : wpX_isLetter post (nI a) :=
  br_f (nI_pos h4) (pk_le 4 a (fun _ => h) (fun z => absurd z (by omega)))
theorem ry_bad_t {post : Int32 → Prop} {a : Nat} (ha : a < 4) (h : post 0) : wpY_bad post (c, ln, sz, mo, ks, xs, ys, ss, wd, ro, ma, rs) (nI a) :=
  br_f (nI_pos (by omega)) (pk_le a 3 (fun _ => h) (fun z => absurd z (by omega)))
theorem ry_bad_n {post : Int32 → Prop} {x : Int32} (hx : x < 0) (h : post 1) : wpY_bad post (c, ln, sz, mo, ks, xs, ys, ss, wd, ro, ma, rs) x := br_t hx h
theorem ry_bad_f {post : Int32 → Prop} {a : Nat} (ha : ¬ a < 4) (h4 : a < 2 ^ 31) (h : post 1) : wpY_bad post (c, ln, sz, mo, ks, xs, ys, ss, wd, ro, ma, rs) (nI a) :=
  br_f (nI_pos h4) (pk_le a 3 (fun z => absurd z (by omega)) (fun _ => h))
theorem rc_A_k {q : rc_Ru} {kd : Nat} {v2 v3 v4 : Int32} (h : rc_A q (nI kd) v2 v3 v4) (hk : kd < 2 ^ 31) : kd = q.1 := (nI_eq hk (by have := h.2.1; omega)).mp h.1
/-- the four arguments make a rule, or none -/
theorem rc_A_of {kd s : Nat} {v2 v3 : Int32} (hk : kd ≤ 2) (hx : kd ≠ 2 → ∃ x, x < 4 ∧ v2 = nI x) (hy : kd ≠ 1 → ∃ y, y < 4 ∧ v3 = nI y) (hs : s < 1024) : ∃ q, rc_A q (nI kd) v2 v3 (nI s) := by
  have hx' : ∃ x, kd ≠ 2 → v2 = nI x ∧ x < 4 := by
    by_cases e : kd = 2
    · exact ⟨0, fun z => absurd e z⟩
    · obtain ⟨x, h1, h2⟩ := hx e
      exact ⟨x, fun _ => ⟨h2, h1⟩⟩
  have hy' : ∃ y, kd ≠ 1 → v3 = nI y ∧ y < 4 := by
    by_cases e : kd = 1
    · exact ⟨0, fun z => absurd e z⟩
    · obtain ⟨y, h1, h2⟩ := hy e
      exact ⟨y, fun _ => ⟨h2, h1⟩⟩
  obtain ⟨x, hx⟩ := hx'
  obtain ⟨y, hy⟩ := hy'
  exact ⟨(kd, x, y, s), rfl, hk, hx, hy, rfl, hs⟩
theorem rx_rule {wr : Int32} {fo : Nat → Int32} {post : Int32 → SX → Prop} {m : Nat} (hm : m ≤ 5) {v1 v2 v3 v4 : Int32} (hbad : (∀ q, ¬ rc_A q v1 v2 v3 v4) → post (-1) (nI m, wr, ks, xs, ys, ss, fo)) (hfull : ∀ q, rc_A q v1 v2 v3 v4 → m = 5 → post (-2) (nI m, wr, ks, xs, ys, ss, fo)) (hok : ∀ q, rc_A q v1 v2 v3 v4 → m < 5 → post (nI (m + 1)) (nI (m + 1), wr, upd ks m v1, upd xs m v2, upd ys m v3, upd ss m v4, fo)) : wpX_rule post (nI m, wr, ks, xs, ys, ss, fo) v1 v2 v3 v4 := by
  have hcl : (nI m).toNatClampNeg = m := nI_clamp (by omega)
  unfold wpX_rule
  rcases rc_cls v1 with h | ⟨kd, hkd, rfl⟩
  · exact br_t h (hbad (fun q hq => rc_ncl h hq.1 (by have := hq.2.1; omega)))
  refine br_f (nI_pos hkd) ?_
  have L39 : kd ≤ 2 → (kd ≠ 2 → ∃ x, x < 4 ∧ v2 = nI x) → (kd ≠ 1 → ∃ y, y < 4 ∧ v3 = nI y) → wX_rule_39 post (nI kd) v2 v3 v4 (nI m) wr ks xs ys ss fo := by
    intro hk hx hy
    rcases rc_cls v4 with h | ⟨s, hs, rfl⟩
    · exact br_t h (hbad (fun q hq => rc_ncl h hq.2.2.2.2.1 (by have := hq.2.2.2.2.2; omega)))
    refine br_f (nI_pos hs) (pk_lt s 1024 (fun hs' => ?_) (fun hs' => hbad (fun q hq => ?_)))
    · obtain ⟨q, hq⟩ := rc_A_of hk hx hy (show s < 1024 by omega)
      refine pk_lt m 5 (fun h5 => ?_) (fun h5 => hfull q hq (by omega))
      have hv : vp_in (nI m) 5 := vp_in_nI h5 (by decide)
      exact ⟨hv, nm_r (e' := upd ks m (nI kd)) (by rw [hcl]) ⟨hv, nm_r (e' := upd xs m v2) (by rw [hcl]) ⟨hv, nm_r (e' := upd ys m v3) (by rw [hcl]) ⟨hv, nm_r (e' := upd ss m (nI s)) (by rw [hcl]) (nm_r (nI_1 m) (hok q hq h5))⟩⟩⟩⟩
    · have h1 := hq.2.2.2.2.1
      have h2 := hq.2.2.2.2.2
      have h3 := (nI_eq hs (by omega)).mp h1
      omega
  have L25 : kd ≤ 2 → (kd ≠ 2 → ∃ x, x < 4 ∧ v2 = nI x) → wX_rule_25 post (nI kd) v2 v3 v4 (nI m) wr ks xs ys ss fo := by
    intro hk hx
    refine pk_eq kd 1 (fun e1 => L39 hk hx (fun z => absurd e1 z)) (fun e1 => ?_)
    have bad : ¬ (∃ y, y < 4 ∧ v3 = nI y) → post (-1) (nI m, wr, ks, xs, ys, ss, fo) := fun hn => hbad (fun q hq => hn ⟨q.2.2.1, (hq.2.2.2.1 (by have := rc_A_k hq hkd; omega)).2, (hq.2.2.2.1 (by have := rc_A_k hq hkd; omega)).1⟩)
    rcases rc_cls v3 with h | ⟨j, hj, e⟩
    · exact rx_isl_n h (br_t rfl (bad (fun ⟨j, h1, h2⟩ => rc_ncl h h2 (by omega))))
    · by_cases h4 : j < 4
      · subst e
        exact rx_isl_t h4 (br_f (by decide) (L39 hk hx (fun _ => ⟨j, h4, rfl⟩)))
      · subst e
        exact rx_isl_f h4 hj (br_t rfl (bad (fun ⟨i, h1, h2⟩ => h4 (by rw [(nI_eq hj (by omega)).mp h2]; exact h1))))
  refine pk_le kd 2 (fun hk => pk_eq kd 2 (fun e2 => L25 hk (fun z => absurd e2 z)) (fun e2 => ?_)) (fun hk => hbad (fun q hq => ?_))
  · have bad : ¬ (∃ y, y < 4 ∧ v2 = nI y) → post (-1) (nI m, wr, ks, xs, ys, ss, fo) := fun hn => hbad (fun q hq => hn ⟨q.2.1, (hq.2.2.1 (by have := rc_A_k hq hkd; omega)).2, (hq.2.2.1 (by have := rc_A_k hq hkd; omega)).1⟩)
    rcases rc_cls v2 with h | ⟨j, hj, e⟩
    · exact rx_isl_n h (br_t rfl (bad (fun ⟨j, h1, h2⟩ => rc_ncl h h2 (by omega))))
    · by_cases h4 : j < 4
      · subst e
        exact rx_isl_t h4 (br_f (by decide) (L25 hk (fun _ => ⟨j, h4, rfl⟩)))
      · subst e
        exact rx_isl_f h4 hj (br_t rfl (bad (fun ⟨i, h1, h2⟩ => h4 (by rw [(nI_eq hj (by omega)).mp h2]; exact h1))))
  · have h1 := rc_A_k hq hkd
    have h2 := hq.2.1
    omega
theorem ry_rule {post : Int32 → SY → Prop} {m : Nat} (hm : m ≤ 5) {v1 v2 v3 v4 : Int32} (hbad : (∀ q, ¬ rc_A q v1 v2 v3 v4) → post (-1) (nI m, ln, sz, mo, ks, xs, ys, ss, wd, ro, ma, rs)) (hfull : ∀ q, rc_A q v1 v2 v3 v4 → m = 5 → post (-2) (nI m, ln, sz, mo, ks, xs, ys, ss, wd, ro, ma, rs)) (hok : ∀ q, rc_A q v1 v2 v3 v4 → m < 5 → post (nI (m + 1)) (nI (m + 1), ln, sz, mo, upd ks m v1, upd xs m v2, upd ys m v3, upd ss m v4, wd, ro, ma, rs)) : wpY_rule post (nI m, ln, sz, mo, ks, xs, ys, ss, wd, ro, ma, rs) v1 v2 v3 v4 := by
  have hcl : (nI m).toNatClampNeg = m := nI_clamp (by omega)
  unfold wpY_rule
  rcases rc_cls v1 with h | ⟨kd, hkd, rfl⟩
  · exact br_t h (hbad (fun q hq => rc_ncl h hq.1 (by have := hq.2.1; omega)))
  refine br_f (nI_pos hkd) ?_
  have L39 : kd ≤ 2 → (kd ≠ 2 → ∃ x, x < 4 ∧ v2 = nI x) → (kd ≠ 1 → ∃ y, y < 4 ∧ v3 = nI y) → wY_rule_37 post (nI kd) v2 v3 v4 (nI m) ln sz mo ks xs ys ss wd ro ma rs := by
    intro hk hx hy
    rcases rc_cls v4 with h | ⟨s, hs, rfl⟩
    · exact br_t h (hbad (fun q hq => rc_ncl h hq.2.2.2.2.1 (by have := hq.2.2.2.2.2; omega)))
    refine br_f (nI_pos hs) (pk_le s 1023 (fun hs' => ?_) (fun hs' => hbad (fun q hq => ?_)))
    · obtain ⟨q, hq⟩ := rc_A_of hk hx hy (show s < 1024 by omega)
      refine pk_eq m 5 (fun h5 => hfull q hq h5) (fun h5 => ?_)
      have h5 : m < 5 := by omega
      have hv : vp_in (nI m) 5 := vp_in_nI h5 (by decide)
      exact ⟨hv, nm_r (e' := upd ks m (nI kd)) (by rw [hcl]) ⟨hv, nm_r (e' := upd xs m v2) (by rw [hcl]) ⟨hv, nm_r (e' := upd ys m v3) (by rw [hcl]) ⟨hv, nm_r (e' := upd ss m (nI s)) (by rw [hcl]) (nm_r (nI_1 m) (hok q hq h5))⟩⟩⟩⟩
    · have h1 := hq.2.2.2.2.1
      have h2 := hq.2.2.2.2.2
      have h3 := (nI_eq hs (by omega)).mp h1
      omega
  have L25 : kd ≤ 2 → (kd ≠ 2 → ∃ x, x < 4 ∧ v2 = nI x) → wY_rule_22 post (nI kd) v2 v3 v4 (nI m) ln sz mo ks xs ys ss wd ro ma rs := by
    intro hk hx
    refine pk_eq kd 1 (fun e1 => L39 hk hx (fun z => absurd e1 z)) (fun e1 => ?_)
    have bad : ¬ (∃ y, y < 4 ∧ v3 = nI y) → post (-1) (nI m, ln, sz, mo, ks, xs, ys, ss, wd, ro, ma, rs) := fun hn => hbad (fun q hq => hn ⟨q.2.2.1, (hq.2.2.2.1 (by have := rc_A_k hq hkd; omega)).2, (hq.2.2.2.1 (by have := rc_A_k hq hkd; omega)).1⟩)
    rcases rc_cls v3 with h | ⟨j, hj, e⟩
    · exact ry_bad_n h (br_f (by decide) (bad (fun ⟨j, h1, h2⟩ => rc_ncl h h2 (by omega))))
    · by_cases h4 : j < 4
      · subst e
        exact ry_bad_t h4 (br_t rfl (L39 hk hx (fun _ => ⟨j, h4, rfl⟩)))
      · subst e
        exact ry_bad_f h4 hj (br_f (by decide) (bad (fun ⟨i, h1, h2⟩ => h4 (by rw [(nI_eq hj (by omega)).mp h2]; exact h1))))
  refine pk_lt 2 kd (fun hk => hbad (fun q hq => ?_)) (fun hk => pk_le 2 kd (fun e2 => L25 hk (fun z => absurd (show kd = 2 by omega) z)) (fun e2 => ?_))
  · have h1 := rc_A_k hq hkd
    have h2 := hq.2.1
    omega
  · have bad : ¬ (∃ y, y < 4 ∧ v2 = nI y) → post (-1) (nI m, ln, sz, mo, ks, xs, ys, ss, wd, ro, ma, rs) := fun hn => hbad (fun q hq => hn ⟨q.2.1, (hq.2.2.1 (by have := rc_A_k hq hkd; omega)).2, (hq.2.2.1 (by have := rc_A_k hq hkd; omega)).1⟩)
    rcases rc_cls v2 with h | ⟨j, hj, e⟩
    · exact ry_bad_n h (br_f (by decide) (bad (fun ⟨j, h1, h2⟩ => rc_ncl h h2 (by omega))))
    · by_cases h4 : j < 4
      · subst e
        exact ry_bad_t h4 (br_t rfl (L25 hk (fun _ => ⟨j, h4, rfl⟩)))
      · subst e
        exact ry_bad_f h4 hj (br_f (by decide) (bad (fun ⟨i, h1, h2⟩ => h4 (by rw [(nI_eq hj (by omega)).mp h2]; exact h1))))
theorem rc_B_push {m : Nat} {R : Nat → rc_Ru} {q : rc_Ru} {v1 v2 v3 v4 : Int32} (h : rc_B m R ks xs ys ss) (hq : rc_A q v1 v2 v3 v4) : rc_B (m + 1) (fun r => if r = m then q else R r) (upd ks m v1) (upd xs m v2) (upd ys m v3) (upd ss m v4) := by
  intro r hr
  show rc_A (if r = m then q else R r) _ _ _ _
  by_cases e : r = m
  · subst e
    rw [pk_us, pk_us, pk_us, pk_us, if_pos rfl]
    exact hq
  · rw [pk_un e, pk_un e, pk_un e, pk_un e, if_neg e]
    exact h r (by omega)
theorem i_vc_rule {k : Nat} {u : SX} {v : SY} (I : i_Rel k u v) (hk : k + 5 ≤ 2560) (v1 : Int32) (v2 : Int32) (v3 : Int32) (v4 : Int32) : wpX_rule (fun r u' => wpY_rule (fun r' v' => r' = r ∧ i_Rel (k + 5) u' v') v v1 v2 v3 v4) u v1 v2 v3 v4 := by
  obtain ⟨m, R, t, kx, xx, yx, sx, fo, ky, xy, yy, sy, wy, ro, ma, rs, sz, mo, rfl, rfl, hm, hX, hY, hW, hl, hH⟩ := I
  refine rx_rule hm (fun hb => ?_) (fun q hq h5 => ?_) (fun q hq h5 => ?_)
  · exact ry_rule hm (fun _ => ⟨rfl, rc_mk hm hX hY hW hl hH⟩) (fun q hq => absurd hq (hb q)) (fun q hq => absurd hq (hb q))
  · exact ry_rule hm (fun hb => absurd hq (hb q)) (fun _ _ _ => ⟨rfl, rc_mk hm hX hY hW hl hH⟩) (fun _ _ z => absurd z (by omega))
  · exact ry_rule hm (fun hb => absurd hq (hb q)) (fun _ _ z => absurd z (by omega)) (fun _ _ _ => ⟨rfl, rc_mk h5 (rc_B_push hX hq) (rc_B_push hY hq) hW hl hH⟩)
end
