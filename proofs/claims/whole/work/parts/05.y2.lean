section
variable {c ln sz mo : Int32} {ks xs ys ss wd ro ma rs : Nat → Int32}
theorem rc_drop {l : List Nat} {i : Nat} (h : i < l.length) : l.drop i = l.getD i 4 :: l.drop (i + 1) := by
  rw [List.drop_eq_getElem_cons h, List.getD_eq_getElem?_getD, List.getElem?_eq_getElem h]
  rfl
theorem ry_cor_loop {post : Int32 → Prop} {l : List Nat} (hl : l.length ≤ 12) (hR : rc_H l ro) : ∀ d i m, i + d = l.length → post (nI (rc_cf m (l.drop i))) → wY_codeOfRow_4 post c ln (nI l.length) mo ks xs ys ss wd ro ma rs (d + 1) (nI m) (nI i) := by
  intro d
  induction d with
  | zero =>
    intro i m hi h
    rw [show i = l.length from by omega, List.drop_length] at h
    exact pk_le l.length i (fun _ => h) (fun z => absurd z (by omega))
  | succ d ih =>
    intro i m hi h
    rw [rc_drop (by omega), rc_cf_cons] at h
    refine pk_le l.length i (fun z => absurd z (by omega)) (fun _ => ⟨vp_in_nI (by omega) (by decide), nm_r (e' := nI (4 * m + l.getD i 4)) ?_ (nm_r (nI_1 i) (ih (i + 1) _ (by omega) h))⟩)
    rw [nI_clamp (by omega), hR i (by omega), show (4 : Int32) * nI m = nI (4 * m) from pk_mul 4 m, nI_add]
theorem ry_cor {post : Int32 → Prop} {l : List Nat} (hl : l.length ≤ 12) (hR : rc_H l ro) (h : post (nI (rc_cd l))) : wpY_codeOfRow post (c, ln, nI l.length, mo, ks, xs, ys, ss, wd, ro, ma, rs) :=
  ⟨l.length + 1, ry_cor_loop hl hR l.length 0 1 (by omega) h⟩
theorem ry_m1 (i : Nat) : nI i + (-1) = nI i - 1 := (Int32.sub_eq_add_neg (nI i) 1).symm
theorem rc_dl_get {n w i : Nat} (h1 : 4 ^ n ≤ w) (h2 : w < 2 * 4 ^ n) (hi : i < n) : (rc_dl n w).getD i 4 = w / 4 ^ (n - 1 - i) % 4 := by
  have h := rc_cd_get (rc_dl_W n w) (i := i) (by rw [rc_dl_len]; exact hi)
  rw [rc_dl_cd n w h1 h2, rc_dl_len] at h
  exact h.symm
theorem ry_spr2 {post : SY → Prop} {n w : Nat} (hn : n ≤ 12) (h1 : 4 ^ n ≤ w) (h2 : w < 2 * 4 ^ n) (hw : w < 2 ^ 31) (hp : ∀ ro', rc_H (rc_dl n w) ro' → post (c, ln, nI n, mo, ks, xs, ys, ss, wd, ro', ma, rs)) : ∀ i ro, i ≤ n → (∀ j, i ≤ j → j < n → ro j = nI ((rc_dl n w).getD j 4)) → wY_spread_38 post c ln (nI n) mo (i + 1) (nI (w / 4 ^ (n - i))) (nI i - 1) ks xs ys ss wd ro ma rs := by
  intro i
  induction i with
  | zero =>
    intro ro hi hR
    exact br_t (by decide) (hp ro (fun j hj => hR j (Nat.zero_le j) (by rw [rc_dl_len] at hj; exact hj)))
  | succ i ih =>
    intro ro hi hR
    have e4 : ¬ (4 : Int32) = 0 := by decide
    have hlt : w / 4 ^ (n - (i + 1)) < 2 ^ 31 := rx_dv _ hw
    have ed : w / 4 ^ (n - (i + 1)) / 4 = w / 4 ^ (n - i) := by
      rw [Nat.div_div_eq_div_mul, ← Nat.pow_succ, show (n - (i + 1)).succ = n - i from by omega]
    have eg : w / 4 ^ (n - (i + 1)) % 4 = (rc_dl n w).getD i 4 := by
      rw [rc_dl_get h1 h2 (by omega), show n - 1 - i = n - (i + 1) from by omega]
    rw [nI_pred]
    refine br_f (nI_pos (by omega)) ⟨e4, vp_in_nI (by omega) (by decide), nm_r (e' := upd ro i (nI ((rc_dl n w).getD i 4))) ?_ ⟨e4, nm_r (e' := nI (w / 4 ^ (n - i))) ?_ (nm_r (ry_m1 i) (ih _ (by omega) (fun j h3 h4 => ?_)))⟩⟩
    · rw [nI_clamp (by omega), ← eg]
      exact congrArg _ (pk_rem (d := 4) hlt (by decide) (by decide))
    · rw [← ed]
      exact pk_div (d := 4) hlt (by decide) (by decide)
    · by_cases e : j = i
      · subst e
        exact pk_us
      · rw [pk_un e]
        exact hR j (by omega) h4
theorem ry_spr1 {post : SY → Prop} {x1 : Int32} {t : Nat} (h : ∃ m, wY_spread_38 post c ln (nI t) mo m x1 (nI t - 1) ks xs ys ss wd ro ma rs) : ∀ n k w, k + n = t → 4 ^ n ≤ w → w < 2 * 4 ^ n → w < 2 ^ 31 → wY_spread_7 post x1 c ln mo ks xs ys ss wd ro ma rs (n + 1) (nI w) (nI k) := by
  intro n
  induction n with
  | zero =>
    intro k w hk h1 h2 hw
    obtain rfl : k = t := by omega
    rw [Nat.pow_zero] at h1 h2
    exact pk_le w 1 (fun _ => nm_e h) (fun z => absurd z (by omega))
  | succ n ih =>
    intro k w hk h1 h2 hw
    have h0 : 0 < 4 ^ n := Nat.pow_pos (by decide)
    rw [Nat.pow_succ] at h1 h2
    exact pk_le w 1 (fun z => absurd z (by omega)) (fun _ => nm_r (nI_1 k) ⟨by decide, nm_r (pk_div (d := 4) hw (by decide) (by decide)) (ih (k + 1) (w / 4) (by omega) (by omega) (by omega) (by omega))⟩)
theorem rc_w_lt {n w : Nat} (hn : n ≤ 12) (h2 : w < 2 * 4 ^ n) : w < 2 ^ 31 := by
  have h := rc_p4 hn
  rw [rc_412] at h
  omega
theorem ry_spr {post : SY → Prop} {n w : Nat} (hn : n ≤ 12) (h1 : 4 ^ n ≤ w) (h2 : w < 2 * 4 ^ n) (hp : ∀ ro', rc_H (rc_dl n w) ro' → post (c, ln, nI n, mo, ks, xs, ys, ss, wd, ro', ma, rs)) : wpY_spread post (c, ln, sz, mo, ks, xs, ys, ss, wd, ro, ma, rs) (nI w) := by
  have hw := rc_w_lt hn h2
  have h := ry_spr2 hn h1 h2 hw hp n ro (Nat.le_refl n) (fun j h3 h4 => absurd h3 (by omega))
  rw [Nat.sub_self, Nat.pow_zero, Nat.div_one] at h
  exact ⟨n + 1, ry_spr1 ⟨_, h⟩ n 0 w (by omega) h1 h2 hw⟩
theorem ry_take_loop {post : SY → Prop} {t : List Nat} (ht : t.length ≤ 12) (hm : rc_H t wd) (hp : ∀ ro', rc_H t ro' → post (c, nI t.length, sz, mo, ks, xs, ys, ss, wd, ro', ma, rs)) : ∀ d i ro, i + d = t.length → rc_P t i ro → wY_take_10 post c (nI t.length) sz mo (d + 1) (nI i) ks xs ys ss wd ro ma rs := by
  intro d
  induction d with
  | zero =>
    intro i ro hi hP
    obtain rfl : i = t.length := by omega
    exact pk_le t.length t.length (fun _ => hp ro hP) (fun z => absurd z (by omega))
  | succ d ih =>
    intro i ro hi hP
    refine pk_le t.length i (fun z => absurd z (by omega)) (fun _ => ⟨vp_in_nI (by omega) (by decide), vp_in_nI (by omega) (by decide), nm_r (e' := upd ro i (nI (t.getD i 4))) ?_ (nm_r (nI_1 i) (ih (i + 1) _ (by omega) (rc_P_s hP)))⟩)
    rw [nI_clamp (by omega), hm i (by omega)]
theorem ry_take {post : SY → Prop} {t : List Nat} (ht : t.length ≤ 12) (hm : rc_H t wd) (hp : ∀ ro', rc_H t ro' → post (c, nI t.length, nI t.length, mo, ks, xs, ys, ss, wd, ro', ma, rs)) : wpY_take post (c, nI t.length, sz, mo, ks, xs, ys, ss, wd, ro, ma, rs) :=
  ⟨t.length + 1, ry_take_loop ht hm hp t.length 0 ro (by omega) (rc_P_0 _ _)⟩
theorem ry_all_loop {post : SY → Prop} {R : Nat → rc_Ru} {m b : Nat} (hm : m ≤ 5) (hB : rc_B m R ks xs ys ss) (hb : b ≤ m) : ∀ n a l mo ro ma, a + n = b → rc_W l → l.length ≤ 12 → rc_H l ro → (∀ mo' ro' ma', rc_H (rc_ca R a n l) ro' → post (c, ln, nI (rc_ca R a n l).length, mo', ks, xs, ys, ss, wd, ro', ma', rs)) → wY_workAll_2 post (nI b) (n + 1) (nI a) c ln (nI l.length) mo ks xs ys ss wd ro ma rs := by
  intro n
  induction n with
  | zero =>
    intro a l mo ro ma ha hW hl hR hp
    exact pk_le b a (fun _ => hp mo ro ma hR) (fun z => absurd z (by omega))
  | succ n ih =>
    intro a l mo ro ma ha hW hl hR hp
    refine pk_le b a (fun z => absurd z (by omega)) (fun _ => ry_work (by omega) (hB a (by omega)) hW hl hR (fun mo' ro' ma' h => nm_r (nI_1 a) ?_))
    exact ih (a + 1) (rc_st (R a) l) mo' ro' ma' (by omega) (rc_st_W (rc_B_y hB (by omega)) hW) (rc_st_len _ _) h hp
theorem ry_all {post : SY → Prop} {R : Nat → rc_Ru} {m : Nat} (hm : m ≤ 5) (hB : rc_B m R ks xs ys ss) {b : Nat} (hb : b ≤ m) {l : List Nat} (hW : rc_W l) (hl : l.length ≤ 12) (hR : rc_H l ro) (hp : ∀ mo' ro' ma', rc_H (rc_ca R 0 b l) ro' → post (c, ln, nI (rc_ca R 0 b l).length, mo', ks, xs, ys, ss, wd, ro', ma', rs)) : wpY_workAll post (c, ln, nI l.length, mo, ks, xs, ys, ss, wd, ro, ma, rs) (nI b) :=
  ⟨b + 1, ry_all_loop hm hB hb b 0 l mo ro ma (by omega) hW hl hR hp⟩
theorem ry_res {post : Int32 → SY → Prop} {R : Nat → rc_Ru} {m : Nat} (hm : m ≤ 5) (hB : rc_B m R ks xs ys ss) {n w : Nat} (hn : n ≤ 12) (h1 : 4 ^ n ≤ w) (h2 : w < 2 * 4 ^ n) (hp : ∀ sz' mo' ro' ma', post (nI (rc_re R m n w)) (nI m, ln, sz', mo', ks, xs, ys, ss, wd, ro', ma', rs)) : wpY_resultOf post (nI m, ln, sz, mo, ks, xs, ys, ss, wd, ro, ma, rs) (nI w) := by
  unfold wpY_resultOf
  refine ry_spr hn h1 h2 (fun ro' h => ?_)
  rw [show nI n = nI (rc_dl n w).length from by rw [rc_dl_len]]
  refine ry_all hm hB (Nat.le_refl m) (rc_dl_W n w) (by rw [rc_dl_len]; exact hn) h (fun mo' ro' ma' h' => ?_)
  exact ry_cor (rc_ca_len m 0 (by rw [rc_dl_len]; exact hn)) h' (hp _ _ _ _)
theorem ry_cow {post : Int32 → SY → Prop} {t : List Nat} (ht : t.length ≤ 12) (hm : rc_H t wd) (hp : ∀ sz' ro', post (nI (rc_cd t)) (c, nI t.length, sz', mo, ks, xs, ys, ss, wd, ro', ma, rs)) : wpY_codeOfWord post (c, nI t.length, sz, mo, ks, xs, ys, ss, wd, ro, ma, rs) := by
  unfold wpY_codeOfWord
  exact ry_take ht hm (fun ro' h => ry_cor ht h (hp _ _))
theorem rx_re {post : Int32 → Prop} {c wd : Int32} {ks xs ys ss fo : Nat → Int32} {R : Nat → rc_Ru} {m : Nat} (hm : m ≤ 5) (hB : rc_B m R ks xs ys ss) {n w : Nat} (hn : n ≤ 12) (h1 : 4 ^ n ≤ w) (h2 : w < 2 * 4 ^ n) (h : post (nI (rc_re R m n w))) : wpX_cascade post (c, wd, ks, xs, ys, ss, fo) (nI w) 0 (nI m) := by
  have e := rx_cas (post := post) (c := c) (wd := wd) (fo := fo) hm hB 0 m (by omega) (rc_dl_W n w) (by rw [rc_dl_len]; exact hn) h
  rw [rc_dl_cd n w h1 h2, Nat.zero_add] at e
  exact e
end
