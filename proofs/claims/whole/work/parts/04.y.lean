section
variable {c ln sz mo : Int32} {ks xs ys ss wd ro ma rs : Nat → Int32}
/-- the first i cells hold the first i letters of t -/
def rc_P (t : List Nat) (i : Nat) (a : Nat → Int32) : Prop := ∀ j, j < i → a j = nI (t.getD j 4)
def rc_H (t : List Nat) (a : Nat → Int32) : Prop := rc_P t t.length a
theorem rc_P_0 (t : List Nat) (a : Nat → Int32) : rc_P t 0 a := fun j h => absurd h (Nat.not_lt_zero j)
theorem rc_P_s {t : List Nat} {i : Nat} {a : Nat → Int32} (h : rc_P t i a) : rc_P t (i + 1) (upd a i (nI (t.getD i 4))) := fun j hj => by
  by_cases e : j = i
  · subst e
    exact pk_us
  · rw [pk_un e]
    exact h j (by omega)
theorem rc_H_put {t : List Nat} {a : Nat → Int32} (h : rc_H t a) (x : Nat) : rc_H (t ++ [x]) (upd a t.length (nI x)) := fun j hj => by
  rw [List.length_append, List.length_singleton] at hj
  by_cases e : j = t.length
  · subst e
    rw [pk_us, List.getD_eq_getElem?_getD, List.getElem?_concat_length]
    rfl
  · rw [pk_un e, h j (by omega), List.getD_eq_getElem?_getD, List.getD_eq_getElem?_getD, List.getElem?_append_left (by omega)]
theorem rc_H_take {t : List Nat} {a : Nat → Int32} (n : Nat) (h : rc_H t a) : rc_H (t.take n) a := fun j hj => by
  rw [List.length_take] at hj
  rw [h j (by omega), List.getD_eq_getElem?_getD, List.getD_eq_getElem?_getD, List.getElem?_take_of_lt (by omega)]
theorem ry_put {post : SY → Prop} {m : Nat} (hm : m < 26) {x : Int32} (h : post (c, ln, sz, nI (m + 1), ks, xs, ys, ss, wd, ro, upd ma m x, rs)) : wpY_put post (c, ln, sz, nI m, ks, xs, ys, ss, wd, ro, ma, rs) x :=
  ⟨vp_in_nI hm (by decide), nm_r (e' := upd ma m x) (by rw [nI_clamp (by omega)]) (nm_r (nI_1 m) h)⟩
theorem ry_at {post : Int32 → Prop} {l : List Nat} (hl : l.length ≤ 12) (hH : rc_H l ro) {i : Nat} (hi : i < 2 ^ 30) (h : post (nI (l.getD i 4))) : wpY_at post (c, ln, nI l.length, mo, ks, xs, ys, ss, wd, ro, ma, rs) (nI i) := by
  refine br_f (nI_pos (by omega)) (pk_lt i l.length (fun z => ⟨vp_in_nI (by omega) (by decide), ?_⟩) (fun z => ?_))
  · rw [nI_clamp (by omega), hH i z]
    exact h
  · rw [rc_getD_out z] at h
    exact h
theorem ry_ab {post : Int32 → Prop} {l : List Nat} (hl : l.length ≤ 12) (hH : rc_H l ro) {i : Nat} (hi : i < 2 ^ 30) (h : post (nI (rc_bf l i))) : wpY_at post (c, ln, nI l.length, mo, ks, xs, ys, ss, wd, ro, ma, rs) (nI i - 1) := by
  cases i with
  | zero => exact br_t (by decide) h
  | succ i =>
    rw [nI_pred]
    rw [rc_bf_s] at h
    exact ry_at hl hH (by omega) h
theorem ry_md (s : Nat) : ∀ b, b ≤ 4 → s % 32 / 2 ^ b % 2 = s / 2 ^ b % 2 := by
  intro b hb
  rcases (show b = 0 ∨ b = 1 ∨ b = 2 ∨ b = 3 ∨ b = 4 by omega) with e | e | e | e | e <;> subst e
  · show s % 32 / 1 % 2 = s / 1 % 2
    omega
  · show s % 32 / 2 % 2 = s / 2 % 2
    omega
  · show s % 32 / 4 % 2 = s / 4 % 2
    omega
  · show s % 32 / 8 % 2 = s / 8 % 2
    omega
  · show s % 32 / 16 % 2 = s / 16 % 2
    omega
theorem ry_fits {post : Int32 → Prop} {r s b h : Nat} (hr : r < 5) (es : ss r = nI s) (hs : s < 1024) (hb : b ≤ 4) (hh : h ≤ 4) (hp : post (if rc_ft s b h = true then 1 else 0)) : wpY_fits post (c, ln, sz, mo, ks, xs, ys, ss, wd, ro, ma, rs) (nI r) (nI b) (nI h) := by
  have e : (nI r).toNatClampNeg = r := nI_clamp (by omega)
  have hi : vp_in (nI r) 5 := vp_in_nI hr (by decide)
  have e32 : ¬ (32 : Int32) = 0 := by decide
  have hmd : s % 32 < 2 ^ 31 := by omega
  refine ⟨hi, e32, nm_r (e' := nI (s % 32)) ?_ ⟨hi, e32, nm_r (e' := nI (s / 32)) ?_ ?_⟩⟩
  · rw [e, es]
    exact pk_rem (d := 32) (by omega) (by decide) (by decide)
  · rw [e, es]
    exact pk_div (d := 32) (by omega) (by decide) (by decide)
  · have z1 : (nI (s % 32) >>> (nI b &&& 31)) &&& 1 = nI (s / 2 ^ b % 2) := by
      rw [rx_sh hmd (by omega), rx_and1 (rx_dv _ (by omega)), ry_md s b hb]
    have z2 : (nI (s / 32) >>> (nI h &&& 31)) &&& 1 = nI (s / 2 ^ (5 + h) % 2) := by
      rw [rx_sh (by omega) (by omega), rx_and1 (rx_dv _ (by omega)), Nat.div_div_eq_div_mul, show 32 * 2 ^ h = 2 ^ (5 + h) from by rw [Nat.pow_add]]
    rw [z1, z2]
    refine pk_eq (s / 2 ^ b % 2) 1 (fun h1 => pk_eq (s / 2 ^ (5 + h) % 2) 1 (fun h2 => ?_) (fun h2 => ?_)) (fun h1 => ?_)
    · rw [if_pos ((rc_ft_iff s b h).mpr ⟨h1, h2⟩)] at hp
      exact hp
    · rw [if_neg (fun q => h2 ((rc_ft_iff s b h).mp q).2)] at hp
      exact hp
    · rw [if_neg (fun q => h1 ((rc_ft_iff s b h).mp q).1)] at hp
      exact hp
theorem ry_copy {post : SY → Prop} {t : List Nat} (ht : t.length ≤ 12) (hm : rc_H t ma) (hp : ∀ ro', rc_H t ro' → post (c, ln, nI t.length, mo, ks, xs, ys, ss, wd, ro', ma, rs)) : ∀ d i ro, i + d = t.length → rc_P t i ro → wY_work_181 post c ln (nI t.length) mo (d + 1) (nI i) ks xs ys ss wd ro ma rs := by
  intro d
  induction d with
  | zero =>
    intro i ro hi hP
    obtain rfl : i = t.length := by omega
    exact pk_le t.length t.length (fun _ => hp ro hP) (fun z => absurd z (by omega))
  | succ d ih =>
    intro i ro hi hP
    have hv : vp_in (nI i) 26 := vp_in_nI (by omega) (by decide)
    refine pk_le t.length i (fun z => absurd z (by omega)) (fun _ => ⟨hv, hv, nm_r (e' := upd ro i (nI (t.getD i 4))) ?_ (nm_r (nI_1 i) (ih (i + 1) _ (by omega) (rc_P_s hP)))⟩)
    rw [nI_clamp (by omega), hm i (by omega)]
abbrev ry_J : Type := Int32 → Int32 → Int32 → Int32 → Int32 → (Nat → Int32) → (Nat → Int32) → (Nat → Int32) → (Nat → Int32) → (Nat → Int32) → (Nat → Int32) → (Nat → Int32) → (Nat → Int32) → Prop
theorem ry_114 {post : SY → Prop} {J : ry_J} {x1 a : Int32} {i m : Nat} (hm : m < 26) (h : J (nI (i + 1)) c ln sz (nI (m + 1)) ks xs ys ss wd ro (upd ma m a) rs) : wY_work_114 post J x1 (nI i) a c ln sz (nI m) ks xs ys ss wd ro ma rs := by
  unfold wY_work_114 wY_work_115
  refine br_t rfl ?_
  unfold wY_work_141
  exact br_t rfl (ry_put hm (nm_r (nI_1 i) h))
theorem ry_70 {post : SY → Prop} {J : ry_J} {r i : Nat} {q : rc_Ru} (hr : r < 5) (hA : rc_A q (ks r) (xs r) (ys r) (ss r)) {l w : List Nat} (hW : rc_W l) (hl : l.length ≤ 12) (hi : i ≤ l.length) (hw : w.length < 26) (hH : rc_H w ma) (hJ : ∀ ma', rc_H (w ++ rc_e2 q l i) ma' → J (nI (i + 1)) c ln (nI l.length) (nI (w ++ rc_e2 q l i).length) ks xs ys ss wd ro ma' rs) : wY_work_70 post J (nI r) (nI i) (nI (l.getD i 4)) (nI (rc_bf l i)) (nI (l.getD (i + 1) 4)) c ln (nI l.length) (nI w.length) ks xs ys ss wd ro ma rs := by
  obtain ⟨hk, hk2, hx, hy, hs, hs'⟩ := hA
  have hv : vp_in (nI r) 5 := vp_in_nI hr (by decide)
  have hcl : (nI r).toNatClampNeg = r := nI_clamp (by omega)
  have one : ∀ a, rc_e2 q l i = [a] → J (nI (i + 1)) c ln (nI l.length) (nI (w.length + 1)) ks xs ys ss wd ro (upd ma w.length (nI a)) rs := by
    intro a e
    have h := hJ (upd ma w.length (nI a)) (by rw [e]; exact rc_H_put hH a)
    rw [e, List.length_append, List.length_singleton] at h
    exact h
  have non : rc_e2 q l i = [] → J (nI (i + 1)) c ln (nI l.length) (nI w.length) ks xs ys ss wd ro ma rs := by
    intro e
    have h := hJ ma (by rw [e, List.append_nil]; exact hH)
    rw [e, List.append_nil] at h
    exact h
  unfold wY_work_70
  refine pk_le l.length i (fun z => nm_r (nI_1 i) (non (if_neg (by omega)))) (fun hi' => ⟨hv, ?_⟩)
  have hg := rc_getD_lt hW hi'
  rw [hcl, hk]
  refine pk_le 2 q.1 (fun h2 => ?_) (fun h2 => ⟨hv, ?_⟩)
  · exact ry_114 hw (one _ (by rw [rc_e2, if_pos hi', if_neg (fun z => z.1 (by omega))]))
  · have h2' : q.1 ≠ 2 := by omega
    obtain ⟨hx1, hx2⟩ := hx h2'
    rw [hx1]
    refine pk_eq (l.getD i 4) q.2.1 (fun hx => ?_) (fun hx => ?_)
    · refine ry_fits hr hs hs' (rc_bf_le hW i) (rc_getD_le hW (i + 1)) ?_
      by_cases hf : rc_ft q.2.2.2 (rc_bf l i) (l.getD (i + 1) 4) = true
      · rw [if_pos hf]
        refine br_f (by decide) ?_
        unfold wY_work_115
        refine br_f (by decide) ⟨hv, ?_⟩
        rw [hcl, hk]
        refine pk_eq q.1 0 (fun h0 => ?_) (fun h0 => ?_)
        · obtain ⟨hy1, hy2⟩ := hy (by omega)
          refine ⟨hv, ?_⟩
          rw [hy1]
          refine ry_put hw ?_
          exact br_f (by decide) (nm_r (nI_1 i) (one _ (by rw [rc_e2, if_pos hi', if_pos ⟨h2', hx, hf⟩, if_pos h0])))
        · exact br_f (by decide) (nm_r (nI_1 i) (non (by rw [rc_e2, if_pos hi', if_pos ⟨h2', hx, hf⟩, if_neg h0])))
      · rw [if_neg hf]
        exact br_t rfl (ry_114 hw (one _ (by rw [rc_e2, if_pos hi', if_neg (fun z => hf z.2.2)])))
    · exact ry_114 hw (one _ (by rw [rc_e2, if_pos hi', if_neg (fun z => hx z.2.1)]))
theorem ry_work_loop {post : SY → Prop} {r : Nat} {q : rc_Ru} (hr : r < 5) (hA : rc_A q (ks r) (xs r) (ys r) (ss r)) {l : List Nat} (hW : rc_W l) (hl : l.length ≤ 12) (hR : rc_H l ro) (hp : ∀ mo' ro' ma', rc_H (rc_st q l) ro' → post (c, ln, nI (rc_st q l).length, mo', ks, xs, ys, ss, wd, ro', ma', rs)) : ∀ d i ma, i + d = l.length + 1 → rc_H (rc_es q l i) ma → wY_work_7 post (nI r) (d + 1) (nI i) c ln (nI l.length) (nI (rc_es q l i).length) ks xs ys ss wd ro ma rs := by
  intro d
  induction d with
  | zero =>
    intro i ma hi hH
    obtain rfl : i = l.length + 1 := by omega
    have hL := rc_es_len q l (l.length + 1)
    have hT : rc_H (rc_st q l) ma := rc_H_take 12 hH
    have hc := ry_copy (c := c) (ln := ln) (mo := nI (rc_es q l (l.length + 1)).length) (ks := ks) (xs := xs) (ys := ys) (ss := ss) (wd := wd) (rs := rs) (rc_st_len q l) hT (fun ro' h => hp _ ro' ma h) (rc_st q l).length 0 ro (by omega) (rc_P_0 _ _)
    have hln : (rc_st q l).length = min 12 (rc_es q l (l.length + 1)).length := List.length_take
    refine pk_lt l.length (l.length + 1) (fun _ => pk_le (rc_es q l (l.length + 1)).length 12 (fun z => ?_) (fun z => ?_)) (fun z => absurd z (by omega))
    · rw [show (rc_st q l).length = (rc_es q l (l.length + 1)).length from by omega] at hc
      exact ⟨_, hc⟩
    · rw [show (rc_st q l).length = 12 from by omega] at hc
      exact ⟨_, hc⟩
  | succ d ih =>
    intro i ma hi hH
    have hA' := hA
    obtain ⟨hk, hk2, hx, hy, hs, hs'⟩ := hA'
    have hv : vp_in (nI r) 5 := vp_in_nI hr (by decide)
    have hcl : (nI r).toNatClampNeg = r := nI_clamp (by omega)
    have hL := rc_es_len q l i
    refine pk_lt l.length i (fun z => absurd z (by omega)) (fun hi' => ?_)
    refine ry_at hl hR (by omega) (ry_ab hl hR (by omega) ?_)
    rw [nI_1 i]
    refine ry_at hl hR (by omega) ⟨hv, ?_⟩
    rw [hcl, hk]
    have go : ∀ w ma', w = rc_es q l i ++ rc_e1 q l i → w.length < 26 → rc_H w ma' → wY_work_70 post (wY_work_7 post (nI r) (d + 1)) (nI r) (nI i) (nI (l.getD i 4)) (nI (rc_bf l i)) (nI (l.getD (i + 1) 4)) c ln (nI l.length) (nI w.length) ks xs ys ss wd ro ma' rs := by
      intro w ma' e hw h
      refine ry_70 hr hA hW hl hi' hw h (fun ma'' h'' => ?_)
      subst e
      exact ih (i + 1) ma'' (by omega) h''
    have e0 : (rc_e1 q l i = []) → wY_work_70 post (wY_work_7 post (nI r) (d + 1)) (nI r) (nI i) (nI (l.getD i 4)) (nI (rc_bf l i)) (nI (l.getD (i + 1) 4)) c ln (nI l.length) (nI (rc_es q l i).length) ks xs ys ss wd ro ma rs := fun e => go _ ma (by rw [e, List.append_nil]) (by omega) hH
    refine pk_eq q.1 2 (fun h2 => ?_) (fun h2 => e0 (if_neg (fun z => h2 z.1)))
    refine ry_fits hr hs hs' (rc_bf_le hW i) (rc_getD_le hW i) ?_
    by_cases hf : rc_ft q.2.2.2 (rc_bf l i) (l.getD i 4) = true
    · rw [if_pos hf]
      refine br_f (by decide) ⟨hv, ?_⟩
      obtain ⟨hy1, hy2⟩ := hy (by omega)
      rw [hy1]
      refine ry_put (by omega) ?_
      have g := go (rc_es q l i ++ [q.2.2.1]) (upd ma (rc_es q l i).length (nI q.2.2.1)) (by rw [show rc_e1 q l i = [q.2.2.1] from if_pos ⟨h2, hf⟩]) (by rw [List.length_append, List.length_singleton]; omega) (rc_H_put hH _)
      rw [List.length_append, List.length_singleton] at g
      exact g
    · rw [if_neg hf]
      exact br_t rfl (e0 (if_neg (fun z => hf z.2)))
theorem ry_work {post : SY → Prop} {r : Nat} {q : rc_Ru} (hr : r < 5) (hA : rc_A q (ks r) (xs r) (ys r) (ss r)) {l : List Nat} (hW : rc_W l) (hl : l.length ≤ 12) (hR : rc_H l ro) (hp : ∀ mo' ro' ma', rc_H (rc_st q l) ro' → post (c, ln, nI (rc_st q l).length, mo', ks, xs, ys, ss, wd, ro', ma', rs)) : wpY_work post (c, ln, nI l.length, mo, ks, xs, ys, ss, wd, ro, ma, rs) (nI r) :=
  ⟨l.length + 2, ry_work_loop hr hA hW hl hR hp (l.length + 1) 0 ma (by omega) (rc_P_0 _ _)⟩
end
