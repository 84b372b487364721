theorem rx_sh {n k : Nat} (hn : n < 2 ^ 31) (hk : k < 32) : nI n >>> (nI k &&& 31) = nI (n / 2 ^ k) := pk_shrN hn _ k (s_l k hk)
theorem rx_2 (j : Nat) : (2 : Int32) * nI j = nI (2 * j) := pk_mul 2 j
theorem rx_and3 {n : Nat} (h : n < 2 ^ 32) : nI n &&& 3 = nI (n % 4) := pk_andN h 2 (by decide)
theorem rx_and1 {n : Nat} (h : n < 2 ^ 32) : nI n &&& 1 = nI (n % 2) := pk_andN h 1 (by decide)
theorem rx_dv {a b : Nat} (k : Nat) (h : a < b) : a / k < b := Nat.lt_of_le_of_lt (Nat.div_le_self _ _) h
theorem rx_44 (n : Nat) : 2 ^ (2 * n) = 4 ^ n := by rw [Nat.pow_mul]
theorem rx_len_loop {post : Int32 → Prop} {l : List Nat} (hW : rc_W l) (hl : l.length ≤ 12) (h : post (nI l.length)) : ∀ d j, j + d = l.length → wX_lengthOf_2 post (nI (rc_cd l)) (d + 1) (nI j) := by
  have hc := rc_cd_lt hW hl
  intro d
  induction d with
  | zero =>
    intro j hj
    obtain rfl : j = l.length := by omega
    refine pk_le 12 l.length (fun _ => h) (fun hlt => ?_)
    have e : nI (rc_cd l) >>> ((2 * nI l.length) &&& 31) = 1 := by
      rw [rx_2, rx_sh (by omega) (by omega), rx_44, rc_cd_div hW]
      rfl
    exact br_t e h
  | succ d ih =>
    intro j hj
    refine pk_le 12 j (fun z => absurd z (by omega)) (fun hlt => ?_)
    have e : ¬ nI (rc_cd l) >>> ((2 * nI j) &&& 31) = 1 := by
      rw [rx_2, rx_sh (by omega) (by omega), rx_44]
      intro z
      exact rc_cd_div1 hW (by omega) ((nI_eq (b := 1) (rx_dv _ (by omega)) (by decide)).mp z)
    exact br_f e (nm_r (nI_1 j) (ih (j + 1) (by omega)))
theorem rx_len {post : Int32 → Prop} {l : List Nat} (hW : rc_W l) (hl : l.length ≤ 12) (h : post (nI l.length)) : wpX_lengthOf post (nI (rc_cd l)) := ⟨l.length + 1, rx_len_loop hW hl h l.length 0 (by omega)⟩
theorem rx_le {post : Int32 → Prop} {l : List Nat} (hW : rc_W l) (hl : l.length ≤ 12) {i : Nat} (hi : i < 2 ^ 30) (h : post (nI (l.getD i 4))) : wpX_letterOrEdge post (nI (rc_cd l)) (nI l.length) (nI i) := by
  have hc := rc_cd_lt hW hl
  refine br_f (nI_pos (by omega)) (pk_lt i l.length (fun z => ?_) (fun z => ?_))
  · have e : (nI (rc_cd l) >>> ((2 * ((nI l.length - 1) - nI i)) &&& 31)) &&& 3 = nI (l.getD i 4) := by
      rw [show nI l.length - 1 = nI (l.length - 1) from pk_sub (b := 1) (by omega), pk_sub (by omega), rx_2, rx_sh (by omega) (by omega), rx_44, rx_and3 (rx_dv _ (by omega))]
      exact congrArg nI (rc_cd_get hW z)
    rw [e]
    exact h
  · rw [rc_getD_out z] at h
    exact h
theorem rc_bf_s (l : List Nat) (i : Nat) : rc_bf l (i + 1) = l.getD i 4 := if_neg (Nat.succ_ne_zero i)
theorem rx_lb {post : Int32 → Prop} {l : List Nat} (hW : rc_W l) (hl : l.length ≤ 12) {i : Nat} (hi : i < 2 ^ 30) (h : post (nI (rc_bf l i))) : wpX_letterOrEdge post (nI (rc_cd l)) (nI l.length) (nI i - 1) := by
  cases i with
  | zero => exact br_t (by decide) h
  | succ i =>
    rw [nI_pred]
    rw [rc_bf_s] at h
    exact rx_le hW hl (by omega) h
theorem rx_app {post : Int32 → Prop} {w : List Nat} (hW : rc_W w) {a : Nat} (ha : a < 4) (h : post (nI (rc_cd ((w ++ [a]).take 12)))) : wpX_append post (nI (rc_cd (w.take 12))) (nI a) := by
  by_cases hl : w.length < 12
  · obtain ⟨e1, e2⟩ := rc_app_lt a hl
    rw [e1, rc_cd_snoc] at h
    rw [e2]
    have hs := rc_cd_small hW hl
    refine br_t (nI_lt (b := 16777216) hs (by decide)) ?_
    have e : (4 : Int32) * nI (rc_cd w) + nI a = nI (4 * rc_cd w + a) := by
      rw [show (4 : Int32) * nI (rc_cd w) = nI (4 * rc_cd w) from pk_mul 4 _, nI_add]
    rw [e]
    exact h
  · rw [rc_app_ge a (by omega)] at h
    have hf := rc_cd_full (rc_W_take 12 hW) (by rw [List.length_take]; omega)
    have hc := rc_cd_lt (rc_W_take 12 hW) (List.length_take_le 12 w)
    exact br_f (nI_nlt (b := 16777216) hf (by omega)) h
theorem rx_and2 (a b : Nat) : (a &&& b) % 2 = 1 ↔ (a % 2 = 1 ∧ b % 2 = 1) := by
  have h := Nat.testBit_and a b 0
  rw [Nat.testBit_zero, Nat.testBit_zero, Nat.testBit_zero] at h
  by_cases h1 : a % 2 = 1
  · by_cases h2 : b % 2 = 1
    · by_cases h3 : (a &&& b) % 2 = 1
      · simp [h1, h2, h3]
      · simp [h1, h2, h3] at h
    · by_cases h3 : (a &&& b) % 2 = 1
      · simp [h1, h2, h3] at h
      · simp [h1, h2, h3]
  · by_cases h3 : (a &&& b) % 2 = 1
    · simp [h1, h3] at h
    · simp [h1, h3]
theorem rc_ft_iff (s b h : Nat) : rc_ft s b h = true ↔ (s / 2 ^ b % 2 = 1 ∧ s / 2 ^ (5 + h) % 2 = 1) := by
  unfold rc_ft
  rw [Bool.and_eq_true, decide_eq_true_iff, decide_eq_true_iff]
theorem rx_fits {post : Int32 → Prop} {c wd : Int32} {ks xs ys ss fo : Nat → Int32} {r s b h : Nat} (hr : r < 5) (es : ss r = nI s) (hs : s < 1024) (hb : b ≤ 4) (hh : h ≤ 4) (hp : post (if rc_ft s b h = true then 1 else 0)) : wpX_fits post (c, wd, ks, xs, ys, ss, fo) (nI r) (nI b) (nI h) := by
  have e : (nI r).toNatClampNeg = r := nI_clamp (by omega)
  have hi : vp_in (nI r) 5 := vp_in_nI hr (by decide)
  refine ⟨hi, nm_r (e' := nI (s / 2 ^ b)) ?_ ⟨hi, nm_r (e' := nI (s / 2 ^ (5 + h))) ?_ ?_⟩⟩
  · rw [e, es, rx_sh (by omega) (by omega)]
  · rw [e, es, show (5 : Int32) + nI h = nI (5 + h) from nI_add 5 h, rx_sh (by omega) (by omega)]
  · have hlt : (s / 2 ^ b &&& s / 2 ^ (5 + h)) < 1024 := Nat.lt_of_le_of_lt Nat.and_le_left (rx_dv _ hs)
    have z : (nI (s / 2 ^ b) &&& nI (s / 2 ^ (5 + h))) &&& 1 = nI ((s / 2 ^ b &&& s / 2 ^ (5 + h)) % 2) := by
      rw [nx_and, rx_and1 (by omega)]
    by_cases hz : rc_ft s b h = true
    · rw [if_pos hz] at hp
      refine br_t ?_ hp
      rw [z, (rx_and2 _ _).mpr ((rc_ft_iff s b h).mp hz)]
      rfl
    · rw [if_neg hz] at hp
      refine br_f ?_ hp
      rw [z]
      intro q
      exact hz ((rc_ft_iff s b h).mpr ((rx_and2 _ _).mp ((nI_eq (b := 1) (by omega) (by decide)).mp q)))
theorem rx_ins_tail {post : Int32 → Prop} {J : Int32 → Int32 → Prop} {x1 x2 x3 c wd : Int32} {ks xs ys ss fo : Nat → Int32} {w l : List Nat} {i : Nat} {q : rc_Ru} (h2 : q.1 = 2) (hw : rc_W w) (hW : rc_W l) (h : J (nI (rc_cd ((w ++ rc_e2 q l i).take 12))) (nI (i + 1))) : wX_insert_62 post J x1 x2 x3 (nI (rc_cd (w.take 12))) (nI i) (nI (l.getD i 4)) c wd ks xs ys ss fo := by
  by_cases hi : i < l.length
  · have e : rc_e2 q l i = [l.getD i 4] := by rw [rc_e2, if_pos hi, if_neg (fun z => z.1 h2)]
    rw [e] at h
    have hlt := rc_getD_lt hW hi
    exact br_f (fun z => by have := (nI_eq (b := 4) (by omega) (by decide)).mp z; omega) (rx_app hw hlt (nm_r (nI_1 i) h))
  · have e : rc_e2 q l i = [] := if_neg hi
    rw [e, List.append_nil] at h
    rw [rc_getD_out (by omega)]
    exact br_t rfl (nm_r (nI_1 i) h)
theorem rx_ins_loop {post : Int32 → Prop} {c wd : Int32} {ks xs ys ss fo : Nat → Int32} {r : Nat} {q : rc_Ru} (hr : r < 5) (hA : rc_A q (ks r) (xs r) (ys r) (ss r)) (h2 : q.1 = 2) {l : List Nat} (hW : rc_W l) (hl : l.length ≤ 12) (h : post (nI (rc_cd (rc_st q l)))) : ∀ d i, i + d = l.length + 1 → wX_insert_11 post (nI r) (nI (rc_cd l)) (nI l.length) c wd ks xs ys ss fo (d + 1) (nI (rc_cd ((rc_es q l i).take 12))) (nI i) := by
  obtain ⟨hk, _, _, hy, hs, hs'⟩ := hA
  have hy4 : q.1 ≠ 1 → q.2.2.1 < 4 := fun z => (hy z).2
  obtain ⟨hy1, hy2⟩ := hy (by omega)
  intro d
  induction d with
  | zero =>
    intro i hi
    obtain rfl : i = l.length + 1 := by omega
    exact pk_lt l.length (l.length + 1) (fun _ => h) (fun z => absurd z (by omega))
  | succ d ih =>
    intro i hi
    have ih' := ih (i + 1) (by omega)
    have hE := rc_es_W hy4 hW i
    refine pk_lt l.length i (fun z => absurd z (by omega)) (fun _ => ?_)
    refine rx_lb hW hl (by omega) (rx_le hW hl (by omega) (rx_fits hr hs hs' (rc_bf_le hW i) (rc_getD_le hW i) ?_))
    by_cases hf : rc_ft q.2.2.2 (rc_bf l i) (l.getD i 4) = true
    · have e1 : rc_e1 q l i = [q.2.2.1] := if_pos ⟨h2, hf⟩
      rw [rc_es, e1] at ih'
      rw [if_pos hf]
      refine br_f (by decide) ⟨vp_in_nI hr (by decide), ?_⟩
      rw [nI_clamp (by omega), hy1]
      exact rx_app hE hy2 (rx_ins_tail h2 (rc_W_app hE (rc_W_one hy2)) hW ih')
    · have e1 : rc_e1 q l i = [] := if_neg (fun z => hf z.2)
      rw [rc_es, e1, List.append_nil] at ih'
      rw [if_neg hf]
      exact br_t rfl (rx_ins_tail h2 hE hW ih')
theorem rx_ins {post : Int32 → Prop} {c wd : Int32} {ks xs ys ss fo : Nat → Int32} {r : Nat} {q : rc_Ru} (hr : r < 5) (hA : rc_A q (ks r) (xs r) (ys r) (ss r)) (h2 : q.1 = 2) {l : List Nat} (hW : rc_W l) (hl : l.length ≤ 12) (h : post (nI (rc_cd (rc_st q l)))) : wpX_insert post (c, wd, ks, xs, ys, ss, fo) (nI r) (nI (rc_cd l)) := by
  unfold wpX_insert
  exact rx_len hW hl ⟨l.length + 2, rx_ins_loop hr hA h2 hW hl h (l.length + 1) 0 (by omega)⟩
theorem rx_cod_loop {post : Int32 → Prop} {c wd : Int32} {ks xs ys ss fo : Nat → Int32} {r : Nat} {q : rc_Ru} (hr : r < 5) (hA : rc_A q (ks r) (xs r) (ys r) (ss r)) (h2 : q.1 ≠ 2) {l : List Nat} (hW : rc_W l) (hl : l.length ≤ 12) (h : post (nI (rc_cd (rc_st q l)))) : ∀ d i, i + d = l.length → wX_changeOrDelete_11 post (nI r) (nI (rc_cd l)) (nI l.length) c wd ks xs ys ss fo (d + 1) (nI (rc_cd ((rc_es q l i).take 12))) (nI i) := by
  rw [rc_st_01 h2] at h
  obtain ⟨hk, hk2, hx, hy, hs, hs'⟩ := hA
  have hy4 : q.1 ≠ 1 → q.2.2.1 < 4 := fun z => (hy z).2
  obtain ⟨hx1, hx2⟩ := hx h2
  intro d
  induction d with
  | zero =>
    intro i hi
    obtain rfl : i = l.length := by omega
    exact pk_le l.length l.length (fun _ => h) (fun z => absurd z (by omega))
  | succ d ih =>
    intro i hi
    have hi' : i < l.length := by omega
    have ih' := ih (i + 1) (by omega)
    have hE := rc_es_W hy4 hW i
    have hg := rc_getD_lt hW hi'
    have hv : vp_in (nI r) 5 := vp_in_nI hr (by decide)
    have hcl : (nI r).toNatClampNeg = r := nI_clamp (by omega)
    have e1 : rc_e1 q l i = [] := if_neg (fun z => h2 z.1)
    rw [rc_es, e1, List.append_nil] at ih'
    refine pk_le l.length i (fun z => absurd z (by omega)) (fun _ => ?_)
    refine rx_lb hW hl (by omega) (rx_le hW hl (by omega) ?_)
    rw [nI_1 i]
    refine rx_le hW hl (by omega) ⟨hv, ?_⟩
    rw [hcl, hx1]
    refine pk_eq (l.getD i 4) q.2.1 (fun hx => ?_) (fun hx => ?_)
    · refine rx_fits hr hs hs' (rc_bf_le hW i) (rc_getD_le hW (i + 1)) ?_
      by_cases hf : rc_ft q.2.2.2 (rc_bf l i) (l.getD (i + 1) 4) = true
      · rw [if_pos hf]
        refine br_f (by decide) ⟨hv, ?_⟩
        rw [hk]
        refine pk_eq q.1 0 (fun h0 => ?_) (fun h0 => ?_)
        · obtain ⟨hy1, hy2⟩ := hy (by omega)
          have e2 : rc_e2 q l i = [q.2.2.1] := by rw [rc_e2, if_pos hi', if_pos ⟨h2, hx, hf⟩, if_pos h0]
          rw [e2] at ih'
          refine ⟨hv, ?_⟩
          rw [hy1]
          exact rx_app hE hy2 (nm_e ih')
        · have e2 : rc_e2 q l i = [] := by rw [rc_e2, if_pos hi', if_pos ⟨h2, hx, hf⟩, if_neg h0]
          rw [e2, List.append_nil] at ih'
          exact nm_e ih'
      · rw [if_neg hf]
        have e2 : rc_e2 q l i = [l.getD i 4] := by rw [rc_e2, if_pos hi', if_neg (fun z => hf z.2.2)]
        rw [e2] at ih'
        exact br_t rfl (rx_app hE hg (nm_r (nI_1 i) ih'))
    · have e2 : rc_e2 q l i = [l.getD i 4] := by rw [rc_e2, if_pos hi', if_neg (fun z => hx z.2.1)]
      rw [e2] at ih'
      exact rx_app hE hg (nm_r (nI_1 i) ih')
theorem rx_cod {post : Int32 → Prop} {c wd : Int32} {ks xs ys ss fo : Nat → Int32} {r : Nat} {q : rc_Ru} (hr : r < 5) (hA : rc_A q (ks r) (xs r) (ys r) (ss r)) (h2 : q.1 ≠ 2) {l : List Nat} (hW : rc_W l) (hl : l.length ≤ 12) (h : post (nI (rc_cd (rc_st q l)))) : wpX_changeOrDelete post (c, wd, ks, xs, ys, ss, fo) (nI r) (nI (rc_cd l)) := by
  unfold wpX_changeOrDelete
  exact rx_len hW hl ⟨l.length + 1, rx_cod_loop hr hA h2 hW hl h l.length 0 (by omega)⟩
theorem rx_cas_loop {post : Int32 → Prop} {c wd : Int32} {ks xs ys ss fo : Nat → Int32} {R : Nat → rc_Ru} {m b : Nat} (hm : m ≤ 5) (hB : rc_B m R ks xs ys ss) (hb : b ≤ m) : ∀ n a l, a + n = b → rc_W l → l.length ≤ 12 → post (nI (rc_cd (rc_ca R a n l))) → wX_cascade_6 post (nI b) c wd ks xs ys ss fo (n + 1) (nI (rc_cd l)) (nI a) := by
  intro n
  induction n with
  | zero =>
    intro a l ha hW hl h
    exact pk_le b a (fun _ => h) (fun z => absurd z (by omega))
  | succ n ih =>
    intro a l ha hW hl h
    have hA := hB a (by omega)
    have hcl : (nI a).toNatClampNeg = a := nI_clamp (by omega)
    have nx := ih (a + 1) (rc_st (R a) l) (by omega) (rc_st_W (rc_B_y hB (by omega)) hW) (rc_st_len _ _) h
    have hk := hA.1
    have hk2 := hA.2.1
    refine pk_le b a (fun z => absurd z (by omega)) (fun _ => ⟨vp_in_nI (by omega) (by decide), ?_⟩)
    rw [hcl, hk]
    refine pk_eq (R a).1 2 (fun h2 => ?_) (fun h2 => ?_)
    · exact rx_ins (by omega) hA h2 hW hl (nm_r (nI_1 a) nx)
    · exact rx_cod (by omega) hA h2 hW hl (nm_r (nI_1 a) nx)
theorem rx_cas {post : Int32 → Prop} {c wd : Int32} {ks xs ys ss fo : Nat → Int32} {R : Nat → rc_Ru} {m : Nat} (hm : m ≤ 5) (hB : rc_B m R ks xs ys ss) (a n : Nat) (hb : a + n ≤ m) {l : List Nat} (hW : rc_W l) (hl : l.length ≤ 12) (h : post (nI (rc_cd (rc_ca R a n l)))) : wpX_cascade post (c, wd, ks, xs, ys, ss, fo) (nI (rc_cd l)) (nI a) (nI (a + n)) := by
  unfold wpX_cascade
  exact ⟨n + 1, rx_cas_loop hm hB hb n a l rfl hW hl h⟩
