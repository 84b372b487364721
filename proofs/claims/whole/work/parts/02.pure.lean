/-- the code c carried on over the letters of l: 4 times the code so far plus the next letter -/
def rc_cf (c : Nat) (l : List Nat) : Nat := l.foldl (fun b a => 4 * b + a) c
def rc_cd (l : List Nat) : Nat := rc_cf 1 l
def rc_W (l : List Nat) : Prop := ∀ a, a ∈ l → a < 4
theorem rc_cf_cons (c a : Nat) (l : List Nat) : rc_cf c (a :: l) = rc_cf (4 * c + a) l := rfl
theorem rc_cd_nil : rc_cd [] = 1 := rfl
theorem rc_cd_snoc (l : List Nat) (a : Nat) : rc_cd (l ++ [a]) = 4 * rc_cd l + a := by
  unfold rc_cd rc_cf
  rw [List.foldl_append]
  rfl
theorem rc_W_nil : rc_W [] := fun a h => nomatch h
theorem rc_W_one {a : Nat} (h : a < 4) : rc_W [a] := fun b hb => by
  rw [List.mem_singleton] at hb
  omega
theorem rc_W_app {l m : List Nat} (h : rc_W l) (k : rc_W m) : rc_W (l ++ m) := fun a ha => by
  rcases List.mem_append.mp ha with z | z
  · exact h a z
  · exact k a z
theorem rc_W_take {l : List Nat} (n : Nat) (h : rc_W l) : rc_W (l.take n) := fun a ha => h a (List.mem_of_mem_take ha)
theorem rc_W_tail {a : Nat} {l : List Nat} (h : rc_W (a :: l)) : rc_W l := fun b hb => h b (List.mem_cons_of_mem _ hb)
theorem rc_W_head {a : Nat} {l : List Nat} (h : rc_W (a :: l)) : a < 4 := h a List.mem_cons_self
theorem rc_cf_div (l : List Nat) : ∀ c, rc_W l → rc_cf c l / 4 ^ l.length = c := by
  induction l with
  | nil => intro c _; show c / 4 ^ 0 = c; rw [Nat.pow_zero, Nat.div_one]
  | cons a t ih =>
    intro c h
    have ha := rc_W_head h
    rw [rc_cf_cons, List.length_cons, Nat.pow_succ, ← Nat.div_div_eq_div_mul, ih _ (rc_W_tail h)]
    omega
theorem rc_cf_get (l : List Nat) : ∀ c i, rc_W l → i < l.length → rc_cf c l / 4 ^ (l.length - 1 - i) % 4 = l.getD i 4 := by
  induction l with
  | nil => intro c i _ h; exact absurd h (Nat.not_lt_zero _)
  | cons a t ih =>
    intro c i h hi
    have ha := rc_W_head h
    have ht := rc_W_tail h
    rw [List.length_cons] at hi
    cases i with
    | zero =>
      rw [rc_cf_cons, List.length_cons, show t.length + 1 - 1 - 0 = t.length from by omega, rc_cf_div t _ ht]
      show (4 * c + a) % 4 = a
      omega
    | succ i =>
      rw [rc_cf_cons, List.length_cons, show t.length + 1 - 1 - (i + 1) = t.length - 1 - i from by omega]
      exact ih (4 * c + a) i ht (by omega)
theorem rc_cd_div {l : List Nat} (h : rc_W l) : rc_cd l / 4 ^ l.length = 1 := rc_cf_div l 1 h
theorem rc_cd_get {l : List Nat} (h : rc_W l) {i : Nat} (hi : i < l.length) : rc_cd l / 4 ^ (l.length - 1 - i) % 4 = l.getD i 4 := rc_cf_get l 1 i h hi
theorem rc_cd_bd {l : List Nat} (h : rc_W l) : 4 ^ l.length ≤ rc_cd l ∧ rc_cd l < 2 * 4 ^ l.length := by
  have h1 := rc_cd_div h
  have h2 := Nat.div_add_mod (rc_cd l) (4 ^ l.length)
  have h3 := Nat.mod_lt (rc_cd l) (show 0 < 4 ^ l.length from Nat.pow_pos (by decide))
  rw [h1] at h2
  omega
theorem rc_p4 {a b : Nat} (h : a ≤ b) : 4 ^ a ≤ 4 ^ b := Nat.pow_le_pow_right (by decide) h
theorem rc_412 : 4 ^ 12 = 16777216 := by decide
theorem rc_411 : 4 ^ 11 = 4194304 := by decide
theorem rc_cd_lt {l : List Nat} (h : rc_W l) (hl : l.length ≤ 12) : rc_cd l < 33554432 := by
  have h1 := (rc_cd_bd h).2
  have h2 := rc_p4 hl
  rw [rc_412] at h2
  omega
theorem rc_cd_small {l : List Nat} (h : rc_W l) (hl : l.length < 12) : rc_cd l < 16777216 := by
  have h1 := (rc_cd_bd h).2
  have h2 := rc_p4 (show l.length ≤ 11 by omega)
  rw [rc_411] at h2
  omega
theorem rc_cd_full {l : List Nat} (h : rc_W l) (hl : 12 ≤ l.length) : 16777216 ≤ rc_cd l := by
  have h1 := (rc_cd_bd h).1
  have h2 := rc_p4 hl
  rw [rc_412] at h2
  omega
theorem rc_cd_div1 {l : List Nat} (h : rc_W l) {j : Nat} (hj : j < l.length) : ¬ rc_cd l / 4 ^ j = 1 := by
  intro z
  have h1 := (rc_cd_bd h).1
  have h2 := rc_p4 (show j + 1 ≤ l.length by omega)
  have h3 := Nat.div_add_mod (rc_cd l) (4 ^ j)
  have h4 := Nat.mod_lt (rc_cd l) (show 0 < 4 ^ j from Nat.pow_pos (by decide))
  rw [Nat.pow_succ] at h2
  rw [z] at h3
  omega
theorem rc_getD_lt {l : List Nat} (h : rc_W l) {i : Nat} (hi : i < l.length) : l.getD i 4 < 4 := by
  rw [List.getD_eq_getElem?_getD, List.getElem?_eq_getElem hi]
  exact h _ (List.getElem_mem hi)
theorem rc_getD_le {l : List Nat} (h : rc_W l) (i : Nat) : l.getD i 4 ≤ 4 := by
  by_cases hi : i < l.length
  · exact Nat.le_of_lt (rc_getD_lt h hi)
  · rw [List.getD_eq_getElem?_getD, List.getElem?_eq_none (by omega)]
    exact Nat.le_refl 4
theorem rc_getD_out {l : List Nat} {i : Nat} (hi : l.length ≤ i) : l.getD i 4 = 4 := by
  rw [List.getD_eq_getElem?_getD, List.getElem?_eq_none (by omega)]
  rfl
theorem rc_app_lt {l : List Nat} (a : Nat) (hl : l.length < 12) : (l ++ [a]).take 12 = l ++ [a] ∧ l.take 12 = l := by
  refine ⟨List.take_of_length_le ?_, List.take_of_length_le (by omega)⟩
  rw [List.length_append, List.length_singleton]
  omega
theorem rc_app_ge {l : List Nat} (a : Nat) (hl : 12 ≤ l.length) : (l ++ [a]).take 12 = l.take 12 := List.take_append_of_le_length hl
abbrev rc_Ru : Type := Nat × Nat × Nat × Nat
def rc_ft (s b h : Nat) : Bool := decide (s / 2 ^ b % 2 = 1) && decide (s / 2 ^ (5 + h) % 2 = 1)
def rc_bf (l : List Nat) (i : Nat) : Nat := if i = 0 then 4 else l.getD (i - 1) 4
def rc_e1 (r : rc_Ru) (l : List Nat) (i : Nat) : List Nat := if r.1 = 2 ∧ rc_ft r.2.2.2 (rc_bf l i) (l.getD i 4) = true then [r.2.2.1] else []
def rc_e2 (r : rc_Ru) (l : List Nat) (i : Nat) : List Nat := if i < l.length then (if r.1 ≠ 2 ∧ l.getD i 4 = r.2.1 ∧ rc_ft r.2.2.2 (rc_bf l i) (l.getD (i + 1) 4) = true then (if r.1 = 0 then [r.2.2.1] else []) else [l.getD i 4]) else []
def rc_es (r : rc_Ru) (l : List Nat) : Nat → List Nat
  | 0 => []
  | i + 1 => rc_es r l i ++ rc_e1 r l i ++ rc_e2 r l i
def rc_st (r : rc_Ru) (l : List Nat) : List Nat := (rc_es r l (l.length + 1)).take 12
def rc_ca (R : Nat → rc_Ru) : Nat → Nat → List Nat → List Nat
  | _, 0, l => l
  | a, n + 1, l => rc_ca R (a + 1) n (rc_st (R a) l)
theorem rc_bf_le {l : List Nat} (h : rc_W l) (i : Nat) : rc_bf l i ≤ 4 := by
  unfold rc_bf
  split
  · exact Nat.le_refl 4
  · exact rc_getD_le h _
theorem rc_e1_W {r : rc_Ru} (hy : r.1 ≠ 1 → r.2.2.1 < 4) (l : List Nat) (i : Nat) : rc_W (rc_e1 r l i) := by
  unfold rc_e1
  split
  · rename_i z
    exact rc_W_one (hy (by omega))
  · exact rc_W_nil
theorem rc_e2_W {r : rc_Ru} (hy : r.1 ≠ 1 → r.2.2.1 < 4) {l : List Nat} (h : rc_W l) (i : Nat) : rc_W (rc_e2 r l i) := by
  unfold rc_e2
  split
  · rename_i hi
    split
    · split
      · exact rc_W_one (hy (by omega))
      · exact rc_W_nil
    · exact rc_W_one (rc_getD_lt h hi)
  · exact rc_W_nil
theorem rc_e1_len (r : rc_Ru) (l : List Nat) (i : Nat) : (rc_e1 r l i).length ≤ 1 := by
  unfold rc_e1
  split
  · exact Nat.le_refl 1
  · exact Nat.zero_le 1
theorem rc_e2_len (r : rc_Ru) (l : List Nat) (i : Nat) : (rc_e2 r l i).length ≤ 1 := by
  unfold rc_e2
  split
  · split
    · split
      · exact Nat.le_refl 1
      · exact Nat.zero_le 1
    · exact Nat.le_refl 1
  · exact Nat.zero_le 1
theorem rc_es_W {r : rc_Ru} (hy : r.1 ≠ 1 → r.2.2.1 < 4) {l : List Nat} (h : rc_W l) : ∀ i, rc_W (rc_es r l i)
  | 0 => rc_W_nil
  | i + 1 => rc_W_app (rc_W_app (rc_es_W hy h i) (rc_e1_W hy l i)) (rc_e2_W hy h i)
theorem rc_es_len (r : rc_Ru) (l : List Nat) : ∀ i, (rc_es r l i).length ≤ 2 * i
  | 0 => Nat.le_refl 0
  | i + 1 => by
    have h := rc_es_len r l i
    have h1 := rc_e1_len r l i
    have h2 := rc_e2_len r l i
    rw [rc_es, List.length_append, List.length_append]
    omega
theorem rc_st_W {r : rc_Ru} (hy : r.1 ≠ 1 → r.2.2.1 < 4) {l : List Nat} (h : rc_W l) : rc_W (rc_st r l) := rc_W_take 12 (rc_es_W hy h _)
theorem rc_st_len (r : rc_Ru) (l : List Nat) : (rc_st r l).length ≤ 12 := List.length_take_le 12 _
/-- kinds 0 and 1 put nothing behind the last letter -/
theorem rc_st_01 {r : rc_Ru} (h : r.1 ≠ 2) (l : List Nat) : rc_st r l = (rc_es r l l.length).take 12 := by
  have e1 : rc_e1 r l l.length = [] := if_neg (fun z => h z.1)
  have e2 : rc_e2 r l l.length = [] := if_neg (Nat.lt_irrefl _)
  rw [rc_st, rc_es, e1, e2, List.append_nil, List.append_nil]
theorem rc_ca_W {R : Nat → rc_Ru} : ∀ (n a : Nat) {l : List Nat}, (∀ r, a ≤ r → r < a + n → (R r).1 ≠ 1 → (R r).2.2.1 < 4) → rc_W l → rc_W (rc_ca R a n l)
  | 0, _, _, _, h => h
  | n + 1, a, _, hy, h => rc_ca_W n (a + 1) (fun r h1 h2 => hy r (by omega) (by omega)) (rc_st_W (hy a (Nat.le_refl a) (by omega)) h)
theorem rc_ca_len {R : Nat → rc_Ru} : ∀ (n a : Nat) {l : List Nat}, l.length ≤ 12 → (rc_ca R a n l).length ≤ 12
  | 0, _, _, h => h
  | n + 1, a, l, _ => rc_ca_len n (a + 1) (rc_st_len (R a) l)
theorem rc_ca_add {R : Nat → rc_Ru} : ∀ (m n a : Nat) (l : List Nat), rc_ca R a (m + n) l = rc_ca R (a + m) n (rc_ca R a m l)
  | 0, n, a, l => by rw [Nat.zero_add]; rfl
  | m + 1, n, a, l => by
    rw [show m + 1 + n = (m + n) + 1 from by omega]
    show rc_ca R (a + 1) (m + n) (rc_st (R a) l) = rc_ca R (a + (m + 1)) n (rc_ca R (a + 1) m (rc_st (R a) l))
    rw [rc_ca_add m n (a + 1), show a + 1 + m = a + (m + 1) from by omega]
theorem rc_ca_congr {R Q : Nat → rc_Ru} : ∀ (n a : Nat) (l : List Nat), (∀ r, a ≤ r → r < a + n → R r = Q r) → rc_ca R a n l = rc_ca Q a n l
  | 0, _, _, _ => rfl
  | n + 1, a, l, h => by
    show rc_ca R (a + 1) n (rc_st (R a) l) = rc_ca Q (a + 1) n (rc_st (Q a) l)
    rw [h a (Nat.le_refl a) (by omega), rc_ca_congr n (a + 1) _ (fun r h1 h2 => h r (by omega) (by omega))]
/-- the word of n letters whose code is w -/
def rc_dl : Nat → Nat → List Nat
  | 0, _ => []
  | n + 1, w => rc_dl n (w / 4) ++ [w % 4]
theorem rc_dl_len : ∀ n w, (rc_dl n w).length = n
  | 0, _ => rfl
  | n + 1, w => by rw [rc_dl, List.length_append, rc_dl_len n, List.length_singleton]
theorem rc_dl_W : ∀ n w, rc_W (rc_dl n w)
  | 0, _ => rc_W_nil
  | n + 1, w => rc_W_app (rc_dl_W n (w / 4)) (rc_W_one (Nat.mod_lt _ (by decide)))
theorem rc_dl_cd : ∀ n w, 4 ^ n ≤ w → w < 2 * 4 ^ n → rc_cd (rc_dl n w) = w
  | 0, w, h1, h2 => by
    rw [Nat.pow_zero] at h1 h2
    show 1 = w
    omega
  | n + 1, w, h1, h2 => by
    rw [Nat.pow_succ] at h1 h2
    rw [rc_dl, rc_cd_snoc, rc_dl_cd n (w / 4) (by omega) (by omega)]
    omega
/-- the code of what the first c rules make of the word of n letters with code w -/
def rc_re (R : Nat → rc_Ru) (c n w : Nat) : Nat := rc_cd (rc_ca R 0 c (rc_dl n w))
/-- one rule in four cells -/
def rc_A (r : rc_Ru) (kd x y s : Int32) : Prop := kd = nI r.1 ∧ r.1 ≤ 2 ∧ (r.1 ≠ 2 → x = nI r.2.1 ∧ r.2.1 < 4) ∧ (r.1 ≠ 1 → y = nI r.2.2.1 ∧ r.2.2.1 < 4) ∧ s = nI r.2.2.2 ∧ r.2.2.2 < 1024
/-- the first c rules in four arrays -/
def rc_B (c : Nat) (R : Nat → rc_Ru) (ks xs ys ss : Nat → Int32) : Prop := ∀ r, r < c → rc_A (R r) (ks r) (xs r) (ys r) (ss r)
theorem rc_B_y {c : Nat} {R : Nat → rc_Ru} {ks xs ys ss : Nat → Int32} (h : rc_B c R ks xs ys ss) {r : Nat} (hr : r < c) : (R r).1 ≠ 1 → (R r).2.2.1 < 4 := fun z => ((h r hr).2.2.2.1 z).2
