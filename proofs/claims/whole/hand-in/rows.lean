section
theorem pk_us {f : Nat → Int32} {k : Nat} {x : Int32} : upd f k x k = x := if_pos rfl
theorem pk_un {f : Nat → Int32} {k j : Nat} {x : Int32} (h : j ≠ k) : upd f k x j = f j := if_neg h
theorem pk_sub {a b : Nat} (h : b ≤ a) : nI a - nI b = nI (a - b) := by
  obtain ⟨c, rfl⟩ : ∃ c, a = c + b := ⟨a - b, by omega⟩
  rw [← nI_add, Int32.add_sub_cancel, Nat.add_sub_cancel]
theorem pk_m1 (n : Nat) : nI (n + 1) + (-1) = nI n := by
  rw [← nI_1, Int32.add_assoc, show (1 : Int32) + (-1) = 0 from rfl, Int32.add_zero]
theorem pk_mul (a b : Nat) : nI a * nI b = nI (a * b) := (Int32.ofNat_mul a b).symm
theorem pk_div {a d : Nat} (ha : a < 2 ^ 31) (h0 : 0 < d) (hd : d < 2 ^ 31) : nI a / nI d = nI (a / d) := by
  apply Int32.toInt_inj.mp
  rw [lg_idiv_nonneg (by rw [nI_toInt ha]; omega) (by rw [nI_toInt hd]; omega), nI_toInt ha, nI_toInt hd, nI_toInt (Nat.lt_of_le_of_lt (Nat.div_le_self a d) ha)]
  first | rfl | exact (Int.natCast_ediv _ _).symm
theorem pk_rem {a d : Nat} (ha : a < 2 ^ 31) (h0 : 0 < d) (hd : d < 2 ^ 31) : nI a - nI a / nI d * nI d = nI (a % d) := by
  rw [pk_div ha h0 hd, pk_mul, pk_sub (Nat.div_mul_le_self a d)]
  exact congrArg nI (by have := Nat.div_add_mod' a d; omega)
theorem pk_ix (x : Int32) {n : Nat} (hn : n < 2 ^ 31) : x < 0 ∨ nI n ≤ x ∨ ∃ j : Nat, j < n ∧ x = nI j := by
  by_cases h : x < 0
  · exact Or.inl h
  · obtain ⟨j, hj, rfl⟩ := nI_of h
    by_cases h2 : j < n
    · exact Or.inr (Or.inr ⟨j, h2, rfl⟩)
    · exact Or.inr (Or.inl (nI_le (by omega) hj))
theorem pk_le {x y : Int32} {A B : Prop} (a b : Nat) (f : a ≤ b → A) (g : b < a → B) (hx : x = nI a := by rfl) (hy : y = nI b := by rfl) (ha : a < 2 ^ 31 := by omega) (hb : b < 2 ^ 31 := by omega) : (x ≤ y → A) ∧ (¬ x ≤ y → B) := by
  subst hx hy
  rw [nI_leI ha hb]
  exact ⟨f, fun z => g (by omega)⟩
theorem pk_lt {x y : Int32} {A B : Prop} (a b : Nat) (f : a < b → A) (g : b ≤ a → B) (hx : x = nI a := by rfl) (hy : y = nI b := by rfl) (ha : a < 2 ^ 31 := by omega) (hb : b < 2 ^ 31 := by omega) : (x < y → A) ∧ (¬ x < y → B) := by
  subst hx hy
  rw [nI_ltI ha hb]
  exact ⟨f, fun z => g (by omega)⟩
theorem pk_eq {x y : Int32} {A B : Prop} (a b : Nat) (f : a = b → A) (g : a ≠ b → B) (hx : x = nI a := by rfl) (hy : y = nI b := by rfl) (ha : a < 2 ^ 31 := by omega) (hb : b < 2 ^ 31 := by omega) : (x = y → A) ∧ (¬ x = y → B) := by
  subst hx hy
  rw [nI_eq ha hb]
  exact ⟨f, g⟩
theorem pk_in {x : Int32} (n N : Nat) (h : n < N) (hx : x = nI n := by rfl) (hN : N < 2 ^ 31 := by omega) : vp_in x N := by
  subst hx
  exact vp_in_nI h hN
theorem pk_cl {x : Int32} (n : Nat) (hx : x = nI n := by rfl) (h : n < 2 ^ 31 := by omega) : x.toNatClampNeg = n := by
  subst hx
  exact nI_clamp h
theorem pk_tn {n : Nat} (h : n < 2 ^ 32) : (nI n).toBitVec.toNat = n := Nat.mod_eq_of_lt h
theorem pk_and (x : Int32) {m : Int32} (k : Nat) (hm : m.toBitVec.toNat = 2 ^ k - 1) : x &&& m = nI (x.toBitVec.toNat % 2 ^ k) := by
  apply Int32.toBitVec_inj.mp
  apply BitVec.eq_of_toNat_eq
  rw [Int32.toBitVec_and, BitVec.toNat_and, hm, Nat.and_two_pow_sub_one_eq_mod]
  show _ = (BitVec.ofNat 32 _).toNat
  rw [BitVec.toNat_ofNat]
  exact (Nat.mod_eq_of_lt (Nat.lt_of_le_of_lt (Nat.mod_le _ _) x.toBitVec.isLt)).symm
theorem pk_andN {n : Nat} (h : n < 2 ^ 32) {m : Int32} (k : Nat) (hm : m.toBitVec.toNat = 2 ^ k - 1) : nI n &&& m = nI (n % 2 ^ k) := by
  rw [pk_and _ k hm, pk_tn h]
theorem pk_shl (a s : Int32) (k : Nat) (hs : (s.toBitVec.smod 32).toNat = k) : (a <<< s).toBitVec.toNat = a.toBitVec.toNat * 2 ^ k % 2 ^ 32 := by
  show (a.toBitVec <<< (s.toBitVec.smod 32).toNat).toNat = _
  rw [hs, BitVec.toNat_shiftLeft, Nat.shiftLeft_eq]
theorem pk_shlN {n : Nat} (s : Int32) (k : Nat) (hs : (s.toBitVec.smod 32).toNat = k) (h : n * 2 ^ k < 2 ^ 32) : nI n <<< s = nI (n * 2 ^ k) := by
  apply Int32.toBitVec_inj.mp
  apply BitVec.eq_of_toNat_eq
  have hn : n < 2 ^ 32 := Nat.lt_of_le_of_lt (Nat.le_mul_of_pos_right n (Nat.two_pow_pos k)) h
  rw [pk_shl _ _ k hs, pk_tn hn, pk_tn h, Nat.mod_eq_of_lt h]
theorem pk_shr (a s : Int32) (k : Nat) (hs : (s.toBitVec.smod 32).toNat = k) : (a >>> s).toInt = a.toInt >>> k := by
  show (a.toBitVec.sshiftRight (s.toBitVec.smod 32).toNat).toInt = _
  rw [hs, BitVec.toInt_sshiftRight]
  rfl
theorem pk_shrN {n : Nat} (h : n < 2 ^ 31) (s : Int32) (k : Nat) (hs : (s.toBitVec.smod 32).toNat = k) : nI n >>> s = nI (n / 2 ^ k) := by
  apply Int32.toInt_inj.mp
  have h2 : n / 2 ^ k ≤ n := Nat.div_le_self _ _
  rw [pk_shr _ _ k hs, nI_toInt h, nI_toInt (by omega), Int.shiftRight_eq_div_pow]
  rfl
theorem s_l : ∀ n, n < 32 → ((nI n &&& 31).toBitVec.smod 32).toNat = n := by decide +kernel
theorem nx_and (a b : Nat) : nI a &&& nI b = nI (a &&& b) := by
  apply Int32.toBitVec_inj.1
  show BitVec.ofNat 32 a &&& BitVec.ofNat 32 b = BitVec.ofNat 32 (a &&& b)
  apply BitVec.eq_of_getLsbD_eq
  intro i hi
  simp [hi]
end
section
/-- the code c carried on over the letters of l: 4 times the code so far plus the next letter -/
def rc_cf (c : Nat) (l : List Nat) : Nat := l.foldl (fun b a => 4 * b + a) c
def rc_cd (l : List Nat) : Nat := rc_cf 1 l
def rc_W (l : List Nat) : Prop := ∀ a, a ∈ l → a < 4
theorem rc_cf_cons (c a : Nat) (l : List Nat) : rc_cf c (a :: l) = rc_cf (4 * c + a) l := rfl
theorem rc_cd_nil : rc_cd [] = 1 := rfl
theorem rc_cd_snoc (l : List Nat) (a : Nat) : rc_cd (l ++ [a]) = 4 * rc_cd l + a := by
  unfold rc_cd rc_cf
  rw [List.foldl_append]
  rfl
theorem rc_W_nil : rc_W [] := fun a h => nomatch h
theorem rc_W_one {a : Nat} (h : a < 4) : rc_W [a] := fun b hb => by
  rw [List.mem_singleton] at hb
  omega
theorem rc_W_app {l m : List Nat} (h : rc_W l) (k : rc_W m) : rc_W (l ++ m) := fun a ha => by
  rcases List.mem_append.mp ha with z | z
  · exact h a z
  · exact k a z
theorem rc_W_take {l : List Nat} (n : Nat) (h : rc_W l) : rc_W (l.take n) := fun a ha => h a (List.mem_of_mem_take ha)
theorem rc_W_tail {a : Nat} {l : List Nat} (h : rc_W (a :: l)) : rc_W l := fun b hb => h b (List.mem_cons_of_mem _ hb)
theorem rc_W_head {a : Nat} {l : List Nat} (h : rc_W (a :: l)) : a < 4 := h a List.mem_cons_self
theorem rc_cf_div (l : List Nat) : ∀ c, rc_W l → rc_cf c l / 4 ^ l.length = c := by
  induction l with
  | nil => intro c _; show c / 4 ^ 0 = c; rw [Nat.pow_zero, Nat.div_one]
  | cons a t ih =>
    intro c h
    have ha := rc_W_head h
    rw [rc_cf_cons, List.length_cons, Nat.pow_succ, ← Nat.div_div_eq_div_mul, ih _ (rc_W_tail h)]
    omega
theorem rc_cf_get (l : List Nat) : ∀ c i, rc_W l → i < l.length → rc_cf c l / 4 ^ (l.length - 1 - i) % 4 = l.getD i 4 := by
  induction l with
  | nil => intro c i _ h; exact absurd h (Nat.not_lt_zero _)
  | cons a t ih =>
    intro c i h hi
    have ha := rc_W_head h
    have ht := rc_W_tail h
    rw [List.length_cons] at hi
    cases i with
    | zero =>
      rw [rc_cf_cons, List.length_cons, show t.length + 1 - 1 - 0 = t.length from by omega, rc_cf_div t _ ht]
      show (4 * c + a) % 4 = a
      omega
    | succ i =>
      rw [rc_cf_cons, List.length_cons, show t.length + 1 - 1 - (i + 1) = t.length - 1 - i from by omega]
      exact ih (4 * c + a) i ht (by omega)
theorem rc_cd_div {l : List Nat} (h : rc_W l) : rc_cd l / 4 ^ l.length = 1 := rc_cf_div l 1 h
theorem rc_cd_get {l : List Nat} (h : rc_W l) {i : Nat} (hi : i < l.length) : rc_cd l / 4 ^ (l.length - 1 - i) % 4 = l.getD i 4 := rc_cf_get l 1 i h hi
theorem rc_cd_bd {l : List Nat} (h : rc_W l) : 4 ^ l.length ≤ rc_cd l ∧ rc_cd l < 2 * 4 ^ l.length := by
  have h1 := rc_cd_div h
  have h2 := Nat.div_add_mod (rc_cd l) (4 ^ l.length)
  have h3 := Nat.mod_lt (rc_cd l) (show 0 < 4 ^ l.length from Nat.pow_pos (by decide))
  rw [h1] at h2
  omega
theorem rc_p4 {a b : Nat} (h : a ≤ b) : 4 ^ a ≤ 4 ^ b := Nat.pow_le_pow_right (by decide) h
theorem rc_412 : 4 ^ 12 = 16777216 := by decide
theorem rc_411 : 4 ^ 11 = 4194304 := by decide
theorem rc_cd_lt {l : List Nat} (h : rc_W l) (hl : l.length ≤ 12) : rc_cd l < 33554432 := by
  have h1 := (rc_cd_bd h).2
  have h2 := rc_p4 hl
  rw [rc_412] at h2
  omega
theorem rc_cd_small {l : List Nat} (h : rc_W l) (hl : l.length < 12) : rc_cd l < 16777216 := by
  have h1 := (rc_cd_bd h).2
  have h2 := rc_p4 (show l.length ≤ 11 by omega)
  rw [rc_411] at h2
  omega
theorem rc_cd_full {l : List Nat} (h : rc_W l) (hl : 12 ≤ l.length) : 16777216 ≤ rc_cd l := by
  have h1 := (rc_cd_bd h).1
  have h2 := rc_p4 hl
  rw [rc_412] at h2
  omega
theorem rc_cd_div1 {l : List Nat} (h : rc_W l) {j : Nat} (hj : j < l.length) : ¬ rc_cd l / 4 ^ j = 1 := by
  intro z
  have h1 := (rc_cd_bd h).1
  have h2 := rc_p4 (show j + 1 ≤ l.length by omega)
  have h3 := Nat.div_add_mod (rc_cd l) (4 ^ j)
  have h4 := Nat.mod_lt (rc_cd l) (show 0 < 4 ^ j from Nat.pow_pos (by decide))
  rw [Nat.pow_succ] at h2
  rw [z] at h3
  omega
theorem rc_getD_lt {l : List Nat} (h : rc_W l) {i : Nat} (hi : i < l.length) : l.getD i 4 < 4 := by
  rw [List.getD_eq_getElem?_getD, List.getElem?_eq_getElem hi]
  exact h _ (List.getElem_mem hi)
theorem rc_getD_le {l : List Nat} (h : rc_W l) (i : Nat) : l.getD i 4 ≤ 4 := by
  by_cases hi : i < l.length
  · exact Nat.le_of_lt (rc_getD_lt h hi)
  · rw [List.getD_eq_getElem?_getD, List.getElem?_eq_none (by omega)]
    exact Nat.le_refl 4
theorem rc_getD_out {l : List Nat} {i : Nat} (hi : l.length ≤ i) : l.getD i 4 = 4 := by
  rw [List.getD_eq_getElem?_getD, List.getElem?_eq_none (by omega)]
  rfl
theorem rc_app_lt {l : List Nat} (a : Nat) (hl : l.length < 12) : (l ++ [a]).take 12 = l ++ [a] ∧ l.take 12 = l := by
  refine ⟨List.take_of_length_le ?_, List.take_of_length_le (by omega)⟩
  rw [List.length_append, List.length_singleton]
  omega
theorem rc_app_ge {l : List Nat} (a : Nat) (hl : 12 ≤ l.length) : (l ++ [a]).take 12 = l.take 12 := List.take_append_of_le_length hl
abbrev rc_Ru : Type := Nat × Nat × Nat × Nat
def rc_ft (s b h : Nat) : Bool := decide (s / 2 ^ b % 2 = 1) && decide (s / 2 ^ (5 + h) % 2 = 1)
def rc_bf (l : List Nat) (i : Nat) : Nat := if i = 0 then 4 else l.getD (i - 1) 4
def rc_e1 (r : rc_Ru) (l : List Nat) (i : Nat) : List Nat := if r.1 = 2 ∧ rc_ft r.2.2.2 (rc_bf l i) (l.getD i 4) = true then [r.2.2.1] else []
def rc_e2 (r : rc_Ru) (l : List Nat) (i : Nat) : List Nat := if i < l.length then (if r.1 ≠ 2 ∧ l.getD i 4 = r.2.1 ∧ rc_ft r.2.2.2 (rc_bf l i) (l.getD (i + 1) 4) = true then (if r.1 = 0 then [r.2.2.1] else []) else [l.getD i 4]) else []
def rc_es (r : rc_Ru) (l : List Nat) : Nat → List Nat
  | 0 => []
  | i + 1 => rc_es r l i ++ rc_e1 r l i ++ rc_e2 r l i
def rc_st (r : rc_Ru) (l : List Nat) : List Nat := (rc_es r l (l.length + 1)).take 12
def rc_ca (R : Nat → rc_Ru) : Nat → Nat → List Nat → List Nat
  | _, 0, l => l
  | a, n + 1, l => rc_ca R (a + 1) n (rc_st (R a) l)
theorem rc_bf_le {l : List Nat} (h : rc_W l) (i : Nat) : rc_bf l i ≤ 4 := by
  unfold rc_bf
  split
  · exact Nat.le_refl 4
  · exact rc_getD_le h _
theorem rc_e1_W {r : rc_Ru} (hy : r.1 ≠ 1 → r.2.2.1 < 4) (l : List Nat) (i : Nat) : rc_W (rc_e1 r l i) := by
  unfold rc_e1
  split
  · rename_i z
    exact rc_W_one (hy (by omega))
  · exact rc_W_nil
theorem rc_e2_W {r : rc_Ru} (hy : r.1 ≠ 1 → r.2.2.1 < 4) {l : List Nat} (h : rc_W l) (i : Nat) : rc_W (rc_e2 r l i) := by
  unfold rc_e2
  split
  · rename_i hi
    split
    · split
      · exact rc_W_one (hy (by omega))
      · exact rc_W_nil
    · exact rc_W_one (rc_getD_lt h hi)
  · exact rc_W_nil
theorem rc_e1_len (r : rc_Ru) (l : List Nat) (i : Nat) : (rc_e1 r l i).length ≤ 1 := by
  unfold rc_e1
  split
  · exact Nat.le_refl 1
  · exact Nat.zero_le 1
theorem rc_e2_len (r : rc_Ru) (l : List Nat) (i : Nat) : (rc_e2 r l i).length ≤ 1 := by
  unfold rc_e2
  split
  · split
    · split
      · exact Nat.le_refl 1
      · exact Nat.zero_le 1
    · exact Nat.le_refl 1
  · exact Nat.zero_le 1
theorem rc_es_W {r : rc_Ru} (hy : r.1 ≠ 1 → r.2.2.1 < 4) {l : List Nat} (h : rc_W l) : ∀ i, rc_W (rc_es r l i)
  | 0 => rc_W_nil
  | i + 1 => rc_W_app (rc_W_app (rc_es_W hy h i) (rc_e1_W hy l i)) (rc_e2_W hy h i)
theorem rc_es_len (r : rc_Ru) (l : List Nat) : ∀ i, (rc_es r l i).length ≤ 2 * i
  | 0 => Nat.le_refl 0
  | i + 1 => by
    have h := rc_es_len r l i
    have h1 := rc_e1_len r l i
    have h2 := rc_e2_len r l i
    rw [rc_es, List.length_append, List.length_append]
    omega
theorem rc_st_W {r : rc_Ru} (hy : r.1 ≠ 1 → r.2.2.1 < 4) {l : List Nat} (h : rc_W l) : rc_W (rc_st r l) := rc_W_take 12 (rc_es_W hy h _)
theorem rc_st_len (r : rc_Ru) (l : List Nat) : (rc_st r l).length ≤ 12 := List.length_take_le 12 _
/-- kinds 0 and 1 put nothing behind the last letter -/
theorem rc_st_01 {r : rc_Ru} (h : r.1 ≠ 2) (l : List Nat) : rc_st r l = (rc_es r l l.length).take 12 := by
  have e1 : rc_e1 r l l.length = [] := if_neg (fun z => h z.1)
  have e2 : rc_e2 r l l.length = [] := if_neg (Nat.lt_irrefl _)
  rw [rc_st, rc_es, e1, e2, List.append_nil, List.append_nil]
theorem rc_ca_W {R : Nat → rc_Ru} : ∀ (n a : Nat) {l : List Nat}, (∀ r, a ≤ r → r < a + n → (R r).1 ≠ 1 → (R r).2.2.1 < 4) → rc_W l → rc_W (rc_ca R a n l)
  | 0, _, _, _, h => h
  | n + 1, a, _, hy, h => rc_ca_W n (a + 1) (fun r h1 h2 => hy r (by omega) (by omega)) (rc_st_W (hy a (Nat.le_refl a) (by omega)) h)
theorem rc_ca_len {R : Nat → rc_Ru} : ∀ (n a : Nat) {l : List Nat}, l.length ≤ 12 → (rc_ca R a n l).length ≤ 12
  | 0, _, _, h => h
  | n + 1, a, l, _ => rc_ca_len n (a + 1) (rc_st_len (R a) l)
theorem rc_ca_add {R : Nat → rc_Ru} : ∀ (m n a : Nat) (l : List Nat), rc_ca R a (m + n) l = rc_ca R (a + m) n (rc_ca R a m l)
  | 0, n, a, l => by rw [Nat.zero_add]; rfl
  | m + 1, n, a, l => by
    rw [show m + 1 + n = (m + n) + 1 from by omega]
    show rc_ca R (a + 1) (m + n) (rc_st (R a) l) = rc_ca R (a + (m + 1)) n (rc_ca R (a + 1) m (rc_st (R a) l))
    rw [rc_ca_add m n (a + 1), show a + 1 + m = a + (m + 1) from by omega]
theorem rc_ca_congr {R Q : Nat → rc_Ru} : ∀ (n a : Nat) (l : List Nat), (∀ r, a ≤ r → r < a + n → R r = Q r) → rc_ca R a n l = rc_ca Q a n l
  | 0, _, _, _ => rfl
  | n + 1, a, l, h => by
    show rc_ca R (a + 1) n (rc_st (R a) l) = rc_ca Q (a + 1) n (rc_st (Q a) l)
    rw [h a (Nat.le_refl a) (by omega), rc_ca_congr n (a + 1) _ (fun r h1 h2 => h r (by omega) (by omega))]
/-- the word of n letters whose code is w -/
def rc_dl : Nat → Nat → List Nat
  | 0, _ => []
  | n + 1, w => rc_dl n (w / 4) ++ [w % 4]
theorem rc_dl_len : ∀ n w, (rc_dl n w).length = n
  | 0, _ => rfl
  | n + 1, w => by rw [rc_dl, List.length_append, rc_dl_len n, List.length_singleton]
theorem rc_dl_W : ∀ n w, rc_W (rc_dl n w)
  | 0, _ => rc_W_nil
  | n + 1, w => rc_W_app (rc_dl_W n (w / 4)) (rc_W_one (Nat.mod_lt _ (by decide)))
theorem rc_dl_cd : ∀ n w, 4 ^ n ≤ w → w < 2 * 4 ^ n → rc_cd (rc_dl n w) = w
  | 0, w, h1, h2 => by
    rw [Nat.pow_zero] at h1 h2
    show 1 = w
    omega
  | n + 1, w, h1, h2 => by
    rw [Nat.pow_succ] at h1 h2
    rw [rc_dl, rc_cd_snoc, rc_dl_cd n (w / 4) (by omega) (by omega)]
    omega
/-- the code of what the first c rules make of the word of n letters with code w -/
def rc_re (R : Nat → rc_Ru) (c n w : Nat) : Nat := rc_cd (rc_ca R 0 c (rc_dl n w))
/-- one rule in four cells -/
def rc_A (r : rc_Ru) (kd x y s : Int32) : Prop := kd = nI r.1 ∧ r.1 ≤ 2 ∧ (r.1 ≠ 2 → x = nI r.2.1 ∧ r.2.1 < 4) ∧ (r.1 ≠ 1 → y = nI r.2.2.1 ∧ r.2.2.1 < 4) ∧ s = nI r.2.2.2 ∧ r.2.2.2 < 1024
/-- the first c rules in four arrays -/
def rc_B (c : Nat) (R : Nat → rc_Ru) (ks xs ys ss : Nat → Int32) : Prop := ∀ r, r < c → rc_A (R r) (ks r) (xs r) (ys r) (ss r)
theorem rc_B_y {c : Nat} {R : Nat → rc_Ru} {ks xs ys ss : Nat → Int32} (h : rc_B c R ks xs ys ss) {r : Nat} (hr : r < c) : (R r).1 ≠ 1 → (R r).2.2.1 < 4 := fun z => ((h r hr).2.2.2.1 z).2
end
section
theorem rx_sh {n k : Nat} (hn : n < 2 ^ 31) (hk : k < 32) : nI n >>> (nI k &&& 31) = nI (n / 2 ^ k) := pk_shrN hn _ k (s_l k hk)
theorem rx_2 (j : Nat) : (2 : Int32) * nI j = nI (2 * j) := pk_mul 2 j
theorem rx_and3 {n : Nat} (h : n < 2 ^ 32) : nI n &&& 3 = nI (n % 4) := pk_andN h 2 (by decide)
theorem rx_and1 {n : Nat} (h : n < 2 ^ 32) : nI n &&& 1 = nI (n % 2) := pk_andN h 1 (by decide)
theorem rx_dv {a b : Nat} (k : Nat) (h : a < b) : a / k < b := Nat.lt_of_le_of_lt (Nat.div_le_self _ _) h
theorem rx_44 (n : Nat) : 2 ^ (2 * n) = 4 ^ n := by rw [Nat.pow_mul]
theorem rx_len_loop {post : Int32 → Prop} {l : List Nat} (hW : rc_W l) (hl : l.length ≤ 12) (h : post (nI l.length)) : ∀ d j, j + d = l.length → wX_lengthOf_2 post (nI (rc_cd l)) (d + 1) (nI j) := by
  have hc := rc_cd_lt hW hl
  intro d
  induction d with
  | zero =>
    intro j hj
    obtain rfl : j = l.length := by omega
    refine pk_le 12 l.length (fun _ => h) (fun hlt => ?_)
    have e : nI (rc_cd l) >>> ((2 * nI l.length) &&& 31) = 1 := by
      rw [rx_2, rx_sh (by omega) (by omega), rx_44, rc_cd_div hW]
      rfl
    exact br_t e h
  | succ d ih =>
    intro j hj
    refine pk_le 12 j (fun z => absurd z (by omega)) (fun hlt => ?_)
    have e : ¬ nI (rc_cd l) >>> ((2 * nI j) &&& 31) = 1 := by
      rw [rx_2, rx_sh (by omega) (by omega), rx_44]
      intro z
      exact rc_cd_div1 hW (by omega) ((nI_eq (b := 1) (rx_dv _ (by omega)) (by decide)).mp z)
    exact br_f e (nm_r (nI_1 j) (ih (j + 1) (by omega)))
theorem rx_len {post : Int32 → Prop} {l : List Nat} (hW : rc_W l) (hl : l.length ≤ 12) (h : post (nI l.length)) : wpX_lengthOf post (nI (rc_cd l)) := ⟨l.length + 1, rx_len_loop hW hl h l.length 0 (by omega)⟩
theorem rx_le {post : Int32 → Prop} {l : List Nat} (hW : rc_W l) (hl : l.length ≤ 12) {i : Nat} (hi : i < 2 ^ 30) (h : post (nI (l.getD i 4))) : wpX_letterOrEdge post (nI (rc_cd l)) (nI l.length) (nI i) := by
  have hc := rc_cd_lt hW hl
  refine br_f (nI_pos (by omega)) (pk_lt i l.length (fun z => ?_) (fun z => ?_))
  · have e : (nI (rc_cd l) >>> ((2 * ((nI l.length - 1) - nI i)) &&& 31)) &&& 3 = nI (l.getD i 4) := by
      rw [show nI l.length - 1 = nI (l.length - 1) from pk_sub (b := 1) (by omega), pk_sub (by omega), rx_2, rx_sh (by omega) (by omega), rx_44, rx_and3 (rx_dv _ (by omega))]
      exact congrArg nI (rc_cd_get hW z)
    rw [e]
    exact h
  · rw [rc_getD_out z] at h
    exact h
theorem rc_bf_s (l : List Nat) (i : Nat) : rc_bf l (i + 1) = l.getD i 4 := if_neg (Nat.succ_ne_zero i)
theorem rx_lb {post : Int32 → Prop} {l : List Nat} (hW : rc_W l) (hl : l.length ≤ 12) {i : Nat} (hi : i < 2 ^ 30) (h : post (nI (rc_bf l i))) : wpX_letterOrEdge post (nI (rc_cd l)) (nI l.length) (nI i - 1) := by
  cases i with
  | zero => exact br_t (by decide) h
  | succ i =>
    rw [nI_pred]
    rw [rc_bf_s] at h
    exact rx_le hW hl (by omega) h
theorem rx_app {post : Int32 → Prop} {w : List Nat} (hW : rc_W w) {a : Nat} (ha : a < 4) (h : post (nI (rc_cd ((w ++ [a]).take 12)))) : wpX_append post (nI (rc_cd (w.take 12))) (nI a) := by
  by_cases hl : w.length < 12
  · obtain ⟨e1, e2⟩ := rc_app_lt a hl
    rw [e1, rc_cd_snoc] at h
    rw [e2]
    have hs := rc_cd_small hW hl
    refine br_t (nI_lt (b := 16777216) hs (by decide)) ?_
    have e : (4 : Int32) * nI (rc_cd w) + nI a = nI (4 * rc_cd w + a) := by
      rw [show (4 : Int32) * nI (rc_cd w) = nI (4 * rc_cd w) from pk_mul 4 _, nI_add]
    rw [e]
    exact h
  · rw [rc_app_ge a (by omega)] at h
    have hf := rc_cd_full (rc_W_take 12 hW) (by rw [List.length_take]; omega)
    have hc := rc_cd_lt (rc_W_take 12 hW) (List.length_take_le 12 w)
    exact br_f (nI_nlt (b := 16777216) hf (by omega)) h
theorem rx_and2 (a b : Nat) : (a &&& b) % 2 = 1 ↔ (a % 2 = 1 ∧ b % 2 = 1) := by
  have h := Nat.testBit_and a b 0
  rw [Nat.testBit_zero, Nat.testBit_zero, Nat.testBit_zero] at h
  by_cases h1 : a % 2 = 1
  · by_cases h2 : b % 2 = 1
    · by_cases h3 : (a &&& b) % 2 = 1
      · simp [h1, h2, h3]
      · simp [h1, h2, h3] at h
    · by_cases h3 : (a &&& b) % 2 = 1
      · simp [h1, h2, h3] at h
      · simp [h1, h2, h3]
  · by_cases h3 : (a &&& b) % 2 = 1
    · simp [h1, h3] at h
    · simp [h1, h3]
theorem rc_ft_iff (s b h : Nat) : rc_ft s b h = true ↔ (s / 2 ^ b % 2 = 1 ∧ s / 2 ^ (5 + h) % 2 = 1) := by
  unfold rc_ft
  rw [Bool.and_eq_true, decide_eq_true_iff, decide_eq_true_iff]
theorem rx_fits {post : Int32 → Prop} {c wd : Int32} {ks xs ys ss fo : Nat → Int32} {r s b h : Nat} (hr : r < 5) (es : ss r = nI s) (hs : s < 1024) (hb : b ≤ 4) (hh : h ≤ 4) (hp : post (if rc_ft s b h = true then 1 else 0)) : wpX_fits post (c, wd, ks, xs, ys, ss, fo) (nI r) (nI b) (nI h) := by
  have e : (nI r).toNatClampNeg = r := nI_clamp (by omega)
  have hi : vp_in (nI r) 5 := vp_in_nI hr (by decide)
  refine ⟨hi, nm_r (e' := nI (s / 2 ^ b)) ?_ ⟨hi, nm_r (e' := nI (s / 2 ^ (5 + h))) ?_ ?_⟩⟩
  · rw [e, es, rx_sh (by omega) (by omega)]
  · rw [e, es, show (5 : Int32) + nI h = nI (5 + h) from nI_add 5 h, rx_sh (by omega) (by omega)]
  · have hlt : (s / 2 ^ b &&& s / 2 ^ (5 + h)) < 1024 := Nat.lt_of_le_of_lt Nat.and_le_left (rx_dv _ hs)
    have z : (nI (s / 2 ^ b) &&& nI (s / 2 ^ (5 + h))) &&& 1 = nI ((s / 2 ^ b &&& s / 2 ^ (5 + h)) % 2) := by
      rw [nx_and, rx_and1 (by omega)]
    by_cases hz : rc_ft s b h = true
    · rw [if_pos hz] at hp
      refine br_t ?_ hp
      rw [z, (rx_and2 _ _).mpr ((rc_ft_iff s b h).mp hz)]
      rfl
    · rw [if_neg hz] at hp
      refine br_f ?_ hp
      rw [z]
      intro q
      exact hz ((rc_ft_iff s b h).mpr ((rx_and2 _ _).mp ((nI_eq (b := 1) (by omega) (by decide)).mp q)))
theorem rx_ins_tail {post : Int32 → Prop} {J : Int32 → Int32 → Prop} {x1 x2 x3 c wd : Int32} {ks xs ys ss fo : Nat → Int32} {w l : List Nat} {i : Nat} {q : rc_Ru} (h2 : q.1 = 2) (hw : rc_W w) (hW : rc_W l) (h : J (nI (rc_cd ((w ++ rc_e2 q l i).take 12))) (nI (i + 1))) : wX_insert_62 post J x1 x2 x3 (nI (rc_cd (w.take 12))) (nI i) (nI (l.getD i 4)) c wd ks xs ys ss fo := by
  by_cases hi : i < l.length
  · have e : rc_e2 q l i = [l.getD i 4] := by rw [rc_e2, if_pos hi, if_neg (fun z => z.1 h2)]
    rw [e] at h
    have hlt := rc_getD_lt hW hi
    exact br_f (fun z => by have := (nI_eq (b := 4) (by omega) (by decide)).mp z; omega) (rx_app hw hlt (nm_r (nI_1 i) h))
  · have e : rc_e2 q l i = [] := if_neg hi
    rw [e, List.append_nil] at h
    rw [rc_getD_out (by omega)]
    exact br_t rfl (nm_r (nI_1 i) h)
theorem rx_ins_loop {post : Int32 → Prop} {c wd : Int32} {ks xs ys ss fo : Nat → Int32} {r : Nat} {q : rc_Ru} (hr : r < 5) (hA : rc_A q (ks r) (xs r) (ys r) (ss r)) (h2 : q.1 = 2) {l : List Nat} (hW : rc_W l) (hl : l.length ≤ 12) (h : post (nI (rc_cd (rc_st q l)))) : ∀ d i, i + d = l.length + 1 → wX_insert_11 post (nI r) (nI (rc_cd l)) (nI l.length) c wd ks xs ys ss fo (d + 1) (nI (rc_cd ((rc_es q l i).take 12))) (nI i) := by
  obtain ⟨hk, _, _, hy, hs, hs'⟩ := hA
  have hy4 : q.1 ≠ 1 → q.2.2.1 < 4 := fun z => (hy z).2
  obtain ⟨hy1, hy2⟩ := hy (by omega)
  intro d
  induction d with
  | zero =>
    intro i hi
    obtain rfl : i = l.length + 1 := by omega
    exact pk_lt l.length (l.length + 1) (fun _ => h) (fun z => absurd z (by omega))
  | succ d ih =>
    intro i hi
    have ih' := ih (i + 1) (by omega)
    have hE := rc_es_W hy4 hW i
    refine pk_lt l.length i (fun z => absurd z (by omega)) (fun _ => ?_)
    refine rx_lb hW hl (by omega) (rx_le hW hl (by omega) (rx_fits hr hs hs' (rc_bf_le hW i) (rc_getD_le hW i) ?_))
    by_cases hf : rc_ft q.2.2.2 (rc_bf l i) (l.getD i 4) = true
    · have e1 : rc_e1 q l i = [q.2.2.1] := if_pos ⟨h2, hf⟩
      rw [rc_es, e1] at ih'
      rw [if_pos hf]
      refine br_f (by decide) ⟨vp_in_nI hr (by decide), ?_⟩
      rw [nI_clamp (by omega), hy1]
      exact rx_app hE hy2 (rx_ins_tail h2 (rc_W_app hE (rc_W_one hy2)) hW ih')
    · have e1 : rc_e1 q l i = [] := if_neg (fun z => hf z.2)
      rw [rc_es, e1, List.append_nil] at ih'
      rw [if_neg hf]
      exact br_t rfl (rx_ins_tail h2 hE hW ih')
theorem rx_ins {post : Int32 → Prop} {c wd : Int32} {ks xs ys ss fo : Nat → Int32} {r : Nat} {q : rc_Ru} (hr : r < 5) (hA : rc_A q (ks r) (xs r) (ys r) (ss r)) (h2 : q.1 = 2) {l : List Nat} (hW : rc_W l) (hl : l.length ≤ 12) (h : post (nI (rc_cd (rc_st q l)))) : wpX_insert post (c, wd, ks, xs, ys, ss, fo) (nI r) (nI (rc_cd l)) := by
  unfold wpX_insert
  exact rx_len hW hl ⟨l.length + 2, rx_ins_loop hr hA h2 hW hl h (l.length + 1) 0 (by omega)⟩
theorem rx_cod_loop {post : Int32 → Prop} {c wd : Int32} {ks xs ys ss fo : Nat → Int32} {r : Nat} {q : rc_Ru} (hr : r < 5) (hA : rc_A q (ks r) (xs r) (ys r) (ss r)) (h2 : q.1 ≠ 2) {l : List Nat} (hW : rc_W l) (hl : l.length ≤ 12) (h : post (nI (rc_cd (rc_st q l)))) : ∀ d i, i + d = l.length → wX_changeOrDelete_11 post (nI r) (nI (rc_cd l)) (nI l.length) c wd ks xs ys ss fo (d + 1) (nI (rc_cd ((rc_es q l i).take 12))) (nI i) := by
  rw [rc_st_01 h2] at h
  obtain ⟨hk, hk2, hx, hy, hs, hs'⟩ := hA
  have hy4 : q.1 ≠ 1 → q.2.2.1 < 4 := fun z => (hy z).2
  obtain ⟨hx1, hx2⟩ := hx h2
  intro d
  induction d with
  | zero =>
    intro i hi
    obtain rfl : i = l.length := by omega
    exact pk_le l.length l.length (fun _ => h) (fun z => absurd z (by omega))
  | succ d ih =>
    intro i hi
    have hi' : i < l.length := by omega
    have ih' := ih (i + 1) (by omega)
    have hE := rc_es_W hy4 hW i
    have hg := rc_getD_lt hW hi'
    have hv : vp_in (nI r) 5 := vp_in_nI hr (by decide)
    have hcl : (nI r).toNatClampNeg = r := nI_clamp (by omega)
    have e1 : rc_e1 q l i = [] := if_neg (fun z => h2 z.1)
    rw [rc_es, e1, List.append_nil] at ih'
    refine pk_le l.length i (fun z => absurd z (by omega)) (fun _ => ?_)
    refine rx_lb hW hl (by omega) (rx_le hW hl (by omega) ?_)
    rw [nI_1 i]
    refine rx_le hW hl (by omega) ⟨hv, ?_⟩
    rw [hcl, hx1]
    refine pk_eq (l.getD i 4) q.2.1 (fun hx => ?_) (fun hx => ?_)
    · refine rx_fits hr hs hs' (rc_bf_le hW i) (rc_getD_le hW (i + 1)) ?_
      by_cases hf : rc_ft q.2.2.2 (rc_bf l i) (l.getD (i + 1) 4) = true
      · rw [if_pos hf]
        refine br_f (by decide) ⟨hv, ?_⟩
        rw [hk]
        refine pk_eq q.1 0 (fun h0 => ?_) (fun h0 => ?_)
        · obtain ⟨hy1, hy2⟩ := hy (by omega)
          have e2 : rc_e2 q l i = [q.2.2.1] := by rw [rc_e2, if_pos hi', if_pos ⟨h2, hx, hf⟩, if_pos h0]
          rw [e2] at ih'
          refine ⟨hv, ?_⟩
          rw [hy1]
          exact rx_app hE hy2 (nm_e ih')
        · have e2 : rc_e2 q l i = [] := by rw [rc_e2, if_pos hi', if_pos ⟨h2, hx, hf⟩, if_neg h0]
          rw [e2, List.append_nil] at ih'
          exact nm_e ih'
      · rw [if_neg hf]
        have e2 : rc_e2 q l i = [l.getD i 4] := by rw [rc_e2, if_pos hi', if_neg (fun z => hf z.2.2)]
        rw [e2] at ih'
        exact br_t rfl (rx_app hE hg (nm_r (nI_1 i) ih'))
    · have e2 : rc_e2 q l i = [l.getD i 4] := by rw [rc_e2, if_pos hi', if_neg (fun z => hx z.2.1)]
      rw [e2] at ih'
      exact rx_app hE hg (nm_r (nI_1 i) ih')
theorem rx_cod {post : Int32 → Prop} {c wd : Int32} {ks xs ys ss fo : Nat → Int32} {r : Nat} {q : rc_Ru} (hr : r < 5) (hA : rc_A q (ks r) (xs r) (ys r) (ss r)) (h2 : q.1 ≠ 2) {l : List Nat} (hW : rc_W l) (hl : l.length ≤ 12) (h : post (nI (rc_cd (rc_st q l)))) : wpX_changeOrDelete post (c, wd, ks, xs, ys, ss, fo) (nI r) (nI (rc_cd l)) := by
  unfold wpX_changeOrDelete
  exact rx_len hW hl ⟨l.length + 1, rx_cod_loop hr hA h2 hW hl h l.length 0 (by omega)⟩
theorem rx_cas_loop {post : Int32 → Prop} {c wd : Int32} {ks xs ys ss fo : Nat → Int32} {R : Nat → rc_Ru} {m b : Nat} (hm : m ≤ 5) (hB : rc_B m R ks xs ys ss) (hb : b ≤ m) : ∀ n a l, a + n = b → rc_W l → l.length ≤ 12 → post (nI (rc_cd (rc_ca R a n l))) → wX_cascade_6 post (nI b) c wd ks xs ys ss fo (n + 1) (nI (rc_cd l)) (nI a) := by
  intro n
  induction n with
  | zero =>
    intro a l ha hW hl h
    exact pk_le b a (fun _ => h) (fun z => absurd z (by omega))
  | succ n ih =>
    intro a l ha hW hl h
    have hA := hB a (by omega)
    have hcl : (nI a).toNatClampNeg = a := nI_clamp (by omega)
    have nx := ih (a + 1) (rc_st (R a) l) (by omega) (rc_st_W (rc_B_y hB (by omega)) hW) (rc_st_len _ _) h
    have hk := hA.1
    have hk2 := hA.2.1
    refine pk_le b a (fun z => absurd z (by omega)) (fun _ => ⟨vp_in_nI (by omega) (by decide), ?_⟩)
    rw [hcl, hk]
    refine pk_eq (R a).1 2 (fun h2 => ?_) (fun h2 => ?_)
    · exact rx_ins (by omega) hA h2 hW hl (nm_r (nI_1 a) nx)
    · exact rx_cod (by omega) hA h2 hW hl (nm_r (nI_1 a) nx)
theorem rx_cas {post : Int32 → Prop} {c wd : Int32} {ks xs ys ss fo : Nat → Int32} {R : Nat → rc_Ru} {m : Nat} (hm : m ≤ 5) (hB : rc_B m R ks xs ys ss) (a n : Nat) (hb : a + n ≤ m) {l : List Nat} (hW : rc_W l) (hl : l.length ≤ 12) (h : post (nI (rc_cd (rc_ca R a n l)))) : wpX_cascade post (c, wd, ks, xs, ys, ss, fo) (nI (rc_cd l)) (nI a) (nI (a + n)) := by
  unfold wpX_cascade
  exact ⟨n + 1, rx_cas_loop hm hB hb n a l rfl hW hl h⟩
end
section
section
variable {c ln sz mo : Int32} {ks xs ys ss wd ro ma rs : Nat → Int32}
/-- the first i cells hold the first i letters of t -/
def rc_P (t : List Nat) (i : Nat) (a : Nat → Int32) : Prop := ∀ j, j < i → a j = nI (t.getD j 4)
def rc_H (t : List Nat) (a : Nat → Int32) : Prop := rc_P t t.length a
theorem rc_P_0 (t : List Nat) (a : Nat → Int32) : rc_P t 0 a := fun j h => absurd h (Nat.not_lt_zero j)
theorem rc_P_s {t : List Nat} {i : Nat} {a : Nat → Int32} (h : rc_P t i a) : rc_P t (i + 1) (upd a i (nI (t.getD i 4))) := fun j hj => by
  by_cases e : j = i
  · subst e
    exact pk_us
  · rw [pk_un e]
    exact h j (by omega)
theorem rc_H_put {t : List Nat} {a : Nat → Int32} (h : rc_H t a) (x : Nat) : rc_H (t ++ [x]) (upd a t.length (nI x)) := fun j hj => by
  rw [List.length_append, List.length_singleton] at hj
  by_cases e : j = t.length
  · subst e
    rw [pk_us, List.getD_eq_getElem?_getD, List.getElem?_concat_length]
    rfl
  · rw [pk_un e, h j (by omega), List.getD_eq_getElem?_getD, List.getD_eq_getElem?_getD, List.getElem?_append_left (by omega)]
theorem rc_H_take {t : List Nat} {a : Nat → Int32} (n : Nat) (h : rc_H t a) : rc_H (t.take n) a := fun j hj => by
  rw [List.length_take] at hj
  rw [h j (by omega), List.getD_eq_getElem?_getD, List.getD_eq_getElem?_getD, List.getElem?_take_of_lt (by omega)]
theorem ry_put {post : SY → Prop} {m : Nat} (hm : m < 26) {x : Int32} (h : post (c, ln, sz, nI (m + 1), ks, xs, ys, ss, wd, ro, upd ma m x, rs)) : wpY_put post (c, ln, sz, nI m, ks, xs, ys, ss, wd, ro, ma, rs) x :=
  ⟨vp_in_nI hm (by decide), nm_r (e' := upd ma m x) (by rw [nI_clamp (by omega)]) (nm_r (nI_1 m) h)⟩
theorem ry_at {post : Int32 → Prop} {l : List Nat} (hl : l.length ≤ 12) (hH : rc_H l ro) {i : Nat} (hi : i < 2 ^ 30) (h : post (nI (l.getD i 4))) : wpY_at post (c, ln, nI l.length, mo, ks, xs, ys, ss, wd, ro, ma, rs) (nI i) := by
  refine br_f (nI_pos (by omega)) (pk_lt i l.length (fun z => ⟨vp_in_nI (by omega) (by decide), ?_⟩) (fun z => ?_))
  · rw [nI_clamp (by omega), hH i z]
    exact h
  · rw [rc_getD_out z] at h
    exact h
theorem ry_ab {post : Int32 → Prop} {l : List Nat} (hl : l.length ≤ 12) (hH : rc_H l ro) {i : Nat} (hi : i < 2 ^ 30) (h : post (nI (rc_bf l i))) : wpY_at post (c, ln, nI l.length, mo, ks, xs, ys, ss, wd, ro, ma, rs) (nI i - 1) := by
  cases i with
  | zero => exact br_t (by decide) h
  | succ i =>
    rw [nI_pred]
    rw [rc_bf_s] at h
    exact ry_at hl hH (by omega) h
theorem ry_md (s : Nat) : ∀ b, b ≤ 4 → s % 32 / 2 ^ b % 2 = s / 2 ^ b % 2 := by
  intro b hb
  rcases (show b = 0 ∨ b = 1 ∨ b = 2 ∨ b = 3 ∨ b = 4 by omega) with e | e | e | e | e <;> subst e
  · show s % 32 / 1 % 2 = s / 1 % 2
    omega
  · show s % 32 / 2 % 2 = s / 2 % 2
    omega
  · show s % 32 / 4 % 2 = s / 4 % 2
    omega
  · show s % 32 / 8 % 2 = s / 8 % 2
    omega
  · show s % 32 / 16 % 2 = s / 16 % 2
    omega
theorem ry_fits {post : Int32 → Prop} {r s b h : Nat} (hr : r < 5) (es : ss r = nI s) (hs : s < 1024) (hb : b ≤ 4) (hh : h ≤ 4) (hp : post (if rc_ft s b h = true then 1 else 0)) : wpY_fits post (c, ln, sz, mo, ks, xs, ys, ss, wd, ro, ma, rs) (nI r) (nI b) (nI h) := by
  have e : (nI r).toNatClampNeg = r := nI_clamp (by omega)
  have hi : vp_in (nI r) 5 := vp_in_nI hr (by decide)
  have e32 : ¬ (32 : Int32) = 0 := by decide
  have hmd : s % 32 < 2 ^ 31 := by omega
  refine ⟨hi, e32, nm_r (e' := nI (s % 32)) ?_ ⟨hi, e32, nm_r (e' := nI (s / 32)) ?_ ?_⟩⟩
  · rw [e, es]
    exact pk_rem (d := 32) (by omega) (by decide) (by decide)
  · rw [e, es]
    exact pk_div (d := 32) (by omega) (by decide) (by decide)
  · have z1 : (nI (s % 32) >>> (nI b &&& 31)) &&& 1 = nI (s / 2 ^ b % 2) := by
      rw [rx_sh hmd (by omega), rx_and1 (rx_dv _ (by omega)), ry_md s b hb]
    have z2 : (nI (s / 32) >>> (nI h &&& 31)) &&& 1 = nI (s / 2 ^ (5 + h) % 2) := by
      rw [rx_sh (by omega) (by omega), rx_and1 (rx_dv _ (by omega)), Nat.div_div_eq_div_mul, show 32 * 2 ^ h = 2 ^ (5 + h) from by rw [Nat.pow_add]]
    rw [z1, z2]
    refine pk_eq (s / 2 ^ b % 2) 1 (fun h1 => pk_eq (s / 2 ^ (5 + h) % 2) 1 (fun h2 => ?_) (fun h2 => ?_)) (fun h1 => ?_)
    · rw [if_pos ((rc_ft_iff s b h).mpr ⟨h1, h2⟩)] at hp
      exact hp
    · rw [if_neg (fun q => h2 ((rc_ft_iff s b h).mp q).2)] at hp
      exact hp
    · rw [if_neg (fun q => h1 ((rc_ft_iff s b h).mp q).1)] at hp
      exact hp
theorem ry_copy {post : SY → Prop} {t : List Nat} (ht : t.length ≤ 12) (hm : rc_H t ma) (hp : ∀ ro', rc_H t ro' → post (c, ln, nI t.length, mo, ks, xs, ys, ss, wd, ro', ma, rs)) : ∀ d i ro, i + d = t.length → rc_P t i ro → wY_work_181 post c ln (nI t.length) mo (d + 1) (nI i) ks xs ys ss wd ro ma rs := by
  intro d
  induction d with
  | zero =>
    intro i ro hi hP
    obtain rfl : i = t.length := by omega
    exact pk_le t.length t.length (fun _ => hp ro hP) (fun z => absurd z (by omega))
  | succ d ih =>
    intro i ro hi hP
    have hv : vp_in (nI i) 26 := vp_in_nI (by omega) (by decide)
    refine pk_le t.length i (fun z => absurd z (by omega)) (fun _ => ⟨hv, hv, nm_r (e' := upd ro i (nI (t.getD i 4))) ?_ (nm_r (nI_1 i) (ih (i + 1) _ (by omega) (rc_P_s hP)))⟩)
    rw [nI_clamp (by omega), hm i (by omega)]
abbrev ry_J : Type := Int32 → Int32 → Int32 → Int32 → Int32 → (Nat → Int32) → (Nat → Int32) → (Nat → Int32) → (Nat → Int32) → (Nat → Int32) → (Nat → Int32) → (Nat → Int32) → (Nat → Int32) → Prop
theorem ry_114 {post : SY → Prop} {J : ry_J} {x1 a : Int32} {i m : Nat} (hm : m < 26) (h : J (nI (i + 1)) c ln sz (nI (m + 1)) ks xs ys ss wd ro (upd ma m a) rs) : wY_work_114 post J x1 (nI i) a c ln sz (nI m) ks xs ys ss wd ro ma rs := by
  unfold wY_work_114 wY_work_115
  refine br_t rfl ?_
  unfold wY_work_141
  exact br_t rfl (ry_put hm (nm_r (nI_1 i) h))
theorem ry_70 {post : SY → Prop} {J : ry_J} {r i : Nat} {q : rc_Ru} (hr : r < 5) (hA : rc_A q (ks r) (xs r) (ys r) (ss r)) {l w : List Nat} (hW : rc_W l) (hl : l.length ≤ 12) (hi : i ≤ l.length) (hw : w.length < 26) (hH : rc_H w ma) (hJ : ∀ ma', rc_H (w ++ rc_e2 q l i) ma' → J (nI (i + 1)) c ln (nI l.length) (nI (w ++ rc_e2 q l i).length) ks xs ys ss wd ro ma' rs) : wY_work_70 post J (nI r) (nI i) (nI (l.getD i 4)) (nI (rc_bf l i)) (nI (l.getD (i + 1) 4)) c ln (nI l.length) (nI w.length) ks xs ys ss wd ro ma rs := by
  obtain ⟨hk, hk2, hx, hy, hs, hs'⟩ := hA
  have hv : vp_in (nI r) 5 := vp_in_nI hr (by decide)
  have hcl : (nI r).toNatClampNeg = r := nI_clamp (by omega)
  have one : ∀ a, rc_e2 q l i = [a] → J (nI (i + 1)) c ln (nI l.length) (nI (w.length + 1)) ks xs ys ss wd ro (upd ma w.length (nI a)) rs := by
    intro a e
    have h := hJ (upd ma w.length (nI a)) (by rw [e]; exact rc_H_put hH a)
    rw [e, List.length_append, List.length_singleton] at h
    exact h
  have non : rc_e2 q l i = [] → J (nI (i + 1)) c ln (nI l.length) (nI w.length) ks xs ys ss wd ro ma rs := by
    intro e
    have h := hJ ma (by rw [e, List.append_nil]; exact hH)
    rw [e, List.append_nil] at h
    exact h
  unfold wY_work_70
  refine pk_le l.length i (fun z => nm_r (nI_1 i) (non (if_neg (by omega)))) (fun hi' => ⟨hv, ?_⟩)
  have hg := rc_getD_lt hW hi'
  rw [hcl, hk]
  refine pk_le 2 q.1 (fun h2 => ?_) (fun h2 => ⟨hv, ?_⟩)
  · exact ry_114 hw (one _ (by rw [rc_e2, if_pos hi', if_neg (fun z => z.1 (by omega))]))
  · have h2' : q.1 ≠ 2 := by omega
    obtain ⟨hx1, hx2⟩ := hx h2'
    rw [hx1]
    refine pk_eq (l.getD i 4) q.2.1 (fun hx => ?_) (fun hx => ?_)
    · refine ry_fits hr hs hs' (rc_bf_le hW i) (rc_getD_le hW (i + 1)) ?_
      by_cases hf : rc_ft q.2.2.2 (rc_bf l i) (l.getD (i + 1) 4) = true
      · rw [if_pos hf]
        refine br_f (by decide) ?_
        unfold wY_work_115
        refine br_f (by decide) ⟨hv, ?_⟩
        rw [hcl, hk]
        refine pk_eq q.1 0 (fun h0 => ?_) (fun h0 => ?_)
        · obtain ⟨hy1, hy2⟩ := hy (by omega)
          refine ⟨hv, ?_⟩
          rw [hy1]
          refine ry_put hw ?_
          exact br_f (by decide) (nm_r (nI_1 i) (one _ (by rw [rc_e2, if_pos hi', if_pos ⟨h2', hx, hf⟩, if_pos h0])))
        · exact br_f (by decide) (nm_r (nI_1 i) (non (by rw [rc_e2, if_pos hi', if_pos ⟨h2', hx, hf⟩, if_neg h0])))
      · rw [if_neg hf]
        exact br_t rfl (ry_114 hw (one _ (by rw [rc_e2, if_pos hi', if_neg (fun z => hf z.2.2)])))
    · exact ry_114 hw (one _ (by rw [rc_e2, if_pos hi', if_neg (fun z => hx z.2.1)]))
theorem ry_work_loop {post : SY → Prop} {r : Nat} {q : rc_Ru} (hr : r < 5) (hA : rc_A q (ks r) (xs r) (ys r) (ss r)) {l : List Nat} (hW : rc_W l) (hl : l.length ≤ 12) (hR : rc_H l ro) (hp : ∀ mo' ro' ma', rc_H (rc_st q l) ro' → post (c, ln, nI (rc_st q l).length, mo', ks, xs, ys, ss, wd, ro', ma', rs)) : ∀ d i ma, i + d = l.length + 1 → rc_H (rc_es q l i) ma → wY_work_7 post (nI r) (d + 1) (nI i) c ln (nI l.length) (nI (rc_es q l i).length) ks xs ys ss wd ro ma rs := by
  intro d
  induction d with
  | zero =>
    intro i ma hi hH
    obtain rfl : i = l.length + 1 := by omega
    have hL := rc_es_len q l (l.length + 1)
    have hT : rc_H (rc_st q l) ma := rc_H_take 12 hH
    have hc := ry_copy (c := c) (ln := ln) (mo := nI (rc_es q l (l.length + 1)).length) (ks := ks) (xs := xs) (ys := ys) (ss := ss) (wd := wd) (rs := rs) (rc_st_len q l) hT (fun ro' h => hp _ ro' ma h) (rc_st q l).length 0 ro (by omega) (rc_P_0 _ _)
    have hln : (rc_st q l).length = min 12 (rc_es q l (l.length + 1)).length := List.length_take
    refine pk_lt l.length (l.length + 1) (fun _ => pk_le (rc_es q l (l.length + 1)).length 12 (fun z => ?_) (fun z => ?_)) (fun z => absurd z (by omega))
    · rw [show (rc_st q l).length = (rc_es q l (l.length + 1)).length from by omega] at hc
      exact ⟨_, hc⟩
    · rw [show (rc_st q l).length = 12 from by omega] at hc
      exact ⟨_, hc⟩
  | succ d ih =>
    intro i ma hi hH
    have hA' := hA
    obtain ⟨hk, hk2, hx, hy, hs, hs'⟩ := hA'
    have hv : vp_in (nI r) 5 := vp_in_nI hr (by decide)
    have hcl : (nI r).toNatClampNeg = r := nI_clamp (by omega)
    have hL := rc_es_len q l i
    refine pk_lt l.length i (fun z => absurd z (by omega)) (fun hi' => ?_)
    refine ry_at hl hR (by omega) (ry_ab hl hR (by omega) ?_)
    rw [nI_1 i]
    refine ry_at hl hR (by omega) ⟨hv, ?_⟩
    rw [hcl, hk]
    have go : ∀ w ma', w = rc_es q l i ++ rc_e1 q l i → w.length < 26 → rc_H w ma' → wY_work_70 post (wY_work_7 post (nI r) (d + 1)) (nI r) (nI i) (nI (l.getD i 4)) (nI (rc_bf l i)) (nI (l.getD (i + 1) 4)) c ln (nI l.length) (nI w.length) ks xs ys ss wd ro ma' rs := by
      intro w ma' e hw h
      refine ry_70 hr hA hW hl hi' hw h (fun ma'' h'' => ?_)
      subst e
      exact ih (i + 1) ma'' (by omega) h''
    have e0 : (rc_e1 q l i = []) → wY_work_70 post (wY_work_7 post (nI r) (d + 1)) (nI r) (nI i) (nI (l.getD i 4)) (nI (rc_bf l i)) (nI (l.getD (i + 1) 4)) c ln (nI l.length) (nI (rc_es q l i).length) ks xs ys ss wd ro ma rs := fun e => go _ ma (by rw [e, List.append_nil]) (by omega) hH
    refine pk_eq q.1 2 (fun h2 => ?_) (fun h2 => e0 (if_neg (fun z => h2 z.1)))
    refine ry_fits hr hs hs' (rc_bf_le hW i) (rc_getD_le hW i) ?_
    by_cases hf : rc_ft q.2.2.2 (rc_bf l i) (l.getD i 4) = true
    · rw [if_pos hf]
      refine br_f (by decide) ⟨hv, ?_⟩
      obtain ⟨hy1, hy2⟩ := hy (by omega)
      rw [hy1]
      refine ry_put (by omega) ?_
      have g := go (rc_es q l i ++ [q.2.2.1]) (upd ma (rc_es q l i).length (nI q.2.2.1)) (by rw [show rc_e1 q l i = [q.2.2.1] from if_pos ⟨h2, hf⟩]) (by rw [List.length_append, List.length_singleton]; omega) (rc_H_put hH _)
      rw [List.length_append, List.length_singleton] at g
      exact g
    · rw [if_neg hf]
      exact br_t rfl (e0 (if_neg (fun z => hf z.2)))
theorem ry_work {post : SY → Prop} {r : Nat} {q : rc_Ru} (hr : r < 5) (hA : rc_A q (ks r) (xs r) (ys r) (ss r)) {l : List Nat} (hW : rc_W l) (hl : l.length ≤ 12) (hR : rc_H l ro) (hp : ∀ mo' ro' ma', rc_H (rc_st q l) ro' → post (c, ln, nI (rc_st q l).length, mo', ks, xs, ys, ss, wd, ro', ma', rs)) : wpY_work post (c, ln, nI l.length, mo, ks, xs, ys, ss, wd, ro, ma, rs) (nI r) :=
  ⟨l.length + 2, ry_work_loop hr hA hW hl hR hp (l.length + 1) 0 ma (by omega) (rc_P_0 _ _)⟩
end
end
section
section
variable {c ln sz mo : Int32} {ks xs ys ss wd ro ma rs : Nat → Int32}
theorem rc_drop {l : List Nat} {i : Nat} (h : i < l.length) : l.drop i = l.getD i 4 :: l.drop (i + 1) := by
  rw [List.drop_eq_getElem_cons h, List.getD_eq_getElem?_getD, List.getElem?_eq_getElem h]
  rfl
theorem ry_cor_loop {post : Int32 → Prop} {l : List Nat} (hl : l.length ≤ 12) (hR : rc_H l ro) : ∀ d i m, i + d = l.length → post (nI (rc_cf m (l.drop i))) → wY_codeOfRow_4 post c ln (nI l.length) mo ks xs ys ss wd ro ma rs (d + 1) (nI m) (nI i) := by
  intro d
  induction d with
  | zero =>
    intro i m hi h
    rw [show i = l.length from by omega, List.drop_length] at h
    exact pk_le l.length i (fun _ => h) (fun z => absurd z (by omega))
  | succ d ih =>
    intro i m hi h
    rw [rc_drop (by omega), rc_cf_cons] at h
    refine pk_le l.length i (fun z => absurd z (by omega)) (fun _ => ⟨vp_in_nI (by omega) (by decide), nm_r (e' := nI (4 * m + l.getD i 4)) ?_ (nm_r (nI_1 i) (ih (i + 1) _ (by omega) h))⟩)
    rw [nI_clamp (by omega), hR i (by omega), show (4 : Int32) * nI m = nI (4 * m) from pk_mul 4 m, nI_add]
theorem ry_cor {post : Int32 → Prop} {l : List Nat} (hl : l.length ≤ 12) (hR : rc_H l ro) (h : post (nI (rc_cd l))) : wpY_codeOfRow post (c, ln, nI l.length, mo, ks, xs, ys, ss, wd, ro, ma, rs) :=
  ⟨l.length + 1, ry_cor_loop hl hR l.length 0 1 (by omega) h⟩
theorem ry_m1 (i : Nat) : nI i + (-1) = nI i - 1 := (Int32.sub_eq_add_neg (nI i) 1).symm
theorem rc_dl_get {n w i : Nat} (h1 : 4 ^ n ≤ w) (h2 : w < 2 * 4 ^ n) (hi : i < n) : (rc_dl n w).getD i 4 = w / 4 ^ (n - 1 - i) % 4 := by
  have h := rc_cd_get (rc_dl_W n w) (i := i) (by rw [rc_dl_len]; exact hi)
  rw [rc_dl_cd n w h1 h2, rc_dl_len] at h
  exact h.symm
theorem ry_spr2 {post : SY → Prop} {n w : Nat} (hn : n ≤ 12) (h1 : 4 ^ n ≤ w) (h2 : w < 2 * 4 ^ n) (hw : w < 2 ^ 31) (hp : ∀ ro', rc_H (rc_dl n w) ro' → post (c, ln, nI n, mo, ks, xs, ys, ss, wd, ro', ma, rs)) : ∀ i ro, i ≤ n → (∀ j, i ≤ j → j < n → ro j = nI ((rc_dl n w).getD j 4)) → wY_spread_38 post c ln (nI n) mo (i + 1) (nI (w / 4 ^ (n - i))) (nI i - 1) ks xs ys ss wd ro ma rs := by
  intro i
  induction i with
  | zero =>
    intro ro hi hR
    exact br_t (by decide) (hp ro (fun j hj => hR j (Nat.zero_le j) (by rw [rc_dl_len] at hj; exact hj)))
  | succ i ih =>
    intro ro hi hR
    have e4 : ¬ (4 : Int32) = 0 := by decide
    have hlt : w / 4 ^ (n - (i + 1)) < 2 ^ 31 := rx_dv _ hw
    have ed : w / 4 ^ (n - (i + 1)) / 4 = w / 4 ^ (n - i) := by
      rw [Nat.div_div_eq_div_mul, ← Nat.pow_succ, show (n - (i + 1)).succ = n - i from by omega]
    have eg : w / 4 ^ (n - (i + 1)) % 4 = (rc_dl n w).getD i 4 := by
      rw [rc_dl_get h1 h2 (by omega), show n - 1 - i = n - (i + 1) from by omega]
    rw [nI_pred]
    refine br_f (nI_pos (by omega)) ⟨e4, vp_in_nI (by omega) (by decide), nm_r (e' := upd ro i (nI ((rc_dl n w).getD i 4))) ?_ ⟨e4, nm_r (e' := nI (w / 4 ^ (n - i))) ?_ (nm_r (ry_m1 i) (ih _ (by omega) (fun j h3 h4 => ?_)))⟩⟩
    · rw [nI_clamp (by omega), ← eg]
      exact congrArg _ (pk_rem (d := 4) hlt (by decide) (by decide))
    · rw [← ed]
      exact pk_div (d := 4) hlt (by decide) (by decide)
    · by_cases e : j = i
      · subst e
        exact pk_us
      · rw [pk_un e]
        exact hR j (by omega) h4
theorem ry_spr1 {post : SY → Prop} {x1 : Int32} {t : Nat} (h : ∃ m, wY_spread_38 post c ln (nI t) mo m x1 (nI t - 1) ks xs ys ss wd ro ma rs) : ∀ n k w, k + n = t → 4 ^ n ≤ w → w < 2 * 4 ^ n → w < 2 ^ 31 → wY_spread_7 post x1 c ln mo ks xs ys ss wd ro ma rs (n + 1) (nI w) (nI k) := by
  intro n
  induction n with
  | zero =>
    intro k w hk h1 h2 hw
    obtain rfl : k = t := by omega
    rw [Nat.pow_zero] at h1 h2
    exact pk_le w 1 (fun _ => nm_e h) (fun z => absurd z (by omega))
  | succ n ih =>
    intro k w hk h1 h2 hw
    have h0 : 0 < 4 ^ n := Nat.pow_pos (by decide)
    rw [Nat.pow_succ] at h1 h2
    exact pk_le w 1 (fun z => absurd z (by omega)) (fun _ => nm_r (nI_1 k) ⟨by decide, nm_r (pk_div (d := 4) hw (by decide) (by decide)) (ih (k + 1) (w / 4) (by omega) (by omega) (by omega) (by omega))⟩)
theorem rc_w_lt {n w : Nat} (hn : n ≤ 12) (h2 : w < 2 * 4 ^ n) : w < 2 ^ 31 := by
  have h := rc_p4 hn
  rw [rc_412] at h
  omega
theorem ry_spr {post : SY → Prop} {n w : Nat} (hn : n ≤ 12) (h1 : 4 ^ n ≤ w) (h2 : w < 2 * 4 ^ n) (hp : ∀ ro', rc_H (rc_dl n w) ro' → post (c, ln, nI n, mo, ks, xs, ys, ss, wd, ro', ma, rs)) : wpY_spread post (c, ln, sz, mo, ks, xs, ys, ss, wd, ro, ma, rs) (nI w) := by
  have hw := rc_w_lt hn h2
  have h := ry_spr2 hn h1 h2 hw hp n ro (Nat.le_refl n) (fun j h3 h4 => absurd h3 (by omega))
  rw [Nat.sub_self, Nat.pow_zero, Nat.div_one] at h
  exact ⟨n + 1, ry_spr1 ⟨_, h⟩ n 0 w (by omega) h1 h2 hw⟩
theorem ry_take_loop {post : SY → Prop} {t : List Nat} (ht : t.length ≤ 12) (hm : rc_H t wd) (hp : ∀ ro', rc_H t ro' → post (c, nI t.length, sz, mo, ks, xs, ys, ss, wd, ro', ma, rs)) : ∀ d i ro, i + d = t.length → rc_P t i ro → wY_take_10 post c (nI t.length) sz mo (d + 1) (nI i) ks xs ys ss wd ro ma rs := by
  intro d
  induction d with
  | zero =>
    intro i ro hi hP
    obtain rfl : i = t.length := by omega
    exact pk_le t.length t.length (fun _ => hp ro hP) (fun z => absurd z (by omega))
  | succ d ih =>
    intro i ro hi hP
    refine pk_le t.length i (fun z => absurd z (by omega)) (fun _ => ⟨vp_in_nI (by omega) (by decide), vp_in_nI (by omega) (by decide), nm_r (e' := upd ro i (nI (t.getD i 4))) ?_ (nm_r (nI_1 i) (ih (i + 1) _ (by omega) (rc_P_s hP)))⟩)
    rw [nI_clamp (by omega), hm i (by omega)]
theorem ry_take {post : SY → Prop} {t : List Nat} (ht : t.length ≤ 12) (hm : rc_H t wd) (hp : ∀ ro', rc_H t ro' → post (c, nI t.length, nI t.length, mo, ks, xs, ys, ss, wd, ro', ma, rs)) : wpY_take post (c, nI t.length, sz, mo, ks, xs, ys, ss, wd, ro, ma, rs) :=
  ⟨t.length + 1, ry_take_loop ht hm hp t.length 0 ro (by omega) (rc_P_0 _ _)⟩
theorem ry_all_loop {post : SY → Prop} {R : Nat → rc_Ru} {m b : Nat} (hm : m ≤ 5) (hB : rc_B m R ks xs ys ss) (hb : b ≤ m) : ∀ n a l mo ro ma, a + n = b → rc_W l → l.length ≤ 12 → rc_H l ro → (∀ mo' ro' ma', rc_H (rc_ca R a n l) ro' → post (c, ln, nI (rc_ca R a n l).length, mo', ks, xs, ys, ss, wd, ro', ma', rs)) → wY_workAll_2 post (nI b) (n + 1) (nI a) c ln (nI l.length) mo ks xs ys ss wd ro ma rs := by
  intro n
  induction n with
  | zero =>
    intro a l mo ro ma ha hW hl hR hp
    exact pk_le b a (fun _ => hp mo ro ma hR) (fun z => absurd z (by omega))
  | succ n ih =>
    intro a l mo ro ma ha hW hl hR hp
    refine pk_le b a (fun z => absurd z (by omega)) (fun _ => ry_work (by omega) (hB a (by omega)) hW hl hR (fun mo' ro' ma' h => nm_r (nI_1 a) ?_))
    exact ih (a + 1) (rc_st (R a) l) mo' ro' ma' (by omega) (rc_st_W (rc_B_y hB (by omega)) hW) (rc_st_len _ _) h hp
theorem ry_all {post : SY → Prop} {R : Nat → rc_Ru} {m : Nat} (hm : m ≤ 5) (hB : rc_B m R ks xs ys ss) {b : Nat} (hb : b ≤ m) {l : List Nat} (hW : rc_W l) (hl : l.length ≤ 12) (hR : rc_H l ro) (hp : ∀ mo' ro' ma', rc_H (rc_ca R 0 b l) ro' → post (c, ln, nI (rc_ca R 0 b l).length, mo', ks, xs, ys, ss, wd, ro', ma', rs)) : wpY_workAll post (c, ln, nI l.length, mo, ks, xs, ys, ss, wd, ro, ma, rs) (nI b) :=
  ⟨b + 1, ry_all_loop hm hB hb b 0 l mo ro ma (by omega) hW hl hR hp⟩
theorem ry_res {post : Int32 → SY → Prop} {R : Nat → rc_Ru} {m : Nat} (hm : m ≤ 5) (hB : rc_B m R ks xs ys ss) {n w : Nat} (hn : n ≤ 12) (h1 : 4 ^ n ≤ w) (h2 : w < 2 * 4 ^ n) (hp : ∀ sz' mo' ro' ma', post (nI (rc_re R m n w)) (nI m, ln, sz', mo', ks, xs, ys, ss, wd, ro', ma', rs)) : wpY_resultOf post (nI m, ln, sz, mo, ks, xs, ys, ss, wd, ro, ma, rs) (nI w) := by
  unfold wpY_resultOf
  refine ry_spr hn h1 h2 (fun ro' h => ?_)
  rw [show nI n = nI (rc_dl n w).length from by rw [rc_dl_len]]
  refine ry_all hm hB (Nat.le_refl m) (rc_dl_W n w) (by rw [rc_dl_len]; exact hn) h (fun mo' ro' ma' h' => ?_)
  exact ry_cor (rc_ca_len m 0 (by rw [rc_dl_len]; exact hn)) h' (hp _ _ _ _)
theorem ry_cow {post : Int32 → SY → Prop} {t : List Nat} (ht : t.length ≤ 12) (hm : rc_H t wd) (hp : ∀ sz' ro', post (nI (rc_cd t)) (c, nI t.length, sz', mo, ks, xs, ys, ss, wd, ro', ma, rs)) : wpY_codeOfWord post (c, nI t.length, sz, mo, ks, xs, ys, ss, wd, ro, ma, rs) := by
  unfold wpY_codeOfWord
  exact ry_take ht hm (fun ro' h => ry_cor ht h (hp _ _))
theorem rx_re {post : Int32 → Prop} {c wd : Int32} {ks xs ys ss fo : Nat → Int32} {R : Nat → rc_Ru} {m : Nat} (hm : m ≤ 5) (hB : rc_B m R ks xs ys ss) {n w : Nat} (hn : n ≤ 12) (h1 : 4 ^ n ≤ w) (h2 : w < 2 * 4 ^ n) (h : post (nI (rc_re R m n w))) : wpX_cascade post (c, wd, ks, xs, ys, ss, fo) (nI w) 0 (nI m) := by
  have e := rx_cas (post := post) (c := c) (wd := wd) (fo := fo) hm hB 0 m (by omega) (rc_dl_W n w) (by rw [rc_dl_len]; exact hn) h
  rw [rc_dl_cd n w h1 h2, Nat.zero_add] at e
  exact e
end
end
section
theorem rc_cls (x : Int32) : x < 0 ∨ ∃ j : Nat, j < 2 ^ 31 ∧ x = nI j := by
  by_cases h : x < 0
  · exact Or.inl h
  · exact Or.inr (nI_of h)
theorem rc_ncl {x : Int32} {j : Nat} (h : x < 0) (e : x = nI j) (hj : j < 2 ^ 31) : False := by
  subst e
  exact nI_pos hj h
/-- both states: m rules R, the word t -/
def i_Rel (_ : Nat) (u : SX) (v : SY) : Prop := ∃ (m : Nat) (R : Nat → rc_Ru) (t : List Nat) (kx xx yx sx fo ky xy yy sy wy ro ma rs : Nat → Int32) (sz mo : Int32), u = (nI m, nI (rc_cd t), kx, xx, yx, sx, fo) ∧ v = (nI m, nI t.length, sz, mo, ky, xy, yy, sy, wy, ro, ma, rs) ∧ m ≤ 5 ∧ rc_B m R kx xx yx sx ∧ rc_B m R ky xy yy sy ∧ rc_W t ∧ t.length ≤ 12 ∧ rc_H t wy
theorem rc_mk {k m : Nat} {R : Nat → rc_Ru} {t : List Nat} {kx xx yx sx fo ky xy yy sy wy ro ma rs : Nat → Int32} {sz mo : Int32} (hm : m ≤ 5) (hX : rc_B m R kx xx yx sx) (hY : rc_B m R ky xy yy sy) (hW : rc_W t) (hl : t.length ≤ 12) (hH : rc_H t wy) : i_Rel k (nI m, nI (rc_cd t), kx, xx, yx, sx, fo) (nI m, nI t.length, sz, mo, ky, xy, yy, sy, wy, ro, ma, rs) :=
  ⟨m, R, t, kx, xx, yx, sx, fo, ky, xy, yy, sy, wy, ro, ma, rs, sz, mo, rfl, rfl, hm, hX, hY, hW, hl, hH⟩
theorem i_up {k : Nat} {u : SX} {v : SY} (h : i_Rel k u v) : i_Rel (k + 5) u v := h
theorem i_vc0 : wpX_init (fun u => wpY_init (fun v => i_Rel 0 u v)) := by
  unfold wpX_init wpY_init
  exact rc_mk (m := 0) (R := fun _ => (0, 0, 0, 0)) (t := []) (by decide) (fun r h => absurd h (Nat.not_lt_zero r)) (fun r h => absurd h (Nat.not_lt_zero r)) rc_W_nil (by decide) (rc_P_0 _ _)
section
variable {c ln sz mo : Int32} {ks xs ys ss wd ro ma rs : Nat → Int32}
theorem rx_isl_t {post : Int32 → Prop} {a : Nat} (ha : a < 4) (h : post 1) : wpX_isLetter post (nI a) :=
  br_f (nI_pos (by omega)) (pk_le 4 a (fun z => absurd z (by omega)) (fun _ => h))
theorem rx_isl_n {post : Int32 → Prop} {x : Int32} (hx : x < 0) (h : post 0) : wpX_isLetter post x := br_t hx h
theorem rx_isl_f {post : Int32 → Prop} {a : Nat} (ha : ¬ a < 4) (h4 : a < 2 ^ 31) (h : post 0) : wpX_isLetter post (nI a) :=
  br_f (nI_pos h4) (pk_le 4 a (fun _ => h) (fun z => absurd z (by omega)))
theorem ry_bad_t {post : Int32 → Prop} {a : Nat} (ha : a < 4) (h : post 0) : wpY_bad post (c, ln, sz, mo, ks, xs, ys, ss, wd, ro, ma, rs) (nI a) :=
  br_f (nI_pos (by omega)) (pk_le a 3 (fun _ => h) (fun z => absurd z (by omega)))
theorem ry_bad_n {post : Int32 → Prop} {x : Int32} (hx : x < 0) (h : post 1) : wpY_bad post (c, ln, sz, mo, ks, xs, ys, ss, wd, ro, ma, rs) x := br_t hx h
theorem ry_bad_f {post : Int32 → Prop} {a : Nat} (ha : ¬ a < 4) (h4 : a < 2 ^ 31) (h : post 1) : wpY_bad post (c, ln, sz, mo, ks, xs, ys, ss, wd, ro, ma, rs) (nI a) :=
  br_f (nI_pos h4) (pk_le a 3 (fun z => absurd z (by omega)) (fun _ => h))
theorem rc_A_k {q : rc_Ru} {kd : Nat} {v2 v3 v4 : Int32} (h : rc_A q (nI kd) v2 v3 v4) (hk : kd < 2 ^ 31) : kd = q.1 := (nI_eq hk (by have := h.2.1; omega)).mp h.1
/-- the four arguments make a rule, or none -/
theorem rc_A_of {kd s : Nat} {v2 v3 : Int32} (hk : kd ≤ 2) (hx : kd ≠ 2 → ∃ x, x < 4 ∧ v2 = nI x) (hy : kd ≠ 1 → ∃ y, y < 4 ∧ v3 = nI y) (hs : s < 1024) : ∃ q, rc_A q (nI kd) v2 v3 (nI s) := by
  have hx' : ∃ x, kd ≠ 2 → v2 = nI x ∧ x < 4 := by
    by_cases e : kd = 2
    · exact ⟨0, fun z => absurd e z⟩
    · obtain ⟨x, h1, h2⟩ := hx e
      exact ⟨x, fun _ => ⟨h2, h1⟩⟩
  have hy' : ∃ y, kd ≠ 1 → v3 = nI y ∧ y < 4 := by
    by_cases e : kd = 1
    · exact ⟨0, fun z => absurd e z⟩
    · obtain ⟨y, h1, h2⟩ := hy e
      exact ⟨y, fun _ => ⟨h2, h1⟩⟩
  obtain ⟨x, hx⟩ := hx'
  obtain ⟨y, hy⟩ := hy'
  exact ⟨(kd, x, y, s), rfl, hk, hx, hy, rfl, hs⟩
theorem rx_rule {wr : Int32} {fo : Nat → Int32} {post : Int32 → SX → Prop} {m : Nat} (hm : m ≤ 5) {v1 v2 v3 v4 : Int32} (hbad : (∀ q, ¬ rc_A q v1 v2 v3 v4) → post (-1) (nI m, wr, ks, xs, ys, ss, fo)) (hfull : ∀ q, rc_A q v1 v2 v3 v4 → m = 5 → post (-2) (nI m, wr, ks, xs, ys, ss, fo)) (hok : ∀ q, rc_A q v1 v2 v3 v4 → m < 5 → post (nI (m + 1)) (nI (m + 1), wr, upd ks m v1, upd xs m v2, upd ys m v3, upd ss m v4, fo)) : wpX_rule post (nI m, wr, ks, xs, ys, ss, fo) v1 v2 v3 v4 := by
  have hcl : (nI m).toNatClampNeg = m := nI_clamp (by omega)
  unfold wpX_rule
  rcases rc_cls v1 with h | ⟨kd, hkd, rfl⟩
  · exact br_t h (hbad (fun q hq => rc_ncl h hq.1 (by have := hq.2.1; omega)))
  refine br_f (nI_pos hkd) ?_
  have L39 : kd ≤ 2 → (kd ≠ 2 → ∃ x, x < 4 ∧ v2 = nI x) → (kd ≠ 1 → ∃ y, y < 4 ∧ v3 = nI y) → wX_rule_39 post (nI kd) v2 v3 v4 (nI m) wr ks xs ys ss fo := by
    intro hk hx hy
    rcases rc_cls v4 with h | ⟨s, hs, rfl⟩
    · exact br_t h (hbad (fun q hq => rc_ncl h hq.2.2.2.2.1 (by have := hq.2.2.2.2.2; omega)))
    refine br_f (nI_pos hs) (pk_lt s 1024 (fun hs' => ?_) (fun hs' => hbad (fun q hq => ?_)))
    · obtain ⟨q, hq⟩ := rc_A_of hk hx hy (show s < 1024 by omega)
      refine pk_lt m 5 (fun h5 => ?_) (fun h5 => hfull q hq (by omega))
      have hv : vp_in (nI m) 5 := vp_in_nI h5 (by decide)
      exact ⟨hv, nm_r (e' := upd ks m (nI kd)) (by rw [hcl]) ⟨hv, nm_r (e' := upd xs m v2) (by rw [hcl]) ⟨hv, nm_r (e' := upd ys m v3) (by rw [hcl]) ⟨hv, nm_r (e' := upd ss m (nI s)) (by rw [hcl]) (nm_r (nI_1 m) (hok q hq h5))⟩⟩⟩⟩
    · have h1 := hq.2.2.2.2.1
      have h2 := hq.2.2.2.2.2
      have h3 := (nI_eq hs (by omega)).mp h1
      omega
  have L25 : kd ≤ 2 → (kd ≠ 2 → ∃ x, x < 4 ∧ v2 = nI x) → wX_rule_25 post (nI kd) v2 v3 v4 (nI m) wr ks xs ys ss fo := by
    intro hk hx
    refine pk_eq kd 1 (fun e1 => L39 hk hx (fun z => absurd e1 z)) (fun e1 => ?_)
    have bad : ¬ (∃ y, y < 4 ∧ v3 = nI y) → post (-1) (nI m, wr, ks, xs, ys, ss, fo) := fun hn => hbad (fun q hq => hn ⟨q.2.2.1, (hq.2.2.2.1 (by have := rc_A_k hq hkd; omega)).2, (hq.2.2.2.1 (by have := rc_A_k hq hkd; omega)).1⟩)
    rcases rc_cls v3 with h | ⟨j, hj, e⟩
    · exact rx_isl_n h (br_t rfl (bad (fun ⟨j, h1, h2⟩ => rc_ncl h h2 (by omega))))
    · by_cases h4 : j < 4
      · subst e
        exact rx_isl_t h4 (br_f (by decide) (L39 hk hx (fun _ => ⟨j, h4, rfl⟩)))
      · subst e
        exact rx_isl_f h4 hj (br_t rfl (bad (fun ⟨i, h1, h2⟩ => h4 (by rw [(nI_eq hj (by omega)).mp h2]; exact h1))))
  refine pk_le kd 2 (fun hk => pk_eq kd 2 (fun e2 => L25 hk (fun z => absurd e2 z)) (fun e2 => ?_)) (fun hk => hbad (fun q hq => ?_))
  · have bad : ¬ (∃ y, y < 4 ∧ v2 = nI y) → post (-1) (nI m, wr, ks, xs, ys, ss, fo) := fun hn => hbad (fun q hq => hn ⟨q.2.1, (hq.2.2.1 (by have := rc_A_k hq hkd; omega)).2, (hq.2.2.1 (by have := rc_A_k hq hkd; omega)).1⟩)
    rcases rc_cls v2 with h | ⟨j, hj, e⟩
    · exact rx_isl_n h (br_t rfl (bad (fun ⟨j, h1, h2⟩ => rc_ncl h h2 (by omega))))
    · by_cases h4 : j < 4
      · subst e
        exact rx_isl_t h4 (br_f (by decide) (L25 hk (fun _ => ⟨j, h4, rfl⟩)))
      · subst e
        exact rx_isl_f h4 hj (br_t rfl (bad (fun ⟨i, h1, h2⟩ => h4 (by rw [(nI_eq hj (by omega)).mp h2]; exact h1))))
  · have h1 := rc_A_k hq hkd
    have h2 := hq.2.1
    omega
theorem ry_rule {post : Int32 → SY → Prop} {m : Nat} (hm : m ≤ 5) {v1 v2 v3 v4 : Int32} (hbad : (∀ q, ¬ rc_A q v1 v2 v3 v4) → post (-1) (nI m, ln, sz, mo, ks, xs, ys, ss, wd, ro, ma, rs)) (hfull : ∀ q, rc_A q v1 v2 v3 v4 → m = 5 → post (-2) (nI m, ln, sz, mo, ks, xs, ys, ss, wd, ro, ma, rs)) (hok : ∀ q, rc_A q v1 v2 v3 v4 → m < 5 → post (nI (m + 1)) (nI (m + 1), ln, sz, mo, upd ks m v1, upd xs m v2, upd ys m v3, upd ss m v4, wd, ro, ma, rs)) : wpY_rule post (nI m, ln, sz, mo, ks, xs, ys, ss, wd, ro, ma, rs) v1 v2 v3 v4 := by
  have hcl : (nI m).toNatClampNeg = m := nI_clamp (by omega)
  unfold wpY_rule
  rcases rc_cls v1 with h | ⟨kd, hkd, rfl⟩
  · exact br_t h (hbad (fun q hq => rc_ncl h hq.1 (by have := hq.2.1; omega)))
  refine br_f (nI_pos hkd) ?_
  have L39 : kd ≤ 2 → (kd ≠ 2 → ∃ x, x < 4 ∧ v2 = nI x) → (kd ≠ 1 → ∃ y, y < 4 ∧ v3 = nI y) → wY_rule_37 post (nI kd) v2 v3 v4 (nI m) ln sz mo ks xs ys ss wd ro ma rs := by
    intro hk hx hy
    rcases rc_cls v4 with h | ⟨s, hs, rfl⟩
    · exact br_t h (hbad (fun q hq => rc_ncl h hq.2.2.2.2.1 (by have := hq.2.2.2.2.2; omega)))
    refine br_f (nI_pos hs) (pk_le s 1023 (fun hs' => ?_) (fun hs' => hbad (fun q hq => ?_)))
    · obtain ⟨q, hq⟩ := rc_A_of hk hx hy (show s < 1024 by omega)
      refine pk_eq m 5 (fun h5 => hfull q hq h5) (fun h5 => ?_)
      have h5 : m < 5 := by omega
      have hv : vp_in (nI m) 5 := vp_in_nI h5 (by decide)
      exact ⟨hv, nm_r (e' := upd ks m (nI kd)) (by rw [hcl]) ⟨hv, nm_r (e' := upd xs m v2) (by rw [hcl]) ⟨hv, nm_r (e' := upd ys m v3) (by rw [hcl]) ⟨hv, nm_r (e' := upd ss m (nI s)) (by rw [hcl]) (nm_r (nI_1 m) (hok q hq h5))⟩⟩⟩⟩
    · have h1 := hq.2.2.2.2.1
      have h2 := hq.2.2.2.2.2
      have h3 := (nI_eq hs (by omega)).mp h1
      omega
  have L25 : kd ≤ 2 → (kd ≠ 2 → ∃ x, x < 4 ∧ v2 = nI x) → wY_rule_22 post (nI kd) v2 v3 v4 (nI m) ln sz mo ks xs ys ss wd ro ma rs := by
    intro hk hx
    refine pk_eq kd 1 (fun e1 => L39 hk hx (fun z => absurd e1 z)) (fun e1 => ?_)
    have bad : ¬ (∃ y, y < 4 ∧ v3 = nI y) → post (-1) (nI m, ln, sz, mo, ks, xs, ys, ss, wd, ro, ma, rs) := fun hn => hbad (fun q hq => hn ⟨q.2.2.1, (hq.2.2.2.1 (by have := rc_A_k hq hkd; omega)).2, (hq.2.2.2.1 (by have := rc_A_k hq hkd; omega)).1⟩)
    rcases rc_cls v3 with h | ⟨j, hj, e⟩
    · exact ry_bad_n h (br_f (by decide) (bad (fun ⟨j, h1, h2⟩ => rc_ncl h h2 (by omega))))
    · by_cases h4 : j < 4
      · subst e
        exact ry_bad_t h4 (br_t rfl (L39 hk hx (fun _ => ⟨j, h4, rfl⟩)))
      · subst e
        exact ry_bad_f h4 hj (br_f (by decide) (bad (fun ⟨i, h1, h2⟩ => h4 (by rw [(nI_eq hj (by omega)).mp h2]; exact h1))))
  refine pk_lt 2 kd (fun hk => hbad (fun q hq => ?_)) (fun hk => pk_le 2 kd (fun e2 => L25 hk (fun z => absurd (show kd = 2 by omega) z)) (fun e2 => ?_))
  · have h1 := rc_A_k hq hkd
    have h2 := hq.2.1
    omega
  · have bad : ¬ (∃ y, y < 4 ∧ v2 = nI y) → post (-1) (nI m, ln, sz, mo, ks, xs, ys, ss, wd, ro, ma, rs) := fun hn => hbad (fun q hq => hn ⟨q.2.1, (hq.2.2.1 (by have := rc_A_k hq hkd; omega)).2, (hq.2.2.1 (by have := rc_A_k hq hkd; omega)).1⟩)
    rcases rc_cls v2 with h | ⟨j, hj, e⟩
    · exact ry_bad_n h (br_f (by decide) (bad (fun ⟨j, h1, h2⟩ => rc_ncl h h2 (by omega))))
    · by_cases h4 : j < 4
      · subst e
        exact ry_bad_t h4 (br_t rfl (L25 hk (fun _ => ⟨j, h4, rfl⟩)))
      · subst e
        exact ry_bad_f h4 hj (br_f (by decide) (bad (fun ⟨i, h1, h2⟩ => h4 (by rw [(nI_eq hj (by omega)).mp h2]; exact h1))))
theorem rc_B_push {m : Nat} {R : Nat → rc_Ru} {q : rc_Ru} {v1 v2 v3 v4 : Int32} (h : rc_B m R ks xs ys ss) (hq : rc_A q v1 v2 v3 v4) : rc_B (m + 1) (fun r => if r = m then q else R r) (upd ks m v1) (upd xs m v2) (upd ys m v3) (upd ss m v4) := by
  intro r hr
  show rc_A (if r = m then q else R r) _ _ _ _
  by_cases e : r = m
  · subst e
    rw [pk_us, pk_us, pk_us, pk_us, if_pos rfl]
    exact hq
  · rw [pk_un e, pk_un e, pk_un e, pk_un e, if_neg e]
    exact h r (by omega)
theorem i_vc_rule {k : Nat} {u : SX} {v : SY} (I : i_Rel k u v) (hk : k + 5 ≤ 2560) (v1 : Int32) (v2 : Int32) (v3 : Int32) (v4 : Int32) : wpX_rule (fun r u' => wpY_rule (fun r' v' => r' = r ∧ i_Rel (k + 5) u' v') v v1 v2 v3 v4) u v1 v2 v3 v4 := by
  obtain ⟨m, R, t, kx, xx, yx, sx, fo, ky, xy, yy, sy, wy, ro, ma, rs, sz, mo, rfl, rfl, hm, hX, hY, hW, hl, hH⟩ := I
  refine rx_rule hm (fun hb => ?_) (fun q hq h5 => ?_) (fun q hq h5 => ?_)
  · exact ry_rule hm (fun _ => ⟨rfl, rc_mk hm hX hY hW hl hH⟩) (fun q hq => absurd hq (hb q)) (fun q hq => absurd hq (hb q))
  · exact ry_rule hm (fun hb => absurd hq (hb q)) (fun _ _ _ => ⟨rfl, rc_mk hm hX hY hW hl hH⟩) (fun _ _ z => absurd z (by omega))
  · exact ry_rule hm (fun hb => absurd hq (hb q)) (fun _ _ z => absurd z (by omega)) (fun _ _ _ => ⟨rfl, rc_mk h5 (rc_B_push hX hq) (rc_B_push hY hq) hW hl hH⟩)
end
end
section
section
variable {c ln sz mo wr : Int32} {ks xs ys ss wd ro ma rs fo : Nat → Int32}
/-- cells k to i - 1 moved down by one -/
def rc_sh (k i : Nat) (a : Nat → Int32) : Nat → Int32 := fun j => if k ≤ j ∧ j < i then a (j + 1) else a j
theorem rc_sh_0 (k : Nat) (a : Nat → Int32) : rc_sh k k a = a := by
  funext j
  exact if_neg (by omega)
theorem rc_sh_s {k i : Nat} (h : k ≤ i) (a : Nat → Int32) : upd (rc_sh k i a) i (rc_sh k i a (i + 1)) = rc_sh k (i + 1) a := by
  funext j
  by_cases e : j = i
  · subst e
    rw [pk_us, rc_sh, rc_sh, if_neg (by omega), if_pos (by omega)]
  · rw [pk_un e]
    show (if k ≤ j ∧ j < i then a (j + 1) else a j) = (if k ≤ j ∧ j < i + 1 then a (j + 1) else a j)
    by_cases z : k ≤ j ∧ j < i
    · rw [if_pos z, if_pos (by omega)]
    · rw [if_neg z, if_neg (by omega)]
def rc_dR (k : Nat) (R : Nat → rc_Ru) : Nat → rc_Ru := fun r => if r < k then R r else R (r + 1)
theorem rc_B_drop {m k e : Nat} {R : Nat → rc_Ru} (h : rc_B m R ks xs ys ss) (he : m - 1 ≤ e) : rc_B (m - 1) (rc_dR k R) (rc_sh k e ks) (rc_sh k e xs) (rc_sh k e ys) (rc_sh k e ss) := by
  intro r hr
  by_cases z : r < k
  · rw [rc_dR, if_pos z, rc_sh, rc_sh, rc_sh, rc_sh, if_neg (by omega), if_neg (by omega), if_neg (by omega), if_neg (by omega)]
    exact h r (by omega)
  · rw [rc_dR, if_neg z, rc_sh, rc_sh, rc_sh, rc_sh, if_pos (by omega), if_pos (by omega), if_pos (by omega), if_pos (by omega)]
    exact h (r + 1) (by omega)
theorem rx_rule_t {post : Int32 → Prop} {m k : Nat} (hm : m ≤ 5) (hk : k < m) (h : post 1) : wpX_isRule post (nI m, wr, ks, xs, ys, ss, fo) (nI k) :=
  br_f (nI_pos (by omega)) (pk_le m k (fun z => absurd z (by omega)) (fun _ => h))
theorem rx_rule_n {post : Int32 → Prop} {m : Nat} {x : Int32} (hx : x < 0) (h : post 0) : wpX_isRule post (nI m, wr, ks, xs, ys, ss, fo) x := br_t hx h
theorem rx_rule_f {post : Int32 → Prop} {m k : Nat} (hm : m ≤ 5) (hk : ¬ k < m) (h3 : k < 2 ^ 31) (h : post 0) : wpX_isRule post (nI m, wr, ks, xs, ys, ss, fo) (nI k) :=
  br_f (nI_pos h3) (pk_le m k (fun _ => h) (fun z => absurd z hk))
theorem rx_to_kinds_loop {post : SX → Prop} {k : Nat} (h : post (c, wr, rc_sh k 4 ks, xs, ys, ss, fo)) : ∀ d i, i + d = 4 → k ≤ i → wX_takeOut__kinds_2 post c wr (d + 1) (nI i) (rc_sh k i ks) xs ys ss fo := by
  intro d
  induction d with
  | zero =>
    intro i hi hk
    obtain rfl : i = 4 := by omega
    exact pk_le 4 4 (fun _ => h) (fun z => absurd z (by omega))
  | succ d ih =>
    intro i hi hk
    refine pk_le 4 i (fun z => absurd z (by omega)) (fun _ => ?_)
    rw [nI_1 i]
    refine ⟨vp_in_nI (by omega) (by decide), vp_in_nI (by omega) (by decide), nm_r (e' := rc_sh k (i + 1) ks) ?_ (nm_e (ih (i + 1) (by omega) (by omega)))⟩
    rw [nI_clamp (show i < 2 ^ 31 by omega), nI_clamp (show i + 1 < 2 ^ 31 by omega), rc_sh_s hk]
theorem rx_to_kinds {post : SX → Prop} {k : Nat} (hk : k ≤ 4) (h : post (c, wr, rc_sh k 4 ks, xs, ys, ss, fo)) : wpX_takeOut__kinds post (c, wr, ks, xs, ys, ss, fo) (nI k) := by
  have e := rx_to_kinds_loop h (4 - k) k (by omega) (Nat.le_refl k)
  rw [rc_sh_0] at e
  exact ⟨_, e⟩
theorem rx_to_xs_loop {post : SX → Prop} {k : Nat} (h : post (c, wr, ks, rc_sh k 4 xs, ys, ss, fo)) : ∀ d i, i + d = 4 → k ≤ i → wX_takeOut__xs_2 post c wr (d + 1) (nI i) ks (rc_sh k i xs) ys ss fo := by
  intro d
  induction d with
  | zero =>
    intro i hi hk
    obtain rfl : i = 4 := by omega
    exact pk_le 4 4 (fun _ => h) (fun z => absurd z (by omega))
  | succ d ih =>
    intro i hi hk
    refine pk_le 4 i (fun z => absurd z (by omega)) (fun _ => ?_)
    rw [nI_1 i]
    refine ⟨vp_in_nI (by omega) (by decide), vp_in_nI (by omega) (by decide), nm_r (e' := rc_sh k (i + 1) xs) ?_ (nm_e (ih (i + 1) (by omega) (by omega)))⟩
    rw [nI_clamp (show i < 2 ^ 31 by omega), nI_clamp (show i + 1 < 2 ^ 31 by omega), rc_sh_s hk]
theorem rx_to_xs {post : SX → Prop} {k : Nat} (hk : k ≤ 4) (h : post (c, wr, ks, rc_sh k 4 xs, ys, ss, fo)) : wpX_takeOut__xs post (c, wr, ks, xs, ys, ss, fo) (nI k) := by
  have e := rx_to_xs_loop h (4 - k) k (by omega) (Nat.le_refl k)
  rw [rc_sh_0] at e
  exact ⟨_, e⟩
theorem rx_to_ys_loop {post : SX → Prop} {k : Nat} (h : post (c, wr, ks, xs, rc_sh k 4 ys, ss, fo)) : ∀ d i, i + d = 4 → k ≤ i → wX_takeOut__ys_2 post c wr (d + 1) (nI i) ks xs (rc_sh k i ys) ss fo := by
  intro d
  induction d with
  | zero =>
    intro i hi hk
    obtain rfl : i = 4 := by omega
    exact pk_le 4 4 (fun _ => h) (fun z => absurd z (by omega))
  | succ d ih =>
    intro i hi hk
    refine pk_le 4 i (fun z => absurd z (by omega)) (fun _ => ?_)
    rw [nI_1 i]
    refine ⟨vp_in_nI (by omega) (by decide), vp_in_nI (by omega) (by decide), nm_r (e' := rc_sh k (i + 1) ys) ?_ (nm_e (ih (i + 1) (by omega) (by omega)))⟩
    rw [nI_clamp (show i < 2 ^ 31 by omega), nI_clamp (show i + 1 < 2 ^ 31 by omega), rc_sh_s hk]
theorem rx_to_ys {post : SX → Prop} {k : Nat} (hk : k ≤ 4) (h : post (c, wr, ks, xs, rc_sh k 4 ys, ss, fo)) : wpX_takeOut__ys post (c, wr, ks, xs, ys, ss, fo) (nI k) := by
  have e := rx_to_ys_loop h (4 - k) k (by omega) (Nat.le_refl k)
  rw [rc_sh_0] at e
  exact ⟨_, e⟩
theorem rx_to_sideSets_loop {post : SX → Prop} {k : Nat} (h : post (c, wr, ks, xs, ys, rc_sh k 4 ss, fo)) : ∀ d i, i + d = 4 → k ≤ i → wX_takeOut__sideSets_2 post c wr (d + 1) (nI i) ks xs ys (rc_sh k i ss) fo := by
  intro d
  induction d with
  | zero =>
    intro i hi hk
    obtain rfl : i = 4 := by omega
    exact pk_le 4 4 (fun _ => h) (fun z => absurd z (by omega))
  | succ d ih =>
    intro i hi hk
    refine pk_le 4 i (fun z => absurd z (by omega)) (fun _ => ?_)
    rw [nI_1 i]
    refine ⟨vp_in_nI (by omega) (by decide), vp_in_nI (by omega) (by decide), nm_r (e' := rc_sh k (i + 1) ss) ?_ (nm_e (ih (i + 1) (by omega) (by omega)))⟩
    rw [nI_clamp (show i < 2 ^ 31 by omega), nI_clamp (show i + 1 < 2 ^ 31 by omega), rc_sh_s hk]
theorem rx_to_sideSets {post : SX → Prop} {k : Nat} (hk : k ≤ 4) (h : post (c, wr, ks, xs, ys, rc_sh k 4 ss, fo)) : wpX_takeOut__sideSets post (c, wr, ks, xs, ys, ss, fo) (nI k) := by
  have e := rx_to_sideSets_loop h (4 - k) k (by omega) (Nat.le_refl k)
  rw [rc_sh_0] at e
  exact ⟨_, e⟩
theorem rc_m1 {m : Nat} (h : 0 < m) : nI m - 1 = nI (m - 1) := pk_sub (b := 1) h
theorem ry_drop_loop {post : Int32 → SY → Prop} {k e : Nat} (he : e ≤ 4) (h : post (nI e) (nI e, ln, sz, mo, rc_sh k e ks, rc_sh k e xs, rc_sh k e ys, rc_sh k e ss, wd, ro, ma, rs)) : ∀ d i, i + d = e → k ≤ i → wY_drop_27 post (nI e) ln sz mo (d + 1) (nI i) (rc_sh k i ks) (rc_sh k i xs) (rc_sh k i ys) (rc_sh k i ss) wd ro ma rs := by
  intro d
  induction d with
  | zero =>
    intro i hi hk
    obtain rfl : i = e := by omega
    exact pk_le i i (fun _ => h) (fun z => absurd z (by omega))
  | succ d ih =>
    intro i hi hk
    have h1 : vp_in (nI (i + 1)) 5 := vp_in_nI (by omega) (by decide)
    have h0 : vp_in (nI i) 5 := vp_in_nI (by omega) (by decide)
    have c1 := nI_clamp (show i + 1 < 2 ^ 31 by omega)
    have c0 := nI_clamp (show i < 2 ^ 31 by omega)
    refine pk_le e i (fun z => absurd z (by omega)) (fun _ => ?_)
    rw [nI_1 i]
    exact ⟨h1, h0, nm_r (e' := rc_sh k (i + 1) ks) (by rw [c0, c1, rc_sh_s hk]) ⟨h1, h0, nm_r (e' := rc_sh k (i + 1) xs) (by rw [c0, c1, rc_sh_s hk]) ⟨h1, h0, nm_r (e' := rc_sh k (i + 1) ys) (by rw [c0, c1, rc_sh_s hk]) ⟨h1, h0, nm_r (e' := rc_sh k (i + 1) ss) (by rw [c0, c1, rc_sh_s hk]) (nm_e (ih (i + 1) (by omega) (by omega)))⟩⟩⟩⟩
theorem i_vc_drop {k : Nat} {u : SX} {v : SY} (I : i_Rel k u v) (hk : k + 5 ≤ 2560) (v1 : Int32) : wpX_drop (fun r u' => wpY_drop (fun r' v' => r' = r ∧ i_Rel (k + 5) u' v') v v1) u v1 := by
  obtain ⟨m, R, t, kx, xx, yx, sx, fo, ky, xy, yy, sy, wy, ro, ma, rs, sz, mo, rfl, rfl, hm, hX, hY, hW, hl, hH⟩ := I
  unfold wpX_drop
  rcases rc_cls v1 with h | ⟨j, hj, rfl⟩
  · exact rx_rule_n h (br_t rfl (br_t h ⟨rfl, rc_mk hm hX hY hW hl hH⟩))
  by_cases hjm : j < m
  · refine rx_rule_t hm hjm (br_f (by decide) ?_)
    refine rx_to_kinds (by omega) (rx_to_xs (by omega) (rx_to_ys (by omega) (rx_to_sideSets (by omega) (nm_r (rc_m1 (by omega)) ?_))))
    unfold wpY_drop
    refine br_f (nI_pos hj) (pk_lt j m (fun _ => nm_r (rc_m1 (by omega)) ?_) (fun z => absurd z (by omega)))
    have g := ry_drop_loop (post := fun r' v' => r' = nI (m - 1) ∧ i_Rel (k + 5) (nI (m - 1), nI (rc_cd t), rc_sh j 4 kx, rc_sh j 4 xx, rc_sh j 4 yx, rc_sh j 4 sx, fo) v') (ln := nI t.length) (sz := sz) (mo := mo) (ks := ky) (xs := xy) (ys := yy) (ss := sy) (wd := wy) (ro := ro) (ma := ma) (rs := rs) (k := j) (e := m - 1) (by omega) ⟨rfl, rc_mk (R := rc_dR j R) (by omega) (rc_B_drop hX (by omega)) (rc_B_drop hY (Nat.le_refl _)) hW hl hH⟩ (m - 1 - j) j (by omega) (Nat.le_refl j)
    rw [rc_sh_0, rc_sh_0, rc_sh_0, rc_sh_0] at g
    exact ⟨_, g⟩
  · exact rx_rule_f hm hjm hj (br_t rfl (br_f (nI_pos hj) (pk_lt j m (fun z => absurd z hjm) (fun _ => ⟨rfl, rc_mk hm hX hY hW hl hH⟩))))
/-- cells k and k + 1 exchanged -/
def rc_sw (k : Nat) (a : Nat → Int32) : Nat → Int32 := upd (upd a k (a (k + 1))) (k + 1) (a k)
def rc_sR (k : Nat) (R : Nat → rc_Ru) : Nat → rc_Ru := fun r => if r = k then R (k + 1) else if r = k + 1 then R k else R r
theorem rc_sw_1 (k : Nat) (a : Nat → Int32) : rc_sw k a k = a (k + 1) := by rw [rc_sw, pk_un (by omega), pk_us]
theorem rc_sw_2 (k : Nat) (a : Nat → Int32) : rc_sw k a (k + 1) = a k := pk_us
theorem rc_sw_3 {k j : Nat} (a : Nat → Int32) (h1 : ¬ j = k) (h2 : ¬ j = k + 1) : rc_sw k a j = a j := by rw [rc_sw, pk_un h2, pk_un h1]
theorem rc_sR_1 (k : Nat) (R : Nat → rc_Ru) : rc_sR k R k = R (k + 1) := if_pos rfl
theorem rc_sR_2 (k : Nat) (R : Nat → rc_Ru) : rc_sR k R (k + 1) = R k := by rw [rc_sR, if_neg (by omega), if_pos rfl]
theorem rc_sR_3 {k j : Nat} (R : Nat → rc_Ru) (h1 : ¬ j = k) (h2 : ¬ j = k + 1) : rc_sR k R j = R j := by rw [rc_sR, if_neg h1, if_neg h2]
theorem rc_sR_sR (k : Nat) (R : Nat → rc_Ru) : rc_sR k (rc_sR k R) = R := by
  funext r
  by_cases e1 : r = k
  · subst e1
    rw [rc_sR_1, rc_sR_2]
  · by_cases e2 : r = k + 1
    · subst e2
      rw [rc_sR_2, rc_sR_1]
    · rw [rc_sR_3 _ e1 e2, rc_sR_3 _ e1 e2]
theorem rc_B_swap {m k : Nat} {R : Nat → rc_Ru} (h : rc_B m R ks xs ys ss) (hk : k + 1 < m) : rc_B m (rc_sR k R) (rc_sw k ks) (rc_sw k xs) (rc_sw k ys) (rc_sw k ss) := by
  intro r hr
  by_cases e1 : r = k
  · subst e1
    rw [rc_sR_1, rc_sw_1, rc_sw_1, rc_sw_1, rc_sw_1]
    exact h _ hk
  · by_cases e2 : r = k + 1
    · subst e2
      rw [rc_sR_2, rc_sw_2, rc_sw_2, rc_sw_2, rc_sw_2]
      exact h _ (by omega)
    · rw [rc_sR_3 _ e1 e2, rc_sw_3 _ e1 e2, rc_sw_3 _ e1 e2, rc_sw_3 _ e1 e2, rc_sw_3 _ e1 e2]
      exact h r hr
theorem rc_pr {A B : Prop} {m k : Nat} (hm : m ≤ 5) (hk : k < 2 ^ 31) (f : ¬ k + 1 < m → A) (g : k + 1 < m → B) : ((nI m - 1) ≤ nI k → A) ∧ (¬ (nI m - 1) ≤ nI k → B) := by
  by_cases h0 : 0 < m
  · rw [rc_m1 h0]
    exact pk_le (m - 1) k (fun z => f (by omega)) (fun z => g (by omega))
  · obtain rfl : m = 0 := by omega
    exact br_t (Int32.le_trans (show nI 0 - 1 ≤ 0 by decide) (nI_pos' hk)) (f (by omega))
theorem rc_pr' {A B : Prop} {m k : Nat} (hm : m ≤ 5) (hk : k < 2 ^ 31) (g : k + 1 < m → B) (f : ¬ k + 1 < m → A) : (nI k < (nI m - 1) → B) ∧ (¬ nI k < (nI m - 1) → A) := by
  have h := rc_pr hm hk f g
  exact ⟨fun z => h.2 (Int32.not_le.mpr z), fun z => h.1 (Int32.not_lt.mp z)⟩
theorem rx_ex_kinds {post : SX → Prop} {k : Nat} (hk : k < 4) (h : post (c, wr, rc_sw k ks, xs, ys, ss, fo)) : wpX_exchange__kinds post (c, wr, ks, xs, ys, ss, fo) (nI k) := by
  have h1 : vp_in (nI (k + 1)) 5 := vp_in_nI (by omega) (by decide)
  have h0 : vp_in (nI k) 5 := vp_in_nI (by omega) (by decide)
  have c1 := nI_clamp (show k + 1 < 2 ^ 31 by omega)
  have c0 := nI_clamp (show k < 2 ^ 31 by omega)
  unfold wpX_exchange__kinds
  rw [nI_1 k]
  exact ⟨h0, nm_r (e' := ks k) (by rw [c0]) ⟨h1, h0, nm_r (e' := upd ks k (ks (k + 1))) (by rw [c0, c1]) ⟨h1, nm_r (e' := rc_sw k ks) (by rw [c1]; rfl) h⟩⟩⟩
theorem rx_ex_xs {post : SX → Prop} {k : Nat} (hk : k < 4) (h : post (c, wr, ks, rc_sw k xs, ys, ss, fo)) : wpX_exchange__xs post (c, wr, ks, xs, ys, ss, fo) (nI k) := by
  have h1 : vp_in (nI (k + 1)) 5 := vp_in_nI (by omega) (by decide)
  have h0 : vp_in (nI k) 5 := vp_in_nI (by omega) (by decide)
  have c1 := nI_clamp (show k + 1 < 2 ^ 31 by omega)
  have c0 := nI_clamp (show k < 2 ^ 31 by omega)
  unfold wpX_exchange__xs
  rw [nI_1 k]
  exact ⟨h0, nm_r (e' := xs k) (by rw [c0]) ⟨h1, h0, nm_r (e' := upd xs k (xs (k + 1))) (by rw [c0, c1]) ⟨h1, nm_r (e' := rc_sw k xs) (by rw [c1]; rfl) h⟩⟩⟩
theorem rx_ex_ys {post : SX → Prop} {k : Nat} (hk : k < 4) (h : post (c, wr, ks, xs, rc_sw k ys, ss, fo)) : wpX_exchange__ys post (c, wr, ks, xs, ys, ss, fo) (nI k) := by
  have h1 : vp_in (nI (k + 1)) 5 := vp_in_nI (by omega) (by decide)
  have h0 : vp_in (nI k) 5 := vp_in_nI (by omega) (by decide)
  have c1 := nI_clamp (show k + 1 < 2 ^ 31 by omega)
  have c0 := nI_clamp (show k < 2 ^ 31 by omega)
  unfold wpX_exchange__ys
  rw [nI_1 k]
  exact ⟨h0, nm_r (e' := ys k) (by rw [c0]) ⟨h1, h0, nm_r (e' := upd ys k (ys (k + 1))) (by rw [c0, c1]) ⟨h1, nm_r (e' := rc_sw k ys) (by rw [c1]; rfl) h⟩⟩⟩
theorem rx_ex_sideSets {post : SX → Prop} {k : Nat} (hk : k < 4) (h : post (c, wr, ks, xs, ys, rc_sw k ss, fo)) : wpX_exchange__sideSets post (c, wr, ks, xs, ys, ss, fo) (nI k) := by
  have h1 : vp_in (nI (k + 1)) 5 := vp_in_nI (by omega) (by decide)
  have h0 : vp_in (nI k) 5 := vp_in_nI (by omega) (by decide)
  have c1 := nI_clamp (show k + 1 < 2 ^ 31 by omega)
  have c0 := nI_clamp (show k < 2 ^ 31 by omega)
  unfold wpX_exchange__sideSets
  rw [nI_1 k]
  exact ⟨h0, nm_r (e' := ss k) (by rw [c0]) ⟨h1, h0, nm_r (e' := upd ss k (ss (k + 1))) (by rw [c0, c1]) ⟨h1, nm_r (e' := rc_sw k ss) (by rw [c1]; rfl) h⟩⟩⟩
theorem ry_swap {post : Int32 → SY → Prop} {m k : Nat} (hm : m ≤ 5) (hk : k + 1 < m) (h : post 0 (nI m, ln, sz, mo, rc_sw k ks, rc_sw k xs, rc_sw k ys, rc_sw k ss, wd, ro, ma, rs)) : wpY_swap post (nI m, ln, sz, mo, ks, xs, ys, ss, wd, ro, ma, rs) (nI k) := by
  have h1 : vp_in (nI (k + 1)) 5 := vp_in_nI (by omega) (by decide)
  have h0 : vp_in (nI k) 5 := vp_in_nI (by omega) (by decide)
  have c1 := nI_clamp (show k + 1 < 2 ^ 31 by omega)
  have c0 := nI_clamp (show k < 2 ^ 31 by omega)
  unfold wpY_swap
  rw [nI_1 k]
  refine br_f (nI_pos (by omega)) (rc_pr' hm (by omega) (fun _ => br_t rfl ?_) (fun z => absurd hk z))
  exact ⟨h0, nm_r (e' := ks k) (by rw [c0]) ⟨h0, nm_r (e' := xs k) (by rw [c0]) ⟨h0, nm_r (e' := ys k) (by rw [c0]) ⟨h0, nm_r (e' := ss k) (by rw [c0]) ⟨h1, h0, nm_r (e' := upd ks k (ks (k + 1))) (by rw [c0, c1]) ⟨h1, h0, nm_r (e' := upd xs k (xs (k + 1))) (by rw [c0, c1]) ⟨h1, h0, nm_r (e' := upd ys k (ys (k + 1))) (by rw [c0, c1]) ⟨h1, h0, nm_r (e' := upd ss k (ss (k + 1))) (by rw [c0, c1]) ⟨h1, nm_r (e' := rc_sw k ks) (by rw [c1]; rfl) ⟨h1, nm_r (e' := rc_sw k xs) (by rw [c1]; rfl) ⟨h1, nm_r (e' := rc_sw k ys) (by rw [c1]; rfl) ⟨h1, nm_r (e' := rc_sw k ss) (by rw [c1]; rfl) h⟩⟩⟩⟩⟩⟩⟩⟩⟩⟩⟩⟩
theorem i_vc_swap {k : Nat} {u : SX} {v : SY} (I : i_Rel k u v) (hk : k + 5 ≤ 2560) (v1 : Int32) : wpX_swap (fun r u' => wpY_swap (fun r' v' => r' = r ∧ i_Rel (k + 5) u' v') v v1) u v1 := by
  obtain ⟨m, R, t, kx, xx, yx, sx, fo, ky, xy, yy, sy, wy, ro, ma, rs, sz, mo, rfl, rfl, hm, hX, hY, hW, hl, hH⟩ := I
  unfold wpX_swap
  rcases rc_cls v1 with h | ⟨j, hj, rfl⟩
  · refine br_t h (br_t rfl ?_)
    unfold wpY_swap
    exact br_t h (br_f (by decide) ⟨rfl, rc_mk hm hX hY hW hl hH⟩)
  · refine br_f (nI_pos hj) (rc_pr hm hj (fun z => br_t rfl ?_) (fun z => br_f (by decide) ?_))
    · unfold wpY_swap
      exact br_f (nI_pos hj) (rc_pr' hm hj (fun y => absurd y z) (fun _ => br_f (by decide) ⟨rfl, rc_mk hm hX hY hW hl hH⟩))
    · refine rx_ex_kinds (by omega) (rx_ex_xs (by omega) (rx_ex_ys (by omega) (rx_ex_sideSets (by omega) ?_)))
      exact ry_swap hm z ⟨rfl, rc_mk hm (rc_B_swap hX z) (rc_B_swap hY z) hW hl hH⟩
theorem i_vc_push {k : Nat} {u : SX} {v : SY} (I : i_Rel k u v) (hk : k + 5 ≤ 2560) (v1 : Int32) : wpX_push (fun r u' => wpY_push (fun r' v' => r' = r ∧ i_Rel (k + 5) u' v') v v1) u v1 := by
  obtain ⟨m, R, t, kx, xx, yx, sx, fo, ky, xy, yy, sy, wy, ro, ma, rs, sz, mo, rfl, rfl, hm, hX, hY, hW, hl, hH⟩ := I
  unfold wpX_push wpY_push
  rcases rc_cls v1 with h | ⟨j, hj, rfl⟩
  · exact rx_isl_n h (br_t rfl (ry_bad_n h (br_f (by decide) ⟨rfl, rc_mk hm hX hY hW hl hH⟩)))
  by_cases h4 : j < 4
  · refine rx_isl_t h4 (br_f (by decide) ?_)
    by_cases ht : t.length < 12
    · have hs := rc_cd_small hW ht
      obtain ⟨e1, e2⟩ := rc_app_lt j ht
      have hW' := rc_W_app hW (rc_W_one h4)
      have hl' : (t ++ [j]).length = t.length + 1 := by rw [List.length_append, List.length_singleton]
      refine br_t (nI_lt (b := 16777216) hs (by decide)) ?_
      rw [← e2]
      refine rx_app hW h4 ?_
      rw [e1, e2]
      refine rx_len hW' (by omega) (ry_bad_t h4 (br_t rfl ?_))
      refine pk_eq t.length 12 (fun z => absurd z (by omega)) (fun _ => ⟨vp_in_nI ht (by decide), nm_r (e' := upd wy t.length (nI j)) (by rw [nI_clamp (by omega)]) (nm_r (e' := nI (t ++ [j]).length) (by rw [nI_1, hl']) ⟨rfl, rc_mk hm hX hY hW' (by omega) (rc_H_put hH j)⟩)⟩)
    · have hf := rc_cd_full hW (by omega)
      have hc := rc_cd_lt hW hl
      refine br_f (nI_nlt (b := 16777216) hf (by omega)) (ry_bad_t h4 (br_t rfl (pk_eq t.length 12 (fun _ => ⟨rfl, rc_mk hm hX hY hW hl hH⟩) (fun z => absurd (show t.length = 12 by omega) z))))
  · exact rx_isl_f h4 hj (br_t rfl (ry_bad_f h4 hj (br_f (by decide) ⟨rfl, rc_mk hm hX hY hW hl hH⟩)))
theorem i_vc_clear {k : Nat} {u : SX} {v : SY} (I : i_Rel k u v) (hk : k + 5 ≤ 2560) : wpX_clear (fun r u' => wpY_clear (fun r' v' => r' = r ∧ i_Rel (k + 5) u' v') v) u := by
  obtain ⟨m, R, t, kx, xx, yx, sx, fo, ky, xy, yy, sy, wy, ro, ma, rs, sz, mo, rfl, rfl, hm, hX, hY, hW, hl, hH⟩ := I
  unfold wpX_clear wpY_clear
  exact rx_len hW hl ⟨rfl, rc_mk (t := []) hm hX hY rc_W_nil (by decide) (rc_P_0 _ _)⟩
end
end
section
section
variable {c ln sz mo wr : Int32} {ks xs ys ss wd ro ma rs fo : Nat → Int32}
theorem rx_cas0 {post : Int32 → Prop} {c : Int32} {R : Nat → rc_Ru} {m : Nat} (hm : m ≤ 5) (hB : rc_B m R ks xs ys ss) {b : Nat} (hb : b ≤ m) {l : List Nat} (hW : rc_W l) (hl : l.length ≤ 12) (h : post (nI (rc_cd (rc_ca R 0 b l)))) : wpX_cascade post (c, wr, ks, xs, ys, ss, fo) (nI (rc_cd l)) 0 (nI b) := by
  have e := rx_cas (post := post) (c := c) (wd := wr) (fo := fo) hm hB 0 b (by omega) hW hl h
  rw [Nat.zero_add] at e
  exact e
theorem ry_app_loop {post : Int32 → SY → Prop} {t : List Nat} (ht : t.length ≤ 12) (hm : rc_H t ro) (hp : ∀ wd', rc_H t wd' → post (nI t.length) (c, nI t.length, nI t.length, mo, ks, xs, ys, ss, wd', ro, ma, rs)) : ∀ d i wd, i + d = t.length → rc_P t i wd → wY_apply_22 post c (nI t.length) (nI t.length) mo (d + 1) (nI i) ks xs ys ss wd ro ma rs := by
  intro d
  induction d with
  | zero =>
    intro i wd hi hP
    obtain rfl : i = t.length := by omega
    exact pk_le t.length t.length (fun _ => hp wd hP) (fun z => absurd z (by omega))
  | succ d ih =>
    intro i wd hi hP
    refine pk_le t.length i (fun z => absurd z (by omega)) (fun _ => ⟨vp_in_nI (by omega) (by decide), vp_in_nI (by omega) (by decide), nm_r (e' := upd wd i (nI (t.getD i 4))) ?_ (nm_r (nI_1 i) (ih (i + 1) _ (by omega) (rc_P_s hP)))⟩)
    rw [nI_clamp (by omega), hm i (by omega)]
theorem rc_ca_W0 {m b : Nat} {R : Nat → rc_Ru} (hB : rc_B m R ks xs ys ss) (hb : b ≤ m) {l : List Nat} (hW : rc_W l) : rc_W (rc_ca R 0 b l) := rc_ca_W b 0 (fun r _ h2 => rc_B_y hB (by omega)) hW
theorem i_vc_apply {k : Nat} {u : SX} {v : SY} (I : i_Rel k u v) (hk : k + 5 ≤ 2560) : wpX_apply (fun r u' => wpY_apply (fun r' v' => r' = r ∧ i_Rel (k + 5) u' v') v) u := by
  obtain ⟨m, R, t, kx, xx, yx, sx, fo, ky, xy, yy, sy, wy, ro, ma, rs, sz, mo, rfl, rfl, hm, hX, hY, hW, hl, hH⟩ := I
  have hW' := rc_ca_W0 hX (Nat.le_refl m) hW
  have hl' := rc_ca_len (R := R) m 0 hl
  unfold wpX_apply
  refine rx_cas0 hm hX (Nat.le_refl m) hW hl (rx_len hW' hl' ?_)
  unfold wpY_apply
  refine ry_take hl hH (fun ro' h => ry_all hm hY (Nat.le_refl m) hW hl h (fun mo' ro'' ma' h' => ?_))
  exact ⟨_, ry_app_loop hl' h' (fun wd' h'' => ⟨rfl, rc_mk hm hX hY hW' hl' h''⟩) (rc_ca R 0 m t).length 0 wy (by omega) (rc_P_0 _ _)⟩
theorem i_vc_after {k : Nat} {u : SX} {v : SY} (I : i_Rel k u v) (hk : k + 5 ≤ 2560) (v1 : Int32) : wpX_after (fun r => wpY_after (fun r' v' => r' = r ∧ i_Rel (k + 5) u v') v v1) u v1 := by
  obtain ⟨m, R, t, kx, xx, yx, sx, fo, ky, xy, yy, sy, wy, ro, ma, rs, sz, mo, rfl, rfl, hm, hX, hY, hW, hl, hH⟩ := I
  unfold wpX_after wpY_after
  rcases rc_cls v1 with h | ⟨j, hj, rfl⟩
  · exact br_t h (br_t h ⟨rfl, rc_mk hm hX hY hW hl hH⟩)
  refine br_f (nI_pos hj) (pk_le j m (fun hjm => ?_) (fun hjm => ?_))
  · refine rx_cas0 hm hX hjm hW hl (br_f (nI_pos hj) (pk_le j m (fun _ => ?_) (fun z => absurd z (by omega))))
    exact ry_take hl hH (fun ro' h => ry_all hm hY hjm hW hl h (fun mo' ro'' ma' h' => ry_cor (rc_ca_len j 0 hl) h' ⟨rfl, rc_mk hm hX hY hW hl hH⟩))
  · exact br_f (nI_pos hj) (pk_le j m (fun z => absurd z (by omega)) (fun _ => ⟨rfl, rc_mk hm hX hY hW hl hH⟩))
theorem i_vc_letter {k : Nat} {u : SX} {v : SY} (I : i_Rel k u v) (hk : k + 5 ≤ 2560) (v1 : Int32) : wpX_letter (fun r => wpY_letter (fun r' v' => r' = r ∧ i_Rel (k + 5) u v') v v1) u v1 := by
  obtain ⟨m, R, t, kx, xx, yx, sx, fo, ky, xy, yy, sy, wy, ro, ma, rs, sz, mo, rfl, rfl, hm, hX, hY, hW, hl, hH⟩ := I
  have hW' := rc_ca_W0 hX (Nat.le_refl m) hW
  have hl' := rc_ca_len (R := R) m 0 hl
  unfold wpX_letter wpY_letter
  refine rx_cas0 hm hX (Nat.le_refl m) hW hl (rx_len hW' hl' ?_)
  rcases rc_cls v1 with h | ⟨j, hj, rfl⟩
  · exact br_t h (ry_take hl hH (fun ro' h1 => ry_all hm hY (Nat.le_refl m) hW hl h1 (fun mo' ro'' ma' h' => br_t h ⟨rfl, rc_mk hm hX hY hW hl hH⟩)))
  refine br_f (nI_pos hj) (pk_lt j (rc_ca R 0 m t).length (fun hjl => ?_) (fun hjl => ?_))
  · refine rx_le hW' hl' (by omega) (ry_take hl hH (fun ro' h1 => ry_all hm hY (Nat.le_refl m) hW hl h1 (fun mo' ro'' ma' h' => ?_)))
    refine br_f (nI_pos hj) (pk_lt j (rc_ca R 0 m t).length (fun _ => ⟨vp_in_nI (by omega) (by decide), ?_, rc_mk hm hX hY hW hl hH⟩) (fun z => absurd z (by omega)))
    rw [nI_clamp hj, h' j hjl]
  · exact ry_take hl hH (fun ro' h1 => ry_all hm hY (Nat.le_refl m) hW hl h1 (fun mo' ro'' ma' h' => br_f (nI_pos hj) (pk_lt j (rc_ca R 0 m t).length (fun z => absurd z (by omega)) (fun _ => ⟨rfl, rc_mk hm hX hY hW hl hH⟩))))
theorem rc_N {n : Nat} (hn : n ≤ 5) : 4 ^ n ≤ 1024 := by
  have h := rc_p4 hn
  exact h
theorem rc_N0 (n : Nat) : 0 < 4 ^ n := Nat.pow_pos (by decide)
theorem rc_fw {n : Nat} (hn : n ≤ 5) : (1 : Int32) <<< ((2 * nI n) &&& 31) = nI (4 ^ n) := by
  have h := rc_N hn
  rw [rx_2]
  have e := pk_shlN (n := 1) (nI (2 * n) &&& 31) (2 * n) (s_l _ (by omega)) (by rw [rx_44]; omega)
  rw [rx_44, Nat.one_mul] at e
  exact e
theorem rc_fw2 {n : Nat} (hn : n ≤ 5) : (2 : Int32) * ((1 : Int32) <<< ((2 * nI n) &&& 31)) = nI (2 * 4 ^ n) := by rw [rc_fw hn, rx_2]
theorem rx_fw {post : Int32 → Prop} {n : Nat} (hn : n ≤ 5) (h : post (nI (4 ^ n))) : wpX_firstWord post (nI n) := by
  unfold wpX_firstWord
  rw [rc_fw hn]
  exact h
theorem ry_lst {post : Int32 → Prop} {n : Nat} (hn : n ≤ 5) (h : post (nI (4 ^ n))) : wpY_least post (c, ln, sz, mo, ks, xs, ys, ss, wd, ro, ma, rs) (nI n) := by
  unfold wpY_least
  rw [rc_fw hn]
  exact h
/-- the asked length: refused on both sides, or a number up to 5 -/
def rc_bad (x : Int32) : Prop := x < 0 ∨ ∃ j : Nat, 5 < j ∧ j < 2 ^ 31 ∧ x = nI j
theorem rc_n5 (x : Int32) : rc_bad x ∨ ∃ n : Nat, n ≤ 5 ∧ x = nI n := by
  rcases rc_cls x with h | ⟨j, hj, e⟩
  · exact Or.inl (Or.inl h)
  · by_cases h5 : j ≤ 5
    · exact Or.inr ⟨j, h5, e⟩
    · exact Or.inl (Or.inr ⟨j, by omega, hj, e⟩)
theorem rx_al_f {post : Int32 → Prop} {x : Int32} (hb : rc_bad x) (h : post 0) : wpX_isAskedLength post x := by
  rcases hb with z | ⟨j, h1, h2, rfl⟩
  · exact br_t z h
  · exact br_f (nI_pos h2) (pk_lt 5 j (fun _ => h) (fun z => absurd z (by omega)))
theorem rx_al_t {post : Int32 → Prop} {n : Nat} (hn : n ≤ 5) (h : post 1) : wpX_isAskedLength post (nI n) :=
  br_f (nI_pos (by omega)) (pk_lt 5 n (fun z => absurd z (by omega)) (fun _ => h))
theorem ry_ns_f {post : Int32 → Prop} {x : Int32} (hb : rc_bad x) (h : post 1) : wpY_noSize post (c, ln, sz, mo, ks, xs, ys, ss, wd, ro, ma, rs) x := by
  rcases hb with z | ⟨j, h1, h2, rfl⟩
  · exact br_t z h
  · exact br_f (nI_pos h2) (pk_le j 5 (fun z => absurd z (by omega)) (fun _ => h))
theorem ry_ns_t {post : Int32 → Prop} {n : Nat} (hn : n ≤ 5) (h : post 0) : wpY_noSize post (c, ln, sz, mo, ks, xs, ys, ss, wd, ro, ma, rs) (nI n) :=
  br_f (nI_pos (by omega)) (pk_le n 5 (fun _ => h) (fun z => absurd z (by omega)))
end
section
variable {ln : Int32} {kx xx yx sx fo ky xy yy sy wy rs : Nat → Int32} {R : Nat → rc_Ru} {m n : Nat}
theorem rs_loop {g : Int32} (hm : m ≤ 5) (hX : rc_B m R kx xx yx sx) (hY : rc_B m R ky xy yy sy) (hn : n ≤ 5) : ∀ d w (cn : Int32), w + d = 2 * 4 ^ n → 4 ^ n ≤ w → ∃ r : Int32, (∀ post : Int32 → Prop, post r → wX_sources_19 post (nI (4 ^ n)) (nI m) g kx xx yx sx fo (d + 1) cn (nI w)) ∧ (∀ (post : Int32 → SY → Prop) (sz mo : Int32) (ro ma : Nat → Int32), (∀ (sz mo : Int32) (ro ma : Nat → Int32), post r (nI m, ln, sz, mo, ky, xy, yy, sy, wy, ro, ma, rs)) → wY_sources_24 post (nI n) g (d + 1) cn (nI w) (nI m) ln sz mo ky xy yy sy wy ro ma rs) := by
  have hN := rc_N hn
  intro d
  induction d with
  | zero =>
    intro w cn hw h1
    refine ⟨cn, fun post hp => pk_le (2 * 4 ^ n) w (fun _ => hp) (fun z => absurd z (by omega)) (hx := rx_2 _), fun post sz mo ro ma hp => pk_le (2 * 4 ^ n) w (fun _ => hp _ _ _ _) (fun z => absurd z (by omega)) (hx := rc_fw2 hn)⟩
  | succ d ih =>
    intro w cn hw h1
    have h2 : w < 2 * 4 ^ n := by omega
    by_cases e : nI (rc_re R m n w) = g
    · obtain ⟨r, iX, iY⟩ := ih (w + 1) (cn + 1) (by omega) (by omega)
      refine ⟨r, fun post hp => pk_le (2 * 4 ^ n) w (fun z => absurd z (by omega)) (fun _ => ?_) (hx := rx_2 _), fun post sz mo ro ma hp => pk_le (2 * 4 ^ n) w (fun z => absurd z (by omega)) (fun _ => ?_) (hx := rc_fw2 hn)⟩
      · exact rx_re hm hX (by omega) h1 h2 (br_t e (nm_e (nm_r (nI_1 w) (iX post hp))))
      · exact ry_res hm hY (by omega) h1 h2 (fun sz' mo' ro' ma' => br_t e (nm_e (nm_r (nI_1 w) (iY post sz' mo' ro' ma' hp))))
    · obtain ⟨r, iX, iY⟩ := ih (w + 1) cn (by omega) (by omega)
      refine ⟨r, fun post hp => pk_le (2 * 4 ^ n) w (fun z => absurd z (by omega)) (fun _ => ?_) (hx := rx_2 _), fun post sz mo ro ma hp => pk_le (2 * 4 ^ n) w (fun z => absurd z (by omega)) (fun _ => ?_) (hx := rc_fw2 hn)⟩
      · exact rx_re hm hX (by omega) h1 h2 (br_f e (nm_r (nI_1 w) (iX post hp)))
      · exact ry_res hm hY (by omega) h1 h2 (fun sz' mo' ro' ma' => br_f e (nm_r (nI_1 w) (iY post sz' mo' ro' ma' hp)))
theorem rt_loop (hm : m ≤ 5) (hX : rc_B m R kx xx yx sx) (hY : rc_B m R ky xy yy sy) (hn : n ≤ 5) {g : Int32} : ∀ d w (cn : Int32), w + d = 2 * 4 ^ n → 4 ^ n ≤ w → ∃ r : Int32, (∀ post : Int32 → Prop, post r → wX_still_19 post (nI (4 ^ n)) (nI m) g kx xx yx sx fo (d + 1) cn (nI w)) ∧ (∀ (post : Int32 → SY → Prop) (sz mo : Int32) (ro ma : Nat → Int32), (∀ (sz mo : Int32) (ro ma : Nat → Int32), post r (nI m, ln, sz, mo, ky, xy, yy, sy, wy, ro, ma, rs)) → wY_still_18 post (nI n) (d + 1) cn (nI w) (nI m) ln sz mo ky xy yy sy wy ro ma rs) := by
  have hN := rc_N hn
  intro d
  induction d with
  | zero =>
    intro w cn hw h1
    refine ⟨cn, fun post hp => pk_le (2 * 4 ^ n) w (fun _ => hp) (fun z => absurd z (by omega)) (hx := rx_2 _), fun post sz mo ro ma hp => pk_le (2 * 4 ^ n) w (fun _ => hp _ _ _ _) (fun z => absurd z (by omega)) (hx := rc_fw2 hn)⟩
  | succ d ih =>
    intro w cn hw h1
    have h2 : w < 2 * 4 ^ n := by omega
    by_cases e : nI (rc_re R m n w) = nI w
    · obtain ⟨r, iX, iY⟩ := ih (w + 1) (cn + 1) (by omega) (by omega)
      refine ⟨r, fun post hp => pk_le (2 * 4 ^ n) w (fun z => absurd z (by omega)) (fun _ => ?_) (hx := rx_2 _), fun post sz mo ro ma hp => pk_le (2 * 4 ^ n) w (fun z => absurd z (by omega)) (fun _ => ?_) (hx := rc_fw2 hn)⟩
      · exact rx_re hm hX (by omega) h1 h2 (br_t e (nm_e (nm_r (nI_1 w) (iX post hp))))
      · exact ry_res hm hY (by omega) h1 h2 (fun sz' mo' ro' ma' => br_t e (nm_e (nm_r (nI_1 w) (iY post sz' mo' ro' ma' hp))))
    · obtain ⟨r, iX, iY⟩ := ih (w + 1) cn (by omega) (by omega)
      refine ⟨r, fun post hp => pk_le (2 * 4 ^ n) w (fun z => absurd z (by omega)) (fun _ => ?_) (hx := rx_2 _), fun post sz mo ro ma hp => pk_le (2 * 4 ^ n) w (fun z => absurd z (by omega)) (fun _ => ?_) (hx := rc_fw2 hn)⟩
      · exact rx_re hm hX (by omega) h1 h2 (br_f e (nm_r (nI_1 w) (iX post hp)))
      · exact ry_res hm hY (by omega) h1 h2 (fun sz' mo' ro' ma' => br_f e (nm_r (nI_1 w) (iY post sz' mo' ro' ma' hp)))
theorem ru_loop {g x : Int32} (hm : m ≤ 5) (hX : rc_B m R kx xx yx sx) (hY : rc_B m R ky xy yy sy) (hn : n ≤ 5) : ∀ d w (cn : Int32), w + d = 2 * 4 ^ n → 4 ^ n ≤ w → ∃ r : Int32, (∀ post : Int32 → Prop, post r → wX_source_20 post x (nI (4 ^ n)) (nI m) g kx xx yx sx fo (d + 1) cn (nI w)) ∧ (∀ (post : Int32 → SY → Prop) (sz mo : Int32) (ro ma : Nat → Int32), (∀ (sz mo : Int32) (ro ma : Nat → Int32), post r (nI m, ln, sz, mo, ky, xy, yy, sy, wy, ro, ma, rs)) → wY_source_25 post (nI n) x g (d + 1) cn (nI w) (nI m) ln sz mo ky xy yy sy wy ro ma rs) := by
  have hN := rc_N hn
  intro d
  induction d with
  | zero =>
    intro w cn hw h1
    refine ⟨-4, fun post hp => pk_le (2 * 4 ^ n) w (fun _ => hp) (fun z => absurd z (by omega)) (hx := rx_2 _), fun post sz mo ro ma hp => pk_le (2 * 4 ^ n) w (fun _ => hp _ _ _ _) (fun z => absurd z (by omega)) (hx := rc_fw2 hn)⟩
  | succ d ih =>
    intro w cn hw h1
    have h2 : w < 2 * 4 ^ n := by omega
    by_cases e : nI (rc_re R m n w) = g
    · by_cases e' : cn = x
      · refine ⟨nI w, fun post hp => pk_le (2 * 4 ^ n) w (fun z => absurd z (by omega)) (fun _ => ?_) (hx := rx_2 _), fun post sz mo ro ma hp => pk_le (2 * 4 ^ n) w (fun z => absurd z (by omega)) (fun _ => ?_) (hx := rc_fw2 hn)⟩
        · exact rx_re hm hX (by omega) h1 h2 (br_t e (br_t e' hp))
        · exact ry_res hm hY (by omega) h1 h2 (fun sz' mo' ro' ma' => br_t e (br_t e' (hp _ _ _ _)))
      · obtain ⟨r, iX, iY⟩ := ih (w + 1) (cn + 1) (by omega) (by omega)
        refine ⟨r, fun post hp => pk_le (2 * 4 ^ n) w (fun z => absurd z (by omega)) (fun _ => ?_) (hx := rx_2 _), fun post sz mo ro ma hp => pk_le (2 * 4 ^ n) w (fun z => absurd z (by omega)) (fun _ => ?_) (hx := rc_fw2 hn)⟩
        · exact rx_re hm hX (by omega) h1 h2 (br_t e (br_f e' (nm_e (nm_r (nI_1 w) (iX post hp)))))
        · exact ry_res hm hY (by omega) h1 h2 (fun sz' mo' ro' ma' => br_t e (br_f e' (nm_e (nm_r (nI_1 w) (iY post sz' mo' ro' ma' hp)))))
    · obtain ⟨r, iX, iY⟩ := ih (w + 1) cn (by omega) (by omega)
      refine ⟨r, fun post hp => pk_le (2 * 4 ^ n) w (fun z => absurd z (by omega)) (fun _ => ?_) (hx := rx_2 _), fun post sz mo ro ma hp => pk_le (2 * 4 ^ n) w (fun z => absurd z (by omega)) (fun _ => ?_) (hx := rc_fw2 hn)⟩
      · exact rx_re hm hX (by omega) h1 h2 (br_f e (nm_r (nI_1 w) (iX post hp)))
      · exact ry_res hm hY (by omega) h1 h2 (fun sz' mo' ro' ma' => br_f e (nm_r (nI_1 w) (iY post sz' mo' ro' ma' hp)))
end
theorem i_vc_sources {k : Nat} {u : SX} {v : SY} (I : i_Rel k u v) (hk : k + 5 ≤ 2560) (v1 : Int32) : wpX_sources (fun r => wpY_sources (fun r' v' => r' = r ∧ i_Rel (k + 5) u v') v v1) u v1 := by
  obtain ⟨m, R, t, kx, xx, yx, sx, fo, ky, xy, yy, sy, wy, ro, ma, rs, sz, mo, rfl, rfl, hm, hX, hY, hW, hl, hH⟩ := I
  unfold wpX_sources wpY_sources
  rcases rc_n5 v1 with h | ⟨n, hn, rfl⟩
  · exact rx_al_f h (br_t rfl (ry_ns_f h (br_f (by decide) ⟨rfl, rc_mk hm hX hY hW hl hH⟩)))
  · obtain ⟨r, iX, iY⟩ := rs_loop (ln := nI t.length) (fo := fo) (wy := wy) (rs := rs) (g := nI (rc_cd t)) hm hX hY hn (4 ^ n) (4 ^ n) 0 (by omega) (Nat.le_refl _)
    refine rx_al_t hn (br_f (by decide) (rx_fw hn ⟨_, iX _ (ry_ns_t hn (br_t rfl ?_))⟩))
    exact ry_cow hl hH (fun sz' ro' => ry_lst hn ⟨_, iY _ _ _ _ _ (fun _ _ _ _ => ⟨rfl, rc_mk hm hX hY hW hl hH⟩)⟩)
theorem i_vc_source {k : Nat} {u : SX} {v : SY} (I : i_Rel k u v) (hk : k + 5 ≤ 2560) (v1 : Int32) (v2 : Int32) : wpX_source (fun r => wpY_source (fun r' v' => r' = r ∧ i_Rel (k + 5) u v') v v1 v2) u v1 v2 := by
  obtain ⟨m, R, t, kx, xx, yx, sx, fo, ky, xy, yy, sy, wy, ro, ma, rs, sz, mo, rfl, rfl, hm, hX, hY, hW, hl, hH⟩ := I
  unfold wpX_source wpY_source
  rcases rc_n5 v1 with h | ⟨n, hn, rfl⟩
  · exact rx_al_f h (br_t rfl (ry_ns_f h (br_f (by decide) ⟨rfl, rc_mk hm hX hY hW hl hH⟩)))
  · obtain ⟨r, iX, iY⟩ := ru_loop (ln := nI t.length) (fo := fo) (wy := wy) (rs := rs) (g := nI (rc_cd t)) (x := v2) hm hX hY hn (4 ^ n) (4 ^ n) 0 (by omega) (Nat.le_refl _)
    refine rx_al_t hn (br_f (by decide) (rx_fw hn ⟨_, iX _ (ry_ns_t hn (br_t rfl ?_))⟩))
    exact ry_cow hl hH (fun sz' ro' => ry_lst hn ⟨_, iY _ _ _ _ _ (fun _ _ _ _ => ⟨rfl, rc_mk hm hX hY hW hl hH⟩)⟩)
theorem i_vc_still {k : Nat} {u : SX} {v : SY} (I : i_Rel k u v) (hk : k + 5 ≤ 2560) (v1 : Int32) : wpX_still (fun r => wpY_still (fun r' v' => r' = r ∧ i_Rel (k + 5) u v') v v1) u v1 := by
  obtain ⟨m, R, t, kx, xx, yx, sx, fo, ky, xy, yy, sy, wy, ro, ma, rs, sz, mo, rfl, rfl, hm, hX, hY, hW, hl, hH⟩ := I
  unfold wpX_still wpY_still
  rcases rc_n5 v1 with h | ⟨n, hn, rfl⟩
  · exact rx_al_f h (br_t rfl (ry_ns_f h (br_f (by decide) ⟨rfl, rc_mk hm hX hY hW hl hH⟩)))
  · obtain ⟨r, iX, iY⟩ := rt_loop (ln := nI t.length) (fo := fo) (wy := wy) (rs := rs) (g := nI (rc_cd t)) hm hX hY hn (4 ^ n) (4 ^ n) 0 (by omega) (Nat.le_refl _)
    refine rx_al_t hn (br_f (by decide) (rx_fw hn ⟨_, iX _ (ry_ns_t hn (br_t rfl ?_))⟩))
    exact ry_lst hn ⟨_, iY _ _ _ _ _ (fun _ _ _ _ => ⟨rfl, rc_mk hm hX hY hW hl hH⟩)⟩
end
section
section
variable {c ln sz mo wr : Int32} {ks xs ys ss wd ro ma rs fo : Nat → Int32}
theorem rx_fnd_loop {post : Int32 → Prop} {x : Int32} {e : Nat} (he : e ≤ 1024) (h1 : (∃ j, j < e ∧ fo j = x) → post 1) (h0 : ¬ (∃ j, j < e ∧ fo j = x) → post 0) : ∀ d i, i + d = e → (∀ j, j < i → ¬ fo j = x) → wX_isFound_2 post x (nI e) c wr ks xs ys ss fo (d + 1) (nI i) := by
  intro d
  induction d with
  | zero =>
    intro i hi hn
    obtain rfl : i = e := by omega
    exact pk_le i i (fun _ => h0 (fun ⟨j, a, b⟩ => hn j a b)) (fun z => absurd z (by omega))
  | succ d ih =>
    intro i hi hn
    refine pk_le e i (fun z => absurd z (by omega)) (fun _ => ⟨vp_in_nI (by omega) (by decide), ?_⟩)
    rw [nI_clamp (by omega)]
    by_cases e' : fo i = x
    · exact br_t e' (h1 ⟨i, by omega, e'⟩)
    · refine br_f e' (nm_r (nI_1 i) (ih (i + 1) (by omega) (fun j hj => ?_)))
      by_cases z : j = i
      · subst z
        exact e'
      · exact hn j (by omega)
theorem rx_fnd {post : Int32 → Prop} {x : Int32} {e : Nat} (he : e ≤ 1024) (h1 : (∃ j, j < e ∧ fo j = x) → post 1) (h0 : ¬ (∃ j, j < e ∧ fo j = x) → post 0) : wpX_isFound post (c, wr, ks, xs, ys, ss, fo) x (nI e) :=
  ⟨e + 1, rx_fnd_loop he h1 h0 e 0 (by omega) (fun j hj => absurd hj (Nat.not_lt_zero j))⟩
abbrev ry_J6 : Type := Int32 → ry_J
theorem ry_fnd_loop {post : Int32 → SY → Prop} {J : ry_J6} {x1 x3 x : Int32} {e : Nat} (he : e ≤ 1024) (h1 : (∃ j, j < e ∧ rs j = x) → wY_images_78 post J x1 (nI e) x3 x 1 c ln sz mo ks xs ys ss wd ro ma rs) (h0 : ¬ (∃ j, j < e ∧ rs j = x) → wY_images_78 post J x1 (nI e) x3 x 0 c ln sz mo ks xs ys ss wd ro ma rs) : ∀ d i, i + d = e → (∀ j, j < i → ¬ rs j = x) → wY_images_42 post J x1 (nI e) x3 x c ln sz mo ks xs ys ss wd ro ma rs (d + 2) 0 (nI i) := by
  intro d
  induction d with
  | zero =>
    intro i hi hn
    obtain rfl : i = e := by omega
    exact pk_le i i (fun _ => h0 (fun ⟨j, a, b⟩ => hn j a b)) (fun z => absurd z (by omega))
  | succ d ih =>
    intro i hi hn
    refine pk_le e i (fun z => absurd z (by omega)) (fun _ => br_t rfl ⟨vp_in_nI (by omega) (by decide), ?_⟩)
    rw [nI_clamp (by omega)]
    by_cases e' : rs i = x
    · have g := h1 ⟨i, by omega, e'⟩
      exact br_t e' (nm_r (nI_1 i) (pk_le e (i + 1) (fun _ => g) (fun _ => br_f (by decide) g)))
    · refine br_f e' (nm_r (nI_1 i) (ih (i + 1) (by omega) (fun j hj => ?_)))
      by_cases z : j = i
      · subst z
        exact e'
      · exact hn j (by omega)
theorem ry_fnd {post : Int32 → SY → Prop} {J : ry_J6} {x1 x3 x : Int32} {e : Nat} (he : e ≤ 1024) (h1 : (∃ j, j < e ∧ rs j = x) → wY_images_78 post J x1 (nI e) x3 x 1 c ln sz mo ks xs ys ss wd ro ma rs) (h0 : ¬ (∃ j, j < e ∧ rs j = x) → wY_images_78 post J x1 (nI e) x3 x 0 c ln sz mo ks xs ys ss wd ro ma rs) : ∃ d, wY_images_42 post J x1 (nI e) x3 x c ln sz mo ks xs ys ss wd ro ma rs d 0 0 :=
  ⟨e + 2, ry_fnd_loop he h1 h0 e 0 (by omega) (fun j hj => absurd hj (Nat.not_lt_zero j))⟩
end
section
variable {ln : Int32} {kx xx yx sx ky xy yy sy wy : Nat → Int32} {R : Nat → rc_Ru} {m n : Nat}
theorem ri_loop {g : Int32} (hm : m ≤ 5) (hX : rc_B m R kx xx yx sx) (hY : rc_B m R ky xy yy sy) (hn : n ≤ 5) : ∀ d w cn (fo rs : Nat → Int32), w + d = 2 * 4 ^ n → 4 ^ n + cn ≤ w → (∀ j, j < cn → fo j = rs j) → ∃ r : Int32, (∀ post : Int32 → SX → Prop, (∀ fo, post r (nI m, g, kx, xx, yx, sx, fo)) → wX_images_19 post (nI (4 ^ n)) (nI m) g (d + 1) (nI cn) (nI w) kx xx yx sx fo) ∧ (∀ (post : Int32 → SY → Prop) (sz mo : Int32) (ro ma : Nat → Int32), (∀ (sz mo : Int32) (ro ma rs : Nat → Int32), post r (nI m, ln, sz, mo, ky, xy, yy, sy, wy, ro, ma, rs)) → wY_images_18 post (nI n) (d + 1) (nI cn) (nI w) (nI m) ln sz mo ky xy yy sy wy ro ma rs) := by
  have hN := rc_N hn
  intro d
  induction d with
  | zero =>
    intro w cn fo rs hw h1 hf
    exact ⟨nI cn, fun post hp => pk_le (2 * 4 ^ n) w (fun _ => hp _) (fun z => absurd z (by omega)) (hx := rx_2 _), fun post sz mo ro ma hp => pk_le (2 * 4 ^ n) w (fun _ => hp _ _ _ _ _) (fun z => absurd z (by omega)) (hx := rc_fw2 hn)⟩
  | succ d ih =>
    intro w cn fo rs hw h1 hf
    have h2 : w < 2 * 4 ^ n := by omega
    have h1' : 4 ^ n ≤ w := by omega
    have hv : vp_in (nI cn) 1024 := vp_in_nI (by omega) (by decide)
    have hcl : (nI cn).toNatClampNeg = cn := nI_clamp (by omega)
    have eq : (∃ j, j < cn ∧ fo j = nI (rc_re R m n w)) ↔ (∃ j, j < cn ∧ rs j = nI (rc_re R m n w)) := ⟨fun ⟨j, a, b⟩ => ⟨j, a, (hf j a) ▸ b⟩, fun ⟨j, a, b⟩ => ⟨j, a, (hf j a).symm ▸ b⟩⟩
    by_cases e : ∃ j, j < cn ∧ fo j = nI (rc_re R m n w)
    · obtain ⟨r, iX, iY⟩ := ih (w + 1) cn fo rs (by omega) (by omega) hf
      refine ⟨r, fun post hp => pk_le (2 * 4 ^ n) w (fun z => absurd z (by omega)) (fun _ => ?_) (hx := rx_2 _), fun post sz mo ro ma hp => pk_le (2 * 4 ^ n) w (fun z => absurd z (by omega)) (fun _ => ?_) (hx := rc_fw2 hn)⟩
      · exact rx_re hm hX (by omega) h1' h2 (rx_fnd (by omega) (fun _ => br_f (by decide) (nm_r (nI_1 w) (iX post hp))) (fun z => absurd e z))
      · refine ry_res hm hY (by omega) h1' h2 (fun sz' mo' ro' ma' => ry_fnd (by omega) (fun _ => ?_) (fun z => absurd (eq.mp e) z))
        exact br_f (by decide) (nm_r (nI_1 w) (iY post sz' mo' ro' ma' hp))
    · obtain ⟨r, iX, iY⟩ := ih (w + 1) (cn + 1) (upd fo cn (nI (rc_re R m n w))) (upd rs cn (nI (rc_re R m n w))) (by omega) (by omega) (fun j hj => by
        by_cases z : j = cn
        · subst z
          rw [pk_us, pk_us]
        · rw [pk_un z, pk_un z]
          exact hf j (by omega))
      refine ⟨r, fun post hp => pk_le (2 * 4 ^ n) w (fun z => absurd z (by omega)) (fun _ => ?_) (hx := rx_2 _), fun post sz mo ro ma hp => pk_le (2 * 4 ^ n) w (fun z => absurd z (by omega)) (fun _ => ?_) (hx := rc_fw2 hn)⟩
      · exact rx_re hm hX (by omega) h1' h2 (rx_fnd (by omega) (fun z => absurd z e) (fun _ => br_t rfl ⟨hv, nm_r (e' := upd fo cn (nI (rc_re R m n w))) (by rw [hcl]) (nm_r (nI_1 cn) (nm_r (nI_1 w) (iX post hp)))⟩))
      · refine ry_res hm hY (by omega) h1' h2 (fun sz' mo' ro' ma' => ry_fnd (by omega) (fun z => absurd (eq.mpr z) e) (fun _ => ?_))
        exact br_t rfl ⟨hv, nm_r (e' := upd rs cn (nI (rc_re R m n w))) (by rw [hcl]) (nm_r (nI_1 cn) (nm_r (nI_1 w) (iY post sz' mo' ro' ma' hp)))⟩
end
theorem i_vc_images {k : Nat} {u : SX} {v : SY} (I : i_Rel k u v) (hk : k + 5 ≤ 2560) (v1 : Int32) : wpX_images (fun r u' => wpY_images (fun r' v' => r' = r ∧ i_Rel (k + 5) u' v') v v1) u v1 := by
  obtain ⟨m, R, t, kx, xx, yx, sx, fo, ky, xy, yy, sy, wy, ro, ma, rs, sz, mo, rfl, rfl, hm, hX, hY, hW, hl, hH⟩ := I
  unfold wpX_images wpY_images
  rcases rc_n5 v1 with h | ⟨n, hn, rfl⟩
  · exact rx_al_f h (br_t rfl (ry_ns_f h (br_f (by decide) ⟨rfl, rc_mk hm hX hY hW hl hH⟩)))
  · obtain ⟨r, iX, iY⟩ := ri_loop (ln := nI t.length) (wy := wy) (g := nI (rc_cd t)) hm hX hY hn (4 ^ n) (4 ^ n) 0 fo rs (by omega) (Nat.le_refl _) (fun j hj => absurd hj (Nat.not_lt_zero j))
    refine rx_al_t hn (br_f (by decide) (rx_fw hn ⟨_, iX _ (fun fo' => ry_ns_t hn (br_t rfl ?_))⟩))
    exact ry_lst hn ⟨_, iY _ _ _ _ _ (fun _ _ _ _ _ => ⟨rfl, rc_mk hm hX hY hW hl hH⟩)⟩
section
variable {c ln sz mo wr : Int32} {ks xs ys ss wd ro ma rs fo : Nat → Int32} {R : Nat → rc_Ru} {m n : Nat}
/-- the rules from a on, n of them, but for rule k -/
def rc_cw (R : Nat → rc_Ru) (k : Nat) : Nat → Nat → List Nat → List Nat
  | _, 0, l => l
  | a, n + 1, l => rc_cw R k (a + 1) n (if a = k then l else rc_st (R a) l)
theorem rc_cw_out {R : Nat → rc_Ru} {k : Nat} : ∀ (n a : Nat) (l : List Nat), (k < a ∨ a + n ≤ k) → rc_cw R k a n l = rc_ca R a n l
  | 0, _, _, _ => rfl
  | n + 1, a, l, h => by
    show rc_cw R k (a + 1) n (if a = k then l else rc_st (R a) l) = rc_ca R (a + 1) n (rc_st (R a) l)
    rw [if_neg (by omega), rc_cw_out n (a + 1) _ (by omega)]
theorem rc_cw_add {R : Nat → rc_Ru} {k : Nat} : ∀ (p n a : Nat) (l : List Nat), rc_cw R k a (p + n) l = rc_cw R k (a + p) n (rc_cw R k a p l)
  | 0, n, a, l => by rw [Nat.zero_add]; rfl
  | p + 1, n, a, l => by
    rw [show p + 1 + n = (p + n) + 1 from by omega]
    show rc_cw R k (a + 1) (p + n) (if a = k then l else rc_st (R a) l) = rc_cw R k (a + (p + 1)) n (rc_cw R k (a + 1) p (if a = k then l else rc_st (R a) l))
    rw [rc_cw_add p n (a + 1), show a + 1 + p = a + (p + 1) from by omega]
theorem rc_cw_eq {k m : Nat} (R : Nat → rc_Ru) (hk : k < m) (l : List Nat) : rc_cw R k 0 m l = rc_ca R (k + 1) (m - (k + 1)) (rc_ca R 0 k l) := by
  rw [show m = k + (1 + (m - (k + 1))) from by omega, rc_cw_add, rc_cw_add, rc_cw_out k 0 l (by omega), Nat.zero_add, rc_cw_out _ (k + 1) _ (by omega), show k + (1 + (m - (k + 1))) - (k + 1) = m - (k + 1) from by omega]
  show rc_ca R (k + 1) (m - (k + 1)) (if k = k then rc_ca R 0 k l else _) = _
  rw [if_pos rfl]
theorem rc_cw_W {k : Nat} (hB : rc_B m R ks xs ys ss) : ∀ (n a : Nat) (l : List Nat), a + n ≤ m → rc_W l → rc_W (rc_cw R k a n l)
  | 0, _, _, _, h => h
  | n + 1, a, l, ha, h => rc_cw_W hB n (a + 1) _ (by omega) (by
    split
    · exact h
    · exact rc_st_W (rc_B_y hB (by omega)) h)
theorem rc_cw_len {k : Nat} : ∀ (n a : Nat) (l : List Nat), l.length ≤ 12 → (rc_cw R k a n l).length ≤ 12
  | 0, _, _, h => h
  | n + 1, a, l, h => rc_cw_len n (a + 1) _ (by
    split
    · exact h
    · exact rc_st_len _ _)
theorem rx_without {post : Int32 → Prop} {k w : Nat} (hm : m ≤ 5) (hB : rc_B m R ks xs ys ss) (hn : n ≤ 5) (h1 : 4 ^ n ≤ w) (h2 : w < 2 * 4 ^ n) (hk : k < m) (h : post (nI (rc_cd (rc_cw R k 0 m (rc_dl n w))))) : wpX_cascadeWithout post (nI m, wr, ks, xs, ys, ss, fo) (nI w) (nI k) := by
  have hd : (rc_dl n w).length ≤ 12 := by rw [rc_dl_len]; omega
  rw [rc_cw_eq R hk] at h
  unfold wpX_cascadeWithout
  rw [nI_1 k, ← rc_dl_cd n w h1 h2]
  refine rx_cas0 hm hB (by omega) (rc_dl_W n w) hd ?_
  have e := rx_cas (post := post) (c := nI m) (wd := wr) (fo := fo) hm hB (k + 1) (m - (k + 1)) (by omega) (rc_ca_W0 (b := k) hB (by omega) (rc_dl_W n w)) (rc_ca_len k 0 hd) h
  rw [show k + 1 + (m - (k + 1)) = m from by omega] at e
  exact e
theorem ry_idle_in {post : Int32 → SY → Prop} {J : ry_J} {x3 x4 x5 : Int32} {k : Nat} (hm : m ≤ 5) (hB : rc_B m R ks xs ys ss) (hk : k < m) : ∀ p a l mo ro ma, a + p = m → rc_W l → l.length ≤ 12 → rc_H l ro → (∀ (sz mo : Int32) (ro ma : Nat → Int32), (x5 = nI (rc_cd (rc_cw R k a p l)) → J (x4 + 1) (nI m) ln sz mo ks xs ys ss wd ro ma rs) ∧ (¬ x5 = nI (rc_cd (rc_cw R k a p l)) → post 0 (nI m, ln, sz, mo, ks, xs, ys, ss, wd, ro, ma, rs))) → wY_idle_59 post J (nI k) x3 x4 x5 (p + 1) (nI a) (nI m) ln (nI l.length) mo ks xs ys ss wd ro ma rs := by
  intro p
  induction p with
  | zero =>
    intro a l mo ro ma ha hW hl hR hp
    refine pk_le m a (fun _ => ry_cor hl hR ?_) (fun z => absurd z (by omega))
    have g := hp (nI l.length) mo ro ma
    exact ⟨fun z => nm_e (g.1 z), g.2⟩
  | succ p ih =>
    intro a l mo ro ma ha hW hl hR hp
    refine pk_le m a (fun z => absurd z (by omega)) (fun _ => pk_eq a k (fun e => nm_r (nI_1 a) ?_) (fun e => ?_))
    · refine ih (a + 1) l mo ro ma (by omega) hW hl hR ?_
      have g : rc_cw R k a (p + 1) l = rc_cw R k (a + 1) p l := by
        show rc_cw R k (a + 1) p (if a = k then l else rc_st (R a) l) = _
        rw [if_pos e]
      rw [g] at hp
      exact hp
    · refine ry_work (by omega) (hB a (by omega)) hW hl hR (fun mo' ro' ma' h => nm_r (nI_1 a) ?_)
      refine ih (a + 1) (rc_st (R a) l) mo' ro' ma' (by omega) (rc_st_W (rc_B_y hB (by omega)) hW) (rc_st_len _ _) h ?_
      have g : rc_cw R k a (p + 1) l = rc_cw R k (a + 1) p (rc_st (R a) l) := by
        show rc_cw R k (a + 1) p (if a = k then l else rc_st (R a) l) = _
        rw [if_neg e]
      rw [g] at hp
      exact hp
end
section
variable {ln : Int32} {kx xx yx sx fo ky xy yy sy wy rs : Nat → Int32} {R : Nat → rc_Ru} {m n k : Nat}
theorem rd_loop {g : Int32} (hm : m ≤ 5) (hX : rc_B m R kx xx yx sx) (hY : rc_B m R ky xy yy sy) (hn : n ≤ 5) (hk : k < m) : ∀ d w, w + d = 2 * 4 ^ n → 4 ^ n ≤ w → ∃ r : Int32, (∀ post : Int32 → Prop, post r → wX_idle_28 post (nI k) (nI (4 ^ n)) (nI m) g kx xx yx sx fo (d + 1) (nI w)) ∧ (∀ (post : Int32 → SY → Prop) (sz mo : Int32) (ro ma : Nat → Int32), (∀ (sz mo : Int32) (ro ma : Nat → Int32), post r (nI m, ln, sz, mo, ky, xy, yy, sy, wy, ro, ma, rs)) → wY_idle_34 post (nI k) (nI (4 ^ n)) (d + 1) (nI w) (nI m) ln sz mo ky xy yy sy wy ro ma rs) := by
  have hN := rc_N hn
  intro d
  induction d with
  | zero =>
    intro w hw h1
    exact ⟨1, fun post hp => pk_le (2 * 4 ^ n) w (fun _ => hp) (fun z => absurd z (by omega)) (hx := rx_2 _), fun post sz mo ro ma hp => pk_le (2 * 4 ^ n) w (fun _ => hp _ _ _ _) (fun z => absurd z (by omega)) (hx := rx_2 _)⟩
  | succ d ih =>
    intro w hw h1
    have h2 : w < 2 * 4 ^ n := by omega
    have hd : (rc_dl n w).length ≤ 12 := by rw [rc_dl_len]; omega
    have hdn : nI n = nI (rc_dl n w).length := by rw [rc_dl_len]
    by_cases e : nI (rc_re R m n w) = nI (rc_cd (rc_cw R k 0 m (rc_dl n w)))
    · obtain ⟨r, iX, iY⟩ := ih (w + 1) (by omega) (by omega)
      refine ⟨r, fun post hp => pk_le (2 * 4 ^ n) w (fun z => absurd z (by omega)) (fun _ => ?_) (hx := rx_2 _), fun post sz mo ro ma hp => pk_le (2 * 4 ^ n) w (fun z => absurd z (by omega)) (fun _ => ?_) (hx := rx_2 _)⟩
      · exact rx_re hm hX (by omega) h1 h2 (rx_without hm hX hn h1 h2 hk (br_t e (nm_r (nI_1 w) (iX post hp))))
      · refine ry_res hm hY (by omega) h1 h2 (fun sz' mo' ro' ma' => ry_spr (by omega) h1 h2 (fun ro'' h => ?_))
        rw [hdn]
        refine ⟨m + 1, ry_idle_in hm hY hk m 0 (rc_dl n w) mo' ro'' ma' (by omega) (rc_dl_W n w) hd h (fun sz mo ro ma => br_t e ?_)⟩
        rw [nI_1 w]
        exact iY post sz mo ro ma hp
    · refine ⟨0, fun post hp => pk_le (2 * 4 ^ n) w (fun z => absurd z (by omega)) (fun _ => ?_) (hx := rx_2 _), fun post sz mo ro ma hp => pk_le (2 * 4 ^ n) w (fun z => absurd z (by omega)) (fun _ => ?_) (hx := rx_2 _)⟩
      · exact rx_re hm hX (by omega) h1 h2 (rx_without hm hX hn h1 h2 hk (br_f e hp))
      · refine ry_res hm hY (by omega) h1 h2 (fun sz' mo' ro' ma' => ry_spr (by omega) h1 h2 (fun ro'' h => ?_))
        rw [hdn]
        exact ⟨m + 1, ry_idle_in hm hY hk m 0 (rc_dl n w) mo' ro'' ma' (by omega) (rc_dl_W n w) hd h (fun sz mo ro ma => br_f e (hp _ _ _ _))⟩
end
theorem i_vc_idle {k : Nat} {u : SX} {v : SY} (I : i_Rel k u v) (hk : k + 5 ≤ 2560) (v1 : Int32) (v2 : Int32) : wpX_idle (fun r => wpY_idle (fun r' v' => r' = r ∧ i_Rel (k + 5) u v') v v1 v2) u v1 v2 := by
  obtain ⟨m, R, t, kx, xx, yx, sx, fo, ky, xy, yy, sy, wy, ro, ma, rs, sz, mo, rfl, rfl, hm, hX, hY, hW, hl, hH⟩ := I
  unfold wpX_idle wpY_idle
  rcases rc_cls v1 with h | ⟨j, hj, rfl⟩
  · exact rx_rule_n h (br_t rfl (br_t h ⟨rfl, rc_mk hm hX hY hW hl hH⟩))
  by_cases hjm : j < m
  · refine rx_rule_t hm hjm (br_f (by decide) ?_)
    have go : ∀ {A B : Prop}, A → (nI j < nI m → A) ∧ (¬ nI j < nI m → B) := fun a => pk_lt j m (fun _ => a) (fun z => absurd z (by omega))
    rcases rc_n5 v2 with h | ⟨n, hn, rfl⟩
    · exact rx_al_f h (br_t rfl (br_f (nI_pos hj) (go (ry_ns_f h (br_f (by decide) ⟨rfl, rc_mk hm hX hY hW hl hH⟩)))))
    · obtain ⟨r, iX, iY⟩ := rd_loop (ln := nI t.length) (fo := fo) (wy := wy) (rs := rs) (g := nI (rc_cd t)) hm hX hY hn hjm (4 ^ n) (4 ^ n) (by omega) (Nat.le_refl _)
      refine rx_al_t hn (br_f (by decide) (rx_fw hn ⟨_, iX _ (br_f (nI_pos hj) (go (ry_ns_t hn (br_t rfl ?_))))⟩))
      exact ry_lst hn ⟨_, iY _ _ _ _ _ (fun _ _ _ _ => ⟨rfl, rc_mk hm hX hY hW hl hH⟩)⟩
  · exact rx_rule_f hm hjm hj (br_t rfl (br_f (nI_pos hj) (pk_lt j m (fun z => absurd z hjm) (fun _ => ⟨rfl, rc_mk hm hX hY hW hl hH⟩))))
end
section
section
variable {ln wr : Int32} {ks xs ys ss wd fo : Nat → Int32} {R : Nat → rc_Ru} {m n k : Nat}
theorem rc_ex_eq (R : Nat → rc_Ru) (hk : k + 1 < m) (l : List Nat) : rc_ca (rc_sR k R) 0 m l = rc_ca R (k + 2) (m - (k + 2)) (rc_ca R k 1 (rc_ca R (k + 1) 1 (rc_ca R 0 k l))) := by
  have e1 : rc_ca (rc_sR k R) 0 k l = rc_ca R 0 k l := rc_ca_congr k 0 l (fun r _ h2 => rc_sR_3 R (by omega) (by omega))
  have e2 : ∀ x, rc_ca (rc_sR k R) k 1 x = rc_ca R (k + 1) 1 x := fun x => by
    show rc_st (rc_sR k R k) x = rc_st (R (k + 1)) x
    rw [rc_sR_1]
  have e3 : ∀ x, rc_ca (rc_sR k R) (k + 1) 1 x = rc_ca R k 1 x := fun x => by
    show rc_st (rc_sR k R (k + 1)) x = rc_st (R k) x
    rw [rc_sR_2]
  have e4 : ∀ x, rc_ca (rc_sR k R) (k + 1 + 1) (m - (k + 2)) x = rc_ca R (k + 2) (m - (k + 2)) x := fun x => rc_ca_congr _ _ x (fun r h1 _ => rc_sR_3 R (by omega) (by omega))
  have em : m = k + (1 + (1 + (m - (k + 2)))) := by omega
  have e5 : rc_ca (rc_sR k R) 0 m l = rc_ca (rc_sR k R) 0 (k + (1 + (1 + (m - (k + 2))))) l := by rw [← em]
  rw [e5, rc_ca_add, rc_ca_add, rc_ca_add, Nat.zero_add, e4, e3, e2, e1]
theorem rx_exch {post : Int32 → Prop} {w : Nat} (hm : m ≤ 5) (hB : rc_B m R ks xs ys ss) (hn : n ≤ 5) (h1 : 4 ^ n ≤ w) (h2 : w < 2 * 4 ^ n) (hk : k + 1 < m) (h : post (nI (rc_re (rc_sR k R) m n w))) : wpX_cascadeExchanged post (nI m, wr, ks, xs, ys, ss, fo) (nI w) (nI k) := by
  have hd : (rc_dl n w).length ≤ 12 := by rw [rc_dl_len]; omega
  have hy : ∀ r, r < m → (R r).1 ≠ 1 → (R r).2.2.1 < 4 := fun r hr => rc_B_y hB hr
  have w0 := rc_dl_W n w
  have w1 : rc_W (rc_ca R 0 k (rc_dl n w)) := rc_ca_W k 0 (fun r _ z => hy r (by omega)) w0
  have w2 : rc_W (rc_ca R (k + 1) 1 (rc_ca R 0 k (rc_dl n w))) := rc_ca_W 1 (k + 1) (fun r _ z => hy r (by omega)) w1
  have w3 : rc_W (rc_ca R k 1 (rc_ca R (k + 1) 1 (rc_ca R 0 k (rc_dl n w)))) := rc_ca_W 1 k (fun r _ z => hy r (by omega)) w2
  have l1 := rc_ca_len (R := R) k 0 hd
  have l2 := rc_ca_len (R := R) 1 (k + 1) l1
  have l3 := rc_ca_len (R := R) 1 k l2
  rw [rc_re, rc_ex_eq R hk] at h
  unfold wpX_cascadeExchanged
  rw [nI_1 k, show nI k + 2 = nI (k + 2) from nI_add k 2, ← rc_dl_cd n w h1 h2]
  refine rx_cas0 hm hB (by omega) w0 hd ?_
  refine rx_cas hm hB (k + 1) 1 (by omega) w1 l1 ?_
  refine rx_cas hm hB k 1 (by omega) w2 l2 ?_
  have e := rx_cas (post := post) (c := nI m) (wd := wr) (fo := fo) hm hB (k + 2) (m - (k + 2)) (by omega) w3 l3 h
  rw [show k + 2 + (m - (k + 2)) = m from by omega] at e
  exact e
theorem rx_com_loop {post : Int32 → Prop} (hm : m ≤ 5) (hB : rc_B m R ks xs ys ss) (hn : n ≤ 5) (hk : k + 1 < m) : ∀ d w, w + d = 2 * 4 ^ n → 4 ^ n ≤ w → ((∀ v, w ≤ v → v < 2 * 4 ^ n → nI (rc_re R m n v) = nI (rc_re (rc_sR k R) m n v)) → post 1) → ((∃ v, w ≤ v ∧ v < 2 * 4 ^ n ∧ ¬ nI (rc_re R m n v) = nI (rc_re (rc_sR k R) m n v)) → post 0) → wX_commute_28 post (nI k) (nI (4 ^ n)) (nI m) wr ks xs ys ss fo (d + 1) (nI w) := by
  have hN := rc_N hn
  intro d
  induction d with
  | zero =>
    intro w hw h1 ha hx
    exact pk_le (2 * 4 ^ n) w (fun _ => ha (fun v a b => absurd b (by omega))) (fun z => absurd z (by omega)) (hx := rx_2 _)
  | succ d ih =>
    intro w hw h1 ha hx
    have h2 : w < 2 * 4 ^ n := by omega
    refine pk_le (2 * 4 ^ n) w (fun z => absurd z (by omega)) (fun _ => ?_) (hx := rx_2 _)
    refine rx_re hm hB (by omega) h1 h2 (rx_exch hm hB hn h1 h2 hk ?_)
    by_cases e : nI (rc_re R m n w) = nI (rc_re (rc_sR k R) m n w)
    · refine br_t e (nm_r (nI_1 w) (ih (w + 1) (by omega) (by omega) (fun g => ha (fun v a b => ?_)) (fun ⟨v, a, b, z⟩ => hx ⟨v, by omega, b, z⟩)))
      by_cases q : v = w
      · subst q
        exact e
      · exact g v (by omega) b
    · exact br_f e (hx ⟨w, Nat.le_refl w, h2, e⟩)
theorem ry_com2 {post : Int32 → SY → Prop} {Q : Nat → rc_Ru} {rs : Nat → Int32} (hm : m ≤ 5) (hB : rc_B m Q ks xs ys ss) (hn : n ≤ 5) (hk : k + 1 < m) (hr : ∀ v, 4 ^ n ≤ v → v < 2 * 4 ^ n → rs (v - 4 ^ n) = nI (rc_re R m n v)) : ∀ d w fl sz mo ro ma, w + d = 2 * 4 ^ n → 4 ^ n ≤ w → ((∀ v, w ≤ v → v < 2 * 4 ^ n → nI (rc_re R m n v) = nI (rc_re Q m n v)) → ∀ sz mo ro ma, post fl (nI m, ln, sz, mo, rc_sw k ks, rc_sw k xs, rc_sw k ys, rc_sw k ss, wd, ro, ma, rs)) → ((∃ v, w ≤ v ∧ v < 2 * 4 ^ n ∧ ¬ nI (rc_re R m n v) = nI (rc_re Q m n v)) → ∀ sz mo ro ma, post 0 (nI m, ln, sz, mo, rc_sw k ks, rc_sw k xs, rc_sw k ys, rc_sw k ss, wd, ro, ma, rs)) → wY_commute_71 post (nI k) (nI (4 ^ n)) (d + 1) fl (nI w) (nI m) ln sz mo ks xs ys ss wd ro ma rs := by
  have hN := rc_N hn
  intro d
  induction d with
  | zero =>
    intro w fl sz mo ro ma hw h1 ha hx
    exact pk_le (2 * 4 ^ n) w (fun _ => ry_swap hm hk (ha (fun v a b => absurd b (by omega)) _ _ _ _)) (fun z => absurd z (by omega)) (hx := rx_2 _)
  | succ d ih =>
    intro w fl sz mo ro ma hw h1 ha hx
    have h2 : w < 2 * 4 ^ n := by omega
    refine pk_le (2 * 4 ^ n) w (fun z => absurd z (by omega)) (fun _ => ?_) (hx := rx_2 _)
    refine ry_res hm hB (by omega) h1 h2 (fun sz' mo' ro' ma' => ?_)
    rw [pk_sub h1, nI_clamp (by omega)]
    dsimp only
    rw [hr w h1 h2]
    refine ⟨vp_in_nI (by omega) (by decide), ?_⟩
    by_cases e : nI (rc_re R m n w) = nI (rc_re Q m n w)
    · refine br_t e (nm_r (nI_1 w) (ih (w + 1) fl sz' mo' ro' ma' (by omega) (by omega) (fun g => ha (fun v a b => ?_)) (fun ⟨v, a, b, z⟩ => hx ⟨v, by omega, b, z⟩)))
      by_cases q : v = w
      · subst q
        exact e
      · exact g v (by omega) b
    · have g := hx ⟨w, Nat.le_refl w, h2, e⟩
      exact br_f e (nm_r (nI_1 w) (ih (w + 1) 0 sz' mo' ro' ma' (by omega) (by omega) (fun _ => g) (fun _ => g)))
theorem ry_com1 {post : Int32 → SY → Prop} (hm : m ≤ 5) (hB : rc_B m R ks xs ys ss) (hn : n ≤ 5) (hk : k + 1 < m) (hp : ∀ sz mo ro ma rs, (∀ v, 4 ^ n ≤ v → v < 2 * 4 ^ n → rs (v - 4 ^ n) = nI (rc_re R m n v)) → ∃ p, wY_commute_71 post (nI k) (nI (4 ^ n)) p 1 (nI (4 ^ n)) (nI m) ln sz mo (rc_sw k ks) (rc_sw k xs) (rc_sw k ys) (rc_sw k ss) wd ro ma rs) : ∀ d w sz mo ro ma rs, w + d = 2 * 4 ^ n → 4 ^ n ≤ w → (∀ v, 4 ^ n ≤ v → v < w → rs (v - 4 ^ n) = nI (rc_re R m n v)) → wY_commute_30 post (nI k) (nI (4 ^ n)) (d + 1) (nI w) (nI m) ln sz mo ks xs ys ss wd ro ma rs := by
  have hN := rc_N hn
  intro d
  induction d with
  | zero =>
    intro w sz mo ro ma rs hw h1 hr
    obtain rfl : w = 2 * 4 ^ n := by omega
    exact pk_le (2 * 4 ^ n) (2 * 4 ^ n) (fun _ => ry_swap hm hk (hp _ _ _ _ _ hr)) (fun z => absurd z (by omega)) (hx := rx_2 _)
  | succ d ih =>
    intro w sz mo ro ma rs hw h1 hr
    have h2 : w < 2 * 4 ^ n := by omega
    refine pk_le (2 * 4 ^ n) w (fun z => absurd z (by omega)) (fun _ => ?_) (hx := rx_2 _)
    refine ry_res hm hB (by omega) h1 h2 (fun sz' mo' ro' ma' => ?_)
    rw [pk_sub h1, nI_clamp (by omega)]
    refine ⟨vp_in_nI (by omega) (by decide), nm_e (nm_r (nI_1 w) (ih (w + 1) _ _ _ _ _ (by omega) (by omega) (fun v a b => ?_)))⟩
    by_cases q : v = w
    · subst q
      exact pk_us
    · rw [pk_un (by omega)]
      exact hr v a (by omega)
end
theorem i_vc_commute {k : Nat} {u : SX} {v : SY} (I : i_Rel k u v) (hk : k + 5 ≤ 2560) (v1 : Int32) (v2 : Int32) : wpX_commute (fun r => wpY_commute (fun r' v' => r' = r ∧ i_Rel (k + 5) u v') v v1 v2) u v1 v2 := by
  obtain ⟨m, R, t, kx, xx, yx, sx, fo, ky, xy, yy, sy, wy, ro, ma, rs, sz, mo, rfl, rfl, hm, hX, hY, hW, hl, hH⟩ := I
  unfold wpX_commute wpY_commute
  rcases rc_cls v1 with h | ⟨j, hj, rfl⟩
  · exact br_t h (br_t rfl (br_t h (br_f (by decide) ⟨rfl, rc_mk hm hX hY hW hl hH⟩)))
  refine br_f (nI_pos hj) (rc_pr hm hj (fun z => br_t rfl ?_) (fun z => br_f (by decide) ?_))
  · exact br_f (nI_pos hj) (rc_pr' hm hj (fun y => absurd y z) (fun _ => br_f (by decide) ⟨rfl, rc_mk hm hX hY hW hl hH⟩))
  have hS : rc_B m R (rc_sw j (rc_sw j ky)) (rc_sw j (rc_sw j xy)) (rc_sw j (rc_sw j yy)) (rc_sw j (rc_sw j sy)) := by
    have g := rc_B_swap (rc_B_swap hY z) z
    rw [rc_sR_sR] at g
    exact g
  rcases rc_n5 v2 with h | ⟨n, hn, rfl⟩
  · refine rx_al_f h (br_t rfl (br_f (nI_pos hj) (rc_pr' hm hj (fun _ => br_t rfl ?_) (fun y => absurd z y))))
    exact ry_ns_f h (br_f (by decide) ⟨rfl, rc_mk hm hX hY hW hl hH⟩)
  · refine rx_al_t hn (br_f (by decide) (rx_fw hn ⟨_, rx_com_loop hm hX hn z (4 ^ n) (4 ^ n) (by omega) (Nat.le_refl _) (fun ha => ?_) (fun hx => ?_)⟩))
    · refine br_f (nI_pos hj) (rc_pr' hm hj (fun _ => br_t rfl (ry_ns_t hn (br_t rfl (ry_lst hn ⟨_, ry_com1 hm hY hn z (fun sz mo ro ma rs hr => ?_) (4 ^ n) (4 ^ n) _ _ _ _ _ (by omega) (Nat.le_refl _) (fun v a b => absurd b (by omega))⟩)))) (fun y => absurd z y))
      exact ⟨_, ry_com2 hm (rc_B_swap hY z) hn z hr (4 ^ n) (4 ^ n) 1 sz mo ro ma (by omega) (Nat.le_refl _) (fun _ _ _ _ _ => ⟨rfl, rc_mk hm hX hS hW hl hH⟩) (fun ⟨v, a, b, q⟩ => absurd (ha v a b) q)⟩
    · refine br_f (nI_pos hj) (rc_pr' hm hj (fun _ => br_t rfl (ry_ns_t hn (br_t rfl (ry_lst hn ⟨_, ry_com1 hm hY hn z (fun sz mo ro ma rs hr => ?_) (4 ^ n) (4 ^ n) _ _ _ _ _ (by omega) (Nat.le_refl _) (fun v a b => absurd b (by omega))⟩)))) (fun y => absurd z y))
      exact ⟨_, ry_com2 hm (rc_B_swap hY z) hn z hr (4 ^ n) (4 ^ n) 1 sz mo ro ma (by omega) (Nat.le_refl _) (fun ha => by
        obtain ⟨v, a, b, q⟩ := hx
        exact absurd (ha v a b) q) (fun _ _ _ _ _ => ⟨rfl, rc_mk hm hX hS hW hl hH⟩)⟩
end
