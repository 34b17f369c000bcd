/-! rows pasted from kit/rows (PURE-ROWS): pk_us pk_un pk_m1 pk_mul pk_sub pk_div pk_rem pk_ix pk_least -/
theorem pk_us {f : Nat → Int32} {k : Nat} {x : Int32} : upd f k x k = x := if_pos rfl
theorem pk_un {f : Nat → Int32} {k j : Nat} {x : Int32} (h : j ≠ k) : upd f k x j = f j := if_neg h
theorem pk_uLs {f : Nat → Int64} {k : Nat} {x : Int64} : vp_updL f k x k = x := if_pos rfl
theorem pk_uLn {f : Nat → Int64} {k j : Nat} {x : Int64} (h : j ≠ k) : vp_updL f k x j = f j := if_neg h
theorem pk_sub {a b : Nat} (h : b ≤ a) : nI a - nI b = nI (a - b) := by
  obtain ⟨c, rfl⟩ : ∃ c, a = c + b := ⟨a - b, by omega⟩
  rw [← nI_add, Int32.add_sub_cancel, Nat.add_sub_cancel]
theorem pk_m1 (n : Nat) : nI (n + 1) + (-1) = nI n := by
  rw [← nI_1, Int32.add_assoc, show (1 : Int32) + (-1) = 0 from rfl, Int32.add_zero]
theorem pk_mul (a b : Nat) : nI a * nI b = nI (a * b) := (Int32.ofNat_mul a b).symm
theorem pk_div {a d : Nat} (ha : a < 2 ^ 31) (h0 : 0 < d) (hd : d < 2 ^ 31) : nI a / nI d = nI (a / d) := by
  apply Int32.toInt_inj.mp
  rw [lg_idiv_nonneg (by rw [nI_toInt ha]; omega) (by rw [nI_toInt hd]; omega), nI_toInt ha, nI_toInt hd, nI_toInt (Nat.lt_of_le_of_lt (Nat.div_le_self a d) ha)]
  first | rfl | exact (Int.natCast_ediv _ _).symm
theorem pk_rem {a d : Nat} (ha : a < 2 ^ 31) (h0 : 0 < d) (hd : d < 2 ^ 31) : nI a - nI a / nI d * nI d = nI (a % d) := by
  rw [pk_div ha h0 hd, pk_mul, pk_sub (Nat.div_mul_le_self a d)]
  exact congrArg nI (by have := Nat.div_add_mod' a d; omega)
theorem pk_ix (x : Int32) {n : Nat} (hn : n < 2 ^ 31) : x < 0 ∨ nI n ≤ x ∨ ∃ j : Nat, j < n ∧ x = nI j := by
  by_cases h : x < 0
  · exact Or.inl h
  · obtain ⟨j, hj, rfl⟩ := nI_of h
    by_cases h2 : j < n
    · exact Or.inr (Or.inr ⟨j, h2, rfl⟩)
    · exact Or.inr (Or.inl (nI_le (by omega) hj))
theorem pk_least (P : Nat → Prop) (h : ∃ k, P k) : ∃ k, P k ∧ ∀ j, j < k → ¬ P j := by
  obtain ⟨k, hk⟩ := h
  induction k using Nat.strongRecOn with
  | ind k ih =>
    by_cases e : ∃ j, j < k ∧ P j
    · obtain ⟨j, hj, pj⟩ := e
      exact ih j hj pj
    · exact ⟨k, hk, fun j hj pj => e ⟨j, hj, pj⟩⟩

/-! sums -/
def dv_sum (f : Nat → Int32) : Nat → Int32
  | 0 => 0
  | n + 1 => dv_sum f n + f n

/-! nets: one slot's part, then all slots below i -/
def dv_c1 (t s u m p v : Int32) : Int32 := if t = 0 then v else if s = p then v + m else if u = p then v - m else v
def dv_h1 (t s u c m p x v : Int32) : Int32 := if t = 0 then v else if c = x then (if s = p then v - m else if u = p then v + m else v) else v
def dv_nc (ca b se bu am : Nat → Int32) (p : Nat) : Nat → Int32
  | 0 => ca p
  | i + 1 => dv_c1 (b i) (se i) (bu i) (am i) (nI p) (dv_nc ca b se bu am p i)
def dv_nh (ho b se bu sc qt : Nat → Int32) (p s : Nat) : Nat → Int32
  | 0 => ho (p * 4 + s)
  | i + 1 => dv_h1 (b i) (se i) (bu i) (sc i) (qt i) (nI p) (nI s) (dv_nh ho b se bu sc qt p s i)
theorem dv_c1_0 {t s u m p v : Int32} (h : t = 0) : dv_c1 t s u m p v = v := if_pos h
theorem dv_h1_0 {t s u c m p x v : Int32} (h : t = 0) : dv_h1 t s u c m p x v = v := if_pos h
theorem dv_nc_s (ca b se bu am : Nat → Int32) (p i : Nat) : dv_nc ca b se bu am p (i + 1) = dv_c1 (b i) (se i) (bu i) (am i) (nI p) (dv_nc ca b se bu am p i) := rfl
theorem dv_nh_s (ho b se bu sc qt : Nat → Int32) (p s i : Nat) : dv_nh ho b se bu sc qt p s (i + 1) = dv_h1 (b i) (se i) (bu i) (sc i) (qt i) (nI p) (nI s) (dv_nh ho b se bu sc qt p s i) := rfl
theorem dv_nc_congr {ca b se bu am se' bu' am' : Nat → Int32} (h : ∀ j, b j ≠ 0 → se j = se' j ∧ bu j = bu' j ∧ am j = am' j) (p : Nat) : ∀ i, dv_nc ca b se bu am p i = dv_nc ca b se' bu' am' p i := by
  intro i
  induction i with
  | zero => rfl
  | succ i ih =>
    rw [dv_nc_s, dv_nc_s, ih]
    by_cases z : b i = 0
    · rw [dv_c1_0 z, dv_c1_0 z]
    · obtain ⟨e1, e2, e3⟩ := h i z
      rw [e1, e2, e3]
theorem dv_nh_congr {ho b se bu sc qt se' bu' sc' qt' : Nat → Int32} (h : ∀ j, b j ≠ 0 → se j = se' j ∧ bu j = bu' j ∧ sc j = sc' j ∧ qt j = qt' j) (p s : Nat) : ∀ i, dv_nh ho b se bu sc qt p s i = dv_nh ho b se' bu' sc' qt' p s i := by
  intro i
  induction i with
  | zero => rfl
  | succ i ih =>
    rw [dv_nh_s, dv_nh_s, ih]
    by_cases z : b i = 0
    · rw [dv_h1_0 z, dv_h1_0 z]
    · obtain ⟨e1, e2, e3, e4⟩ := h i z
      rw [e1, e2, e3, e4]
theorem dv_nc_upd {a : Nat → Int32} {A B p : Nat} (hAB : A ≠ B) (hA : A < 8) (hB : B < 8) (hp : p < 8) (m : Int32) {t : Int32} (ht : t ≠ 0) :
    upd (upd a A (a A + m)) B ((upd a A (a A + m)) B - m) p = dv_c1 t (nI A) (nI B) m (nI p) (a p) := by
  unfold dv_c1
  rw [if_neg ht]
  by_cases h1 : A = p
  · subst h1
    rw [if_pos rfl, pk_un hAB, pk_us]
  · rw [if_neg (fun e => h1 ((nI_eq (by omega) (by omega)).mp e))]
    by_cases h2 : B = p
    · subst h2
      rw [if_pos rfl, pk_us, pk_un (Ne.symm hAB)]
    · rw [if_neg (fun e => h2 ((nI_eq (by omega) (by omega)).mp e)), pk_un (Ne.symm h2), pk_un (Ne.symm h1)]
theorem dv_nh_upd {a : Nat → Int32} {A B C p s : Nat} (hAB : A ≠ B) (hA : A < 8) (hB : B < 8) (hC : C < 4) (hp : p < 8) (hs : s < 4) (q : Int32) {t : Int32} (ht : t ≠ 0) :
    upd (upd a (A * 4 + C) (a (A * 4 + C) - q)) (B * 4 + C) ((upd a (A * 4 + C) (a (A * 4 + C) - q)) (B * 4 + C) + q) (p * 4 + s) = dv_h1 t (nI A) (nI B) (nI C) q (nI p) (nI s) (a (p * 4 + s)) := by
  unfold dv_h1
  rw [if_neg ht]
  by_cases hc : C = s
  · subst hc
    rw [if_pos rfl]
    by_cases h1 : A = p
    · subst h1
      rw [if_pos rfl, pk_un (by omega), pk_us]
    · rw [if_neg (fun e => h1 ((nI_eq (by omega) (by omega)).mp e))]
      by_cases h2 : B = p
      · subst h2
        rw [if_pos rfl, pk_us, pk_un (by omega)]
      · rw [if_neg (fun e => h2 ((nI_eq (by omega) (by omega)).mp e)), pk_un (by omega), pk_un (by omega)]
  · rw [if_neg (fun e => hc ((nI_eq (by omega) (by omega)).mp e)), pk_un (by omega), pk_un (by omega)]
/-- the slots in the batch are valid -/
def dv_Val (np ns : Nat) (b se bu sc : Nat → Int32) : Prop := ∀ j, b j ≠ 0 → ∃ A B C : Nat, A < np ∧ B < np ∧ C < ns ∧ A ≠ B ∧ se j = nI A ∧ bu j = nI B ∧ sc j = nI C
theorem dv_nc_out {np ns : Nat} {ca b se bu sc am : Nat → Int32} (hn : np ≤ 8) (hV : dv_Val np ns b se bu sc) {p : Nat} (hp : np ≤ p) (h8 : p < 8) : ∀ i, dv_nc ca b se bu am p i = ca p := by
  intro i
  induction i with
  | zero => rfl
  | succ i ih =>
    rw [dv_nc_s, ih]
    by_cases z : b i = 0
    · rw [dv_c1_0 z]
    · obtain ⟨A, B, C, hA, hB, hC, hAB, e1, e2, e3⟩ := hV i z
      unfold dv_c1
      rw [if_neg z, e1, e2, if_neg (fun e => absurd ((nI_eq (by omega) (by omega)).mp e) (by omega)), if_neg (fun e => absurd ((nI_eq (by omega) (by omega)).mp e) (by omega))]
theorem dv_nh_out {np ns : Nat} {ho b se bu sc qt : Nat → Int32} (hn : np ≤ 8) (hs4 : ns ≤ 4) (hV : dv_Val np ns b se bu sc) {p s : Nat} (hp : np ≤ p ∨ ns ≤ s) (h8 : p < 8) (h4 : s < 4) : ∀ i, dv_nh ho b se bu sc qt p s i = ho (p * 4 + s) := by
  intro i
  induction i with
  | zero => rfl
  | succ i ih =>
    rw [dv_nh_s, ih]
    by_cases z : b i = 0
    · rw [dv_h1_0 z]
    · obtain ⟨A, B, C, hA, hB, hC, hAB, e1, e2, e3⟩ := hV i z
      unfold dv_h1
      rw [if_neg z, e1, e2, e3]
      by_cases hc : C = s
      · subst hc
        rw [if_pos rfl, if_neg (fun e => absurd ((nI_eq (by omega) (by omega)).mp e) (by omega)), if_neg (fun e => absurd ((nI_eq (by omega) (by omega)).mp e) (by omega))]
      · rw [if_neg (fun e => hc ((nI_eq (by omega) (by omega)).mp e))]

/-! deficits, the debtor -/
def dv_sf (v : Int32) : Int32 := if v < 0 then -v else 0
def dv_df (nc : Int32) (nh : Nat → Int32) : Nat → Int32
  | 0 => dv_sf nc
  | s + 1 => dv_df nc nh s + dv_sf (nh s)
theorem dv_df_congr {nc : Int32} {f g : Nat → Int32} {n : Nat} (h : ∀ s, s < n → f s = g s) : dv_df nc f n = dv_df nc g n := by
  induction n with
  | zero => rfl
  | succ n ih =>
    show dv_df nc f n + dv_sf (f n) = dv_df nc g n + dv_sf (g n)
    rw [ih (fun s hs => h s (by omega)), h n (by omega)]
theorem dv_sf_n {v : Int32} (h : v < 0) : dv_sf v = -v := if_pos h
theorem dv_sf_p {v : Int32} (h : ¬ v < 0) : dv_sf v = 0 := if_neg h
def dv_db (df : Nat → Int32) : Nat → Int32 × Int32
  | 0 => (-1, 0)
  | p + 1 => if df p ≤ (dv_db df p).2 then dv_db df p else (nI p, df p)
theorem dv_db_congr {f g : Nat → Int32} {n : Nat} (h : ∀ p, p < n → f p = g p) : dv_db f n = dv_db g n := by
  induction n with
  | zero => rfl
  | succ n ih =>
    show (if f n ≤ (dv_db f n).2 then dv_db f n else (nI n, f n)) = (if g n ≤ (dv_db g n).2 then dv_db g n else (nI n, g n))
    rw [ih (fun s hs => h s (by omega)), h n (by omega)]
theorem dv_db_in (f : Nat → Int32) (n : Nat) : (dv_db f n).1 = -1 ∨ ∃ j, j < n ∧ (dv_db f n).1 = nI j := by
  induction n with
  | zero => exact Or.inl rfl
  | succ n ih =>
    by_cases h : f n ≤ (dv_db f n).2
    · have e : dv_db f (n + 1) = dv_db f n := if_pos h
      rw [e]
      rcases ih with h1 | ⟨j, hj, h1⟩
      · exact Or.inl h1
      · exact Or.inr ⟨j, by omega, h1⟩
    · have e : dv_db f (n + 1) = (nI n, f n) := if_neg h
      rw [e]
      exact Or.inr ⟨n, by omega, rfl⟩

/-! the pick -/
def dv_pk (b : Nat → Int32) (ok : Nat → Bool) (sq : Nat → Int64) : Nat → Int32
  | 0 => -1
  | i + 1 => if b i ≠ 0 ∧ ok i = true ∧ (dv_pk b ok sq i = -1 ∨ sq (dv_pk b ok sq i).toNatClampNeg < sq i) then nI i else dv_pk b ok sq i
theorem dv_pk_y {b : Nat → Int32} {ok : Nat → Bool} {sq : Nat → Int64} {i : Nat} (h : b i ≠ 0 ∧ ok i = true ∧ (dv_pk b ok sq i = -1 ∨ sq (dv_pk b ok sq i).toNatClampNeg < sq i)) : dv_pk b ok sq (i + 1) = nI i := if_pos h
theorem dv_pk_n {b : Nat → Int32} {ok : Nat → Bool} {sq : Nat → Int64} {i : Nat} (h : ¬ (b i ≠ 0 ∧ ok i = true ∧ (dv_pk b ok sq i = -1 ∨ sq (dv_pk b ok sq i).toNatClampNeg < sq i))) : dv_pk b ok sq (i + 1) = dv_pk b ok sq i := if_neg h
theorem dv_pk_in (b : Nat → Int32) (ok : Nat → Bool) (sq : Nat → Int64) (n : Nat) : dv_pk b ok sq n = -1 ∨ ∃ j, j < n ∧ dv_pk b ok sq n = nI j ∧ b j ≠ 0 := by
  induction n with
  | zero => exact Or.inl rfl
  | succ n ih =>
    by_cases h : b n ≠ 0 ∧ ok n = true ∧ (dv_pk b ok sq n = -1 ∨ sq (dv_pk b ok sq n).toNatClampNeg < sq n)
    · exact Or.inr ⟨n, by omega, dv_pk_y h, h.1⟩
    · rw [dv_pk_n h]
      rcases ih with h1 | ⟨j, hj, h1⟩
      · exact Or.inl h1
      · exact Or.inr ⟨j, by omega, h1⟩
theorem dv_pk_congr {b : Nat → Int32} {ok ok' : Nat → Bool} {sq sq' : Nat → Int64} {n : Nat} (hn : n < 2 ^ 31) (h : ∀ j, j < n → b j ≠ 0 → ok j = ok' j ∧ sq j = sq' j) : dv_pk b ok sq n = dv_pk b ok' sq' n := by
  induction n with
  | zero => rfl
  | succ n ih =>
    have ih' := ih (by omega) (fun j hj => h j (by omega))
    by_cases z : b n = 0
    · rw [dv_pk_n (fun e => e.1 z), dv_pk_n (fun e => e.1 z), ih']
    · obtain ⟨e1, e2⟩ := h n (by omega) z
      have e3 : (dv_pk b ok sq n = -1 ∨ sq (dv_pk b ok sq n).toNatClampNeg < sq n) ↔ (dv_pk b ok' sq' n = -1 ∨ sq' (dv_pk b ok' sq' n).toNatClampNeg < sq' n) := by
        rw [ih', e2]
        rcases dv_pk_in b ok' sq' n with h1 | ⟨j, hj, h1, h2⟩
        · exact ⟨fun _ => Or.inl h1, fun _ => Or.inl h1⟩
        · rw [h1, nI_clamp (by omega), (h j (by omega) h2).2]
      by_cases c : b n ≠ 0 ∧ ok n = true ∧ (dv_pk b ok sq n = -1 ∨ sq (dv_pk b ok sq n).toNatClampNeg < sq n)
      · rw [dv_pk_y c, dv_pk_y ⟨c.1, by rw [← e1]; exact c.2.1, e3.mp c.2.2⟩]
      · rw [dv_pk_n c, dv_pk_n (fun d => c ⟨d.1, by rw [e1]; exact d.2.1, e3.mpr d.2.2⟩), ih']

/-! how many are in the batch -/
def dv_cn (b : Nat → Int32) : Nat → Nat
  | 0 => 0
  | n + 1 => dv_cn b n + (if b n = 0 then 0 else 1)
theorem dv_cn_s0 {b : Nat → Int32} {n : Nat} (h : b n = 0) : dv_cn b (n + 1) = dv_cn b n := by
  show dv_cn b n + (if b n = 0 then 0 else 1) = _
  rw [if_pos h, Nat.add_zero]
theorem dv_cn_s1 {b : Nat → Int32} {n : Nat} (h : b n ≠ 0) : dv_cn b (n + 1) = dv_cn b n + 1 := by
  show dv_cn b n + (if b n = 0 then 0 else 1) = _
  rw [if_neg h]
theorem dv_cn_le (b : Nat → Int32) (n : Nat) : dv_cn b n ≤ n := by
  induction n with
  | zero => exact Nat.le_refl 0
  | succ n ih =>
    by_cases h : b n = 0
    · rw [dv_cn_s0 h]; omega
    · rw [dv_cn_s1 h]; omega
theorem dv_cn_congr {b c : Nat → Int32} {n : Nat} (h : ∀ j, j < n → b j = c j) : dv_cn b n = dv_cn c n := by
  induction n with
  | zero => rfl
  | succ n ih =>
    show dv_cn b n + (if b n = 0 then 0 else 1) = dv_cn c n + (if c n = 0 then 0 else 1)
    rw [ih (fun j hj => h j (by omega)), h n (by omega)]
theorem dv_cn_upd {b : Nat → Int32} {j : Nat} (hb : b j ≠ 0) : ∀ n, j < n → dv_cn (upd b j 0) n + 1 = dv_cn b n := by
  intro n
  induction n with
  | zero => intro h; omega
  | succ n ih =>
    intro h
    by_cases e : j = n
    · subst e
      rw [dv_cn_s0 pk_us, dv_cn_s1 hb, dv_cn_congr (b := upd b j 0) (c := b) (fun i hi => pk_un (by omega))]
    · have ih' := ih (by omega)
      by_cases z : b n = 0
      · rw [dv_cn_s0 z, dv_cn_s0 (by rw [pk_un (Ne.symm e)]; exact z)]; exact ih'
      · rw [dv_cn_s1 z, dv_cn_s1 (by rw [pk_un (Ne.symm e)]; exact z)]; omega
theorem dv_cn_zero {b : Nat → Int32} : ∀ n, dv_cn b n = 0 → ∀ j, j < n → b j = 0 := by
  intro n
  induction n with
  | zero => intro _ j hj; omega
  | succ n ih =>
    intro h j hj
    by_cases z : b n = 0
    · rw [dv_cn_s0 z] at h
      by_cases e : j = n
      · rw [e]; exact z
      · exact ih h j (by omega)
    · rw [dv_cn_s1 z] at h; omega

/-! marking a batch -/
def dv_mk (b f : Nat → Int32) (x : Int32) (n : Nat) : Nat → Int32 := fun j => if j < n ∧ b j ≠ 0 then x else f j
theorem dv_mk_0 (b f : Nat → Int32) (x : Int32) : dv_mk b f x 0 = f := by
  funext j
  exact if_neg (fun h => absurd h.1 (by omega))
theorem dv_mk_y {b f : Nat → Int32} {x : Int32} {i : Nat} (h : b i ≠ 0) : upd (dv_mk b f x i) i x = dv_mk b f x (i + 1) := by
  funext j
  by_cases e : j = i
  · subst e
    rw [pk_us]
    exact (if_pos ⟨by omega, h⟩).symm
  · rw [pk_un e]
    show (if _ then _ else _) = (if _ then _ else _)
    by_cases c : j < i ∧ b j ≠ 0
    · rw [if_pos c, if_pos ⟨by omega, c.2⟩]
    · rw [if_neg c, if_neg (fun d => c ⟨by omega, d.2⟩)]
theorem dv_mk_n {b f : Nat → Int32} {x : Int32} {i : Nat} (h : b i = 0) : dv_mk b f x (i + 1) = dv_mk b f x i := by
  funext j
  show (if _ then _ else _) = (if _ then _ else _)
  by_cases c : j < i ∧ b j ≠ 0
  · rw [if_pos c, if_pos ⟨by omega, c.2⟩]
  · have n : ¬ (j < i + 1 ∧ b j ≠ 0) := by
      intro d
      by_cases e : j = i
      · rw [e] at d; exact d.2 h
      · exact c ⟨by omega, d.2⟩
    rw [if_neg c, if_neg n]

/-! recycling the removed -/
def dv_at (rm at0 : Nat → Int32) : Nat → (Nat → Int32)
  | 0 => at0
  | k + 1 => upd (dv_at rm at0 k) (rm k).toNatClampNeg (dv_at rm at0 k (rm k).toNatClampNeg + 1)
def dv_fs (rm at0 st : Nat → Int32) (mr : Int32) : Nat → (Nat → Int32)
  | 0 => st
  | k + 1 => if dv_at rm at0 (k + 1) (rm k).toNatClampNeg < mr then dv_fs rm at0 st mr k else upd (dv_fs rm at0 st mr k) (rm k).toNatClampNeg 4
theorem dv_at_congr {rm f g : Nat → Int32} {j : Nat} (h : f j = g j) : ∀ k, dv_at rm f k j = dv_at rm g k j := by
  intro k
  induction k with
  | zero => exact h
  | succ k ih =>
    show upd _ _ _ j = upd _ _ _ j
    by_cases e : j = (rm k).toNatClampNeg
    · rw [e] at ih ⊢
      rw [pk_us, pk_us, ih]
    · rw [pk_un e, pk_un e, ih]
theorem dv_fs_congr {rm f g st : Nat → Int32} {mr : Int32} {n : Nat} (h : ∀ k, k < n → f (rm k).toNatClampNeg = g (rm k).toNatClampNeg) : dv_fs rm f st mr n = dv_fs rm g st mr n := by
  induction n with
  | zero => rfl
  | succ n ih =>
    show (if _ then _ else _) = (if _ then _ else _)
    rw [ih (fun k hk => h k (by omega)), dv_at_congr (h n (by omega)) (n + 1)]
theorem dv_fs_or (rm f st : Nat → Int32) (mr : Int32) (j : Nat) : ∀ n, dv_fs rm f st mr n j = st j ∨ (dv_fs rm f st mr n j = 4 ∧ ∃ k, k < n ∧ j = (rm k).toNatClampNeg) := by
  intro n
  induction n with
  | zero => exact Or.inl rfl
  | succ n ih =>
    have ih' : dv_fs rm f st mr n j = st j ∨ (dv_fs rm f st mr n j = 4 ∧ ∃ k, k < n + 1 ∧ j = (rm k).toNatClampNeg) := by
      rcases ih with h | ⟨h, k, hk, e⟩
      · exact Or.inl h
      · exact Or.inr ⟨h, k, by omega, e⟩
    by_cases c : dv_at rm f (n + 1) (rm n).toNatClampNeg < mr
    · have e : dv_fs rm f st mr (n + 1) = dv_fs rm f st mr n := if_pos c
      rw [e]; exact ih'
    · have e : dv_fs rm f st mr (n + 1) = upd (dv_fs rm f st mr n) (rm n).toNatClampNeg 4 := if_neg c
      rw [e]
      by_cases z : j = (rm n).toNatClampNeg
      · refine Or.inr ⟨?_, n, by omega, z⟩
        rw [z]; exact pk_us
      · rw [pk_un z]; exact ih'

/-! leaves of one slot's part -/
theorem dv_c1_s {t s u m p v : Int32} (h : t ≠ 0) (hs : s = p) : dv_c1 t s u m p v = v + m := by unfold dv_c1; rw [if_neg h, if_pos hs]
theorem dv_c1_b {t s u m p v : Int32} (h : t ≠ 0) (hs : s ≠ p) (hu : u = p) : dv_c1 t s u m p v = v - m := by unfold dv_c1; rw [if_neg h, if_neg hs, if_pos hu]
theorem dv_c1_n {t s u m p v : Int32} (hs : s ≠ p) (hu : u ≠ p) : dv_c1 t s u m p v = v := by
  unfold dv_c1
  by_cases h : t = 0
  · rw [if_pos h]
  · rw [if_neg h, if_neg hs, if_neg hu]
theorem dv_h1_c {t s u c m p x v : Int32} (hc : c ≠ x) : dv_h1 t s u c m p x v = v := by
  unfold dv_h1
  by_cases h : t = 0
  · rw [if_pos h]
  · rw [if_neg h, if_neg hc]
theorem dv_h1_s {t s u c m p x v : Int32} (h : t ≠ 0) (hc : c = x) (hs : s = p) : dv_h1 t s u c m p x v = v - m := by unfold dv_h1; rw [if_neg h, if_pos hc, if_pos hs]
theorem dv_h1_b {t s u c m p x v : Int32} (h : t ≠ 0) (hc : c = x) (hs : s ≠ p) (hu : u = p) : dv_h1 t s u c m p x v = v + m := by unfold dv_h1; rw [if_neg h, if_pos hc, if_neg hs, if_pos hu]
theorem dv_h1_n {t s u c m p x v : Int32} (hs : s ≠ p) (hu : u ≠ p) : dv_h1 t s u c m p x v = v := by
  unfold dv_h1
  by_cases h : t = 0
  · rw [if_pos h]
  · by_cases hc : c = x
    · rw [if_neg h, if_pos hc, if_neg hs, if_neg hu]
    · rw [if_neg h, if_neg hc]
/-! the reference's way of adding a shortfall -/
theorem dv_y0 {v : Int32} (h : v < 0) : 0 - v = dv_sf v := by rw [dv_sf_n h, Int32.zero_sub]
theorem dv_y1 {d v : Int32} (h : v < 0) : d - v = d + dv_sf v := by rw [dv_sf_n h, Int32.sub_eq_add_neg]
theorem dv_y2 {d v : Int32} (h : ¬ v < 0) : d = d + dv_sf v := by rw [dv_sf_p h, Int32.add_zero]
/-! indices -/
theorem dv_4 : (4 : Int32) = nI 4 := by decide +kernel
theorem dv_hx (p s : Nat) : nI p * 4 + nI s = nI (p * 4 + s) := by rw [dv_4, pk_mul, nI_add]
theorem dv_nlt {p : Int32} {n : Nat} (h : nI n ≤ p) : ¬ p < nI n := fun e => Int32.not_lt.mpr h e
theorem dv_ff {α : Nat → Prop} {n : Nat} (h : ∀ j, j < n → α j) {j : Nat} (hj : j < n) : α j := h j hj
/-- the batch at the start of a cycle -/
def dv_bt (st : Nat → Int32) (cp : Nat) : Nat → Int32 := fun j => if j < cp ∧ st j = 1 then 1 else 0
/-- may this slot be removed for the debtor d, whose net cash is nc and net holdings nh -/
def dv_ok (d nc : Int32) (nh : Nat → Int32) (se bu sc am : Nat → Int32) (i : Nat) : Bool :=
  if bu i = d then decide (0 < am i) && decide (nc < 0) else decide (se i = d) && decide (nh (sc i).toNatClampNeg < 0)
theorem dv_ok_congr {d nc : Int32} {nh nh' se bu sc am se' bu' sc' am' : Nat → Int32} {i : Nat} (e1 : se i = se' i) (e2 : bu i = bu' i) (e3 : sc i = sc' i) (e4 : am i = am' i) (e5 : nh (sc' i).toNatClampNeg = nh' (sc' i).toNatClampNeg) :
    dv_ok d nc nh se bu sc am i = dv_ok d nc nh' se' bu' sc' am' i := by
  unfold dv_ok
  rw [e1, e2, e3, e4, e5]
/-- the debtor and the pick as functions of the batch -/
def dv_D (np ns cp : Nat) (ca ho se bu sc qt am b : Nat → Int32) : Int32 :=
  (dv_db (fun p => dv_df (dv_nc ca b se bu am p cp) (fun s => dv_nh ho b se bu sc qt p s cp) ns) np).1
def dv_P (cp : Nat) (ca ho se bu sc qt am : Nat → Int32) (sq : Nat → Int64) (d : Int32) (b : Nat → Int32) : Int32 :=
  dv_pk b (dv_ok d (dv_nc ca b se bu am d.toNatClampNeg cp) (fun s => dv_nh ho b se bu sc qt d.toNatClampNeg s cp) se bu sc am) sq cp
theorem dv_D_congr {np ns cp : Nat} {ca ho b se bu sc qt am se' bu' sc' qt' am' : Nat → Int32} (h : ∀ j, b j ≠ 0 → se j = se' j ∧ bu j = bu' j ∧ sc j = sc' j ∧ qt j = qt' j ∧ am j = am' j) :
    dv_D np ns cp ca ho se bu sc qt am b = dv_D np ns cp ca ho se' bu' sc' qt' am' b := by
  unfold dv_D
  refine congrArg Prod.fst (dv_db_congr (fun p _ => ?_))
  show dv_df _ _ ns = dv_df _ _ ns
  rw [dv_nc_congr (fun j hj => ⟨(h j hj).1, (h j hj).2.1, (h j hj).2.2.2.2⟩) p cp]
  exact dv_df_congr (fun s _ => dv_nh_congr (fun j hj => ⟨(h j hj).1, (h j hj).2.1, (h j hj).2.2.1, (h j hj).2.2.2.1⟩) p s cp)
theorem dv_P_congr {cp : Nat} (hcp : cp < 2 ^ 31) {ca ho b se bu sc qt am se' bu' sc' qt' am' : Nat → Int32} {sq sq' : Nat → Int64} {d : Int32} (h : ∀ j, b j ≠ 0 → se j = se' j ∧ bu j = bu' j ∧ sc j = sc' j ∧ qt j = qt' j ∧ am j = am' j ∧ sq j = sq' j) :
    dv_P cp ca ho se bu sc qt am sq d b = dv_P cp ca ho se' bu' sc' qt' am' sq' d b := by
  unfold dv_P
  refine dv_pk_congr hcp (fun j _ hj => ?_)
  obtain ⟨e1, e2, e3, e4, e5, e6⟩ := h j hj
  refine ⟨?_, e6⟩
  rw [dv_nc_congr (fun i hi => ⟨(h i hi).1, (h i hi).2.1, (h i hi).2.2.2.2.1⟩) d.toNatClampNeg cp]
  exact dv_ok_congr e1 e2 e3 e5 (dv_nh_congr (fun i hi => ⟨(h i hi).1, (h i hi).2.1, (h i hi).2.2.1, (h i hi).2.2.2.1⟩) _ _ cp)

/-! copying -/
def dv_cpy (f g : Nat → Int32) (n : Nat) : Nat → Int32 := fun j => if j < n then f j else g j
theorem dv_cpy_0 (f g : Nat → Int32) : dv_cpy f g 0 = g := by
  funext j
  exact if_neg (by omega)
theorem dv_cpy_s (f g : Nat → Int32) (i : Nat) : upd (dv_cpy f g i) i (f i) = dv_cpy f g (i + 1) := by
  funext j
  by_cases e : j = i
  · subst e
    rw [pk_us]
    exact (if_pos (by omega)).symm
  · rw [pk_un e]
    show (if _ then _ else _) = (if _ then _ else _)
    by_cases c : j < i
    · rw [if_pos c, if_pos (by omega)]
    · rw [if_neg c, if_neg (by omega)]
theorem dv_cpy_lt {f g : Nat → Int32} {n j : Nat} (h : j < n) : dv_cpy f g n j = f j := if_pos h
theorem dv_cpy_ge {f g : Nat → Int32} {n j : Nat} (h : ¬ j < n) : dv_cpy f g n j = g j := if_neg h

/-! the reference's table of new holdings, as it is filled -/
def dv_Hs (NH : Nat → Nat → Int32) (y0 : Nat → Int32) (ns p s : Nat) (nh : Nat → Int32) : Prop :=
  ∀ p' s', s' < 4 → nh (p' * 4 + s') = if (p' < p ∨ (p' = p ∧ s' < s)) ∧ s' < ns then NH p' s' else y0 (p' * 4 + s')
theorem dv_Hs_0 (NH : Nat → Nat → Int32) (y0 : Nat → Int32) (ns : Nat) : dv_Hs NH y0 ns 0 0 y0 := by
  intro p' s' h
  rw [if_neg (by omega)]
theorem dv_Hs_s {NH : Nat → Nat → Int32} {y0 nh : Nat → Int32} {ns p s : Nat} (hs : s < ns) (h4 : ns ≤ 4) (h : dv_Hs NH y0 ns p s nh) : dv_Hs NH y0 ns p (s + 1) (upd nh (p * 4 + s) (NH p s)) := by
  intro p' s' h'
  by_cases e : p' = p ∧ s' = s
  · obtain ⟨rfl, rfl⟩ := e
    rw [pk_us, if_pos (by omega)]
  · rw [pk_un (by omega), h p' s' h']
    by_cases c : (p' < p ∨ (p' = p ∧ s' < s)) ∧ s' < ns
    · rw [if_pos c, if_pos (by omega)]
    · rw [if_neg c, if_neg (by omega)]
theorem dv_Hs_n {NH : Nat → Nat → Int32} {y0 nh : Nat → Int32} {ns p : Nat} (h : dv_Hs NH y0 ns p ns nh) : dv_Hs NH y0 ns (p + 1) 0 nh := by
  intro p' s' h'
  rw [h p' s' h']
  by_cases c : (p' < p ∨ (p' = p ∧ s' < ns)) ∧ s' < ns
  · rw [if_pos c, if_pos (by omega)]
  · rw [if_neg c, if_neg (by omega)]

/-! what is done (neither empty nor queued) -/
def dv_dn (st : Nat → Int32) : Nat → Int32 := fun j => if st j = 0 ∨ st j = 1 then 0 else 1
theorem dv_dn_n {st : Nat → Int32} {j : Nat} (h : st j = 0 ∨ st j = 1) : dv_dn st j = 0 := if_pos h
theorem dv_dn_y {st : Nat → Int32} {j : Nat} (h0 : st j ≠ 0) (h1 : st j ≠ 1) : dv_dn st j ≠ 0 := by
  have e : dv_dn st j = 1 := if_neg (by intro h; rcases h with h | h; exact h0 h; exact h1 h)
  rw [e]; decide
theorem dv_mk_at (b f : Nat → Int32) (x : Int32) (i : Nat) : dv_mk b f x i i = f i := if_neg (fun h => absurd h.1 (by omega))
theorem dv_mk_no {b f : Nat → Int32} {x : Int32} {n j : Nat} (h : ¬ (j < n ∧ b j ≠ 0)) : dv_mk b f x n j = f j := if_neg h
theorem dv_mk_ye {b f : Nat → Int32} {x : Int32} {n j : Nat} (h : j < n ∧ b j ≠ 0) : dv_mk b f x n j = x := if_pos h
def dv_mkL (b : Nat → Int32) (f : Nat → Int64) (x : Int64) (n : Nat) : Nat → Int64 := fun j => if j < n ∧ b j ≠ 0 then x else f j
theorem dv_mkL_0 (b : Nat → Int32) (f : Nat → Int64) (x : Int64) : dv_mkL b f x 0 = f := by
  funext j
  exact if_neg (fun h => absurd h.1 (by omega))
theorem dv_mkL_y {b : Nat → Int32} {f : Nat → Int64} {x : Int64} {i : Nat} (h : b i ≠ 0) : vp_updL (dv_mkL b f x i) i x = dv_mkL b f x (i + 1) := by
  funext j
  by_cases e : j = i
  · subst e
    rw [pk_uLs]
    exact (if_pos ⟨by omega, h⟩).symm
  · rw [pk_uLn e]
    show (if _ then _ else _) = (if _ then _ else _)
    by_cases c : j < i ∧ b j ≠ 0
    · rw [if_pos c, if_pos ⟨by omega, c.2⟩]
    · rw [if_neg c, if_neg (fun d => c ⟨by omega, d.2⟩)]
theorem dv_mkL_n {b : Nat → Int32} {f : Nat → Int64} {x : Int64} {i : Nat} (h : b i = 0) : dv_mkL b f x (i + 1) = dv_mkL b f x i := by
  funext j
  show (if _ then _ else _) = (if _ then _ else _)
  by_cases c : j < i ∧ b j ≠ 0
  · rw [if_pos c, if_pos ⟨by omega, c.2⟩]
  · have n : ¬ (j < i + 1 ∧ b j ≠ 0) := by
      intro d
      by_cases e : j = i
      · rw [e] at d; exact d.2 h
      · exact c ⟨by omega, d.2⟩
    rw [if_neg c, if_neg n]
theorem dv_mkL_no {b : Nat → Int32} {f : Nat → Int64} {x : Int64} {n j : Nat} (h : ¬ (j < n ∧ b j ≠ 0)) : dv_mkL b f x n j = f j := if_neg h

/-! the lowest empty slot -/
def dv_lo (st : Nat → Int32) (x : Int32) (i cp : Nat) : Prop := (x = -1 ∧ ∀ j, i ≤ j → j < cp → st j ≠ 0) ∨ (∃ j, i ≤ j ∧ j < cp ∧ x = nI j ∧ st j = 0 ∧ ∀ l, i ≤ l → l < j → st l ≠ 0)
theorem dv_lo_e (st : Nat → Int32) (cp : Nat) : dv_lo st (-1) cp cp := Or.inl ⟨rfl, fun j h1 h2 => by omega⟩
theorem dv_lo_y {st : Nat → Int32} {i cp : Nat} (hi : i < cp) (h : st i = 0) : dv_lo st (nI i) i cp := Or.inr ⟨i, by omega, hi, rfl, h, fun l h1 h2 => by omega⟩
theorem dv_lo_n {st : Nat → Int32} {x : Int32} {i cp : Nat} (h : st i ≠ 0) (hx : dv_lo st x (i + 1) cp) : dv_lo st x i cp := by
  have hl : ∀ l, i ≤ l → ¬ i + 1 ≤ l → st l ≠ 0 := by
    intro l h1 h2
    obtain rfl : i = l := by omega
    exact h
  rcases hx with ⟨e, h1⟩ | ⟨j, h1, h2, e, h3, h4⟩
  · refine Or.inl ⟨e, fun j h5 h6 => ?_⟩
    by_cases c : i + 1 ≤ j
    · exact h1 j c h6
    · exact hl j h5 c
  · refine Or.inr ⟨j, by omega, h2, e, h3, fun l h5 h6 => ?_⟩
    by_cases c : i + 1 ≤ l
    · exact h4 l c h6
    · exact hl l h5 c
theorem dv_bt_1 {st : Nat → Int32} {cp j : Nat} (hj : j < cp) (h : st j = 1) : dv_bt st cp j = 1 := if_pos ⟨hj, h⟩
theorem dv_bt_0 {st : Nat → Int32} {cp j : Nat} (h : ¬ (j < cp ∧ st j = 1)) : dv_bt st cp j = 0 := if_neg h
theorem dv_bt_x {st xib : Nat → Int32} {cp n : Nat} (hn : cp ≤ n) (h : ∀ j, n ≤ j → xib j = 0) : dv_cpy (dv_bt st cp) xib n = dv_bt st cp := by
  funext j
  by_cases c : j < n
  · rw [dv_cpy_lt c]
  · rw [dv_cpy_ge c, h j (by omega), dv_bt_0 (fun d => by omega)]
