section
/-! rows pasted from kit/rows (PURE-ROWS): pk_us pk_un pk_m1 pk_mul pk_sub pk_div pk_rem pk_ix pk_least -/
theorem pk_us {f : Nat → Int32} {k : Nat} {x : Int32} : upd f k x k = x := if_pos rfl
theorem pk_un {f : Nat → Int32} {k j : Nat} {x : Int32} (h : j ≠ k) : upd f k x j = f j := if_neg h
theorem pk_uLs {f : Nat → Int64} {k : Nat} {x : Int64} : vp_updL f k x k = x := if_pos rfl
theorem pk_uLn {f : Nat → Int64} {k j : Nat} {x : Int64} (h : j ≠ k) : vp_updL f k x j = f j := if_neg h
theorem pk_sub {a b : Nat} (h : b ≤ a) : nI a - nI b = nI (a - b) := by
  obtain ⟨c, rfl⟩ : ∃ c, a = c + b := ⟨a - b, by omega⟩
  rw [← nI_add, Int32.add_sub_cancel, Nat.add_sub_cancel]
theorem pk_m1 (n : Nat) : nI (n + 1) + (-1) = nI n := by
  rw [← nI_1, Int32.add_assoc, show (1 : Int32) + (-1) = 0 from rfl, Int32.add_zero]
theorem pk_mul (a b : Nat) : nI a * nI b = nI (a * b) := (Int32.ofNat_mul a b).symm
theorem pk_div {a d : Nat} (ha : a < 2 ^ 31) (h0 : 0 < d) (hd : d < 2 ^ 31) : nI a / nI d = nI (a / d) := by
  apply Int32.toInt_inj.mp
  rw [lg_idiv_nonneg (by rw [nI_toInt ha]; omega) (by rw [nI_toInt hd]; omega), nI_toInt ha, nI_toInt hd, nI_toInt (Nat.lt_of_le_of_lt (Nat.div_le_self a d) ha)]
  first | rfl | exact (Int.natCast_ediv _ _).symm
theorem pk_rem {a d : Nat} (ha : a < 2 ^ 31) (h0 : 0 < d) (hd : d < 2 ^ 31) : nI a - nI a / nI d * nI d = nI (a % d) := by
  rw [pk_div ha h0 hd, pk_mul, pk_sub (Nat.div_mul_le_self a d)]
  exact congrArg nI (by have := Nat.div_add_mod' a d; omega)
theorem pk_ix (x : Int32) {n : Nat} (hn : n < 2 ^ 31) : x < 0 ∨ nI n ≤ x ∨ ∃ j : Nat, j < n ∧ x = nI j := by
  by_cases h : x < 0
  · exact Or.inl h
  · obtain ⟨j, hj, rfl⟩ := nI_of h
    by_cases h2 : j < n
    · exact Or.inr (Or.inr ⟨j, h2, rfl⟩)
    · exact Or.inr (Or.inl (nI_le (by omega) hj))
theorem pk_least (P : Nat → Prop) (h : ∃ k, P k) : ∃ k, P k ∧ ∀ j, j < k → ¬ P j := by
  obtain ⟨k, hk⟩ := h
  induction k using Nat.strongRecOn with
  | ind k ih =>
    by_cases e : ∃ j, j < k ∧ P j
    · obtain ⟨j, hj, pj⟩ := e
      exact ih j hj pj
    · exact ⟨k, hk, fun j hj pj => e ⟨j, hj, pj⟩⟩

/-! sums -/
def dv_sum (f : Nat → Int32) : Nat → Int32
  | 0 => 0
  | n + 1 => dv_sum f n + f n

/-! nets: one slot's part, then all slots below i -/
def dv_c1 (t s u m p v : Int32) : Int32 := if t = 0 then v else if s = p then v + m else if u = p then v - m else v
def dv_h1 (t s u c m p x v : Int32) : Int32 := if t = 0 then v else if c = x then (if s = p then v - m else if u = p then v + m else v) else v
def dv_nc (ca b se bu am : Nat → Int32) (p : Nat) : Nat → Int32
  | 0 => ca p
  | i + 1 => dv_c1 (b i) (se i) (bu i) (am i) (nI p) (dv_nc ca b se bu am p i)
def dv_nh (ho b se bu sc qt : Nat → Int32) (p s : Nat) : Nat → Int32
  | 0 => ho (p * 4 + s)
  | i + 1 => dv_h1 (b i) (se i) (bu i) (sc i) (qt i) (nI p) (nI s) (dv_nh ho b se bu sc qt p s i)
theorem dv_c1_0 {t s u m p v : Int32} (h : t = 0) : dv_c1 t s u m p v = v := if_pos h
theorem dv_h1_0 {t s u c m p x v : Int32} (h : t = 0) : dv_h1 t s u c m p x v = v := if_pos h
theorem dv_nc_s (ca b se bu am : Nat → Int32) (p i : Nat) : dv_nc ca b se bu am p (i + 1) = dv_c1 (b i) (se i) (bu i) (am i) (nI p) (dv_nc ca b se bu am p i) := rfl
theorem dv_nh_s (ho b se bu sc qt : Nat → Int32) (p s i : Nat) : dv_nh ho b se bu sc qt p s (i + 1) = dv_h1 (b i) (se i) (bu i) (sc i) (qt i) (nI p) (nI s) (dv_nh ho b se bu sc qt p s i) := rfl
theorem dv_nc_congr {ca b se bu am se' bu' am' : Nat → Int32} (h : ∀ j, b j ≠ 0 → se j = se' j ∧ bu j = bu' j ∧ am j = am' j) (p : Nat) : ∀ i, dv_nc ca b se bu am p i = dv_nc ca b se' bu' am' p i := by
  intro i
  induction i with
  | zero => rfl
  | succ i ih =>
    rw [dv_nc_s, dv_nc_s, ih]
    by_cases z : b i = 0
    · rw [dv_c1_0 z, dv_c1_0 z]
    · obtain ⟨e1, e2, e3⟩ := h i z
      rw [e1, e2, e3]
theorem dv_nh_congr {ho b se bu sc qt se' bu' sc' qt' : Nat → Int32} (h : ∀ j, b j ≠ 0 → se j = se' j ∧ bu j = bu' j ∧ sc j = sc' j ∧ qt j = qt' j) (p s : Nat) : ∀ i, dv_nh ho b se bu sc qt p s i = dv_nh ho b se' bu' sc' qt' p s i := by
  intro i
  induction i with
  | zero => rfl
  | succ i ih =>
    rw [dv_nh_s, dv_nh_s, ih]
    by_cases z : b i = 0
    · rw [dv_h1_0 z, dv_h1_0 z]
    · obtain ⟨e1, e2, e3, e4⟩ := h i z
      rw [e1, e2, e3, e4]
theorem dv_nc_upd {a : Nat → Int32} {A B p : Nat} (hAB : A ≠ B) (hA : A < 8) (hB : B < 8) (hp : p < 8) (m : Int32) {t : Int32} (ht : t ≠ 0) :
    upd (upd a A (a A + m)) B ((upd a A (a A + m)) B - m) p = dv_c1 t (nI A) (nI B) m (nI p) (a p) := by
  unfold dv_c1
  rw [if_neg ht]
  by_cases h1 : A = p
  · subst h1
    rw [if_pos rfl, pk_un hAB, pk_us]
  · rw [if_neg (fun e => h1 ((nI_eq (by omega) (by omega)).mp e))]
    by_cases h2 : B = p
    · subst h2
      rw [if_pos rfl, pk_us, pk_un (Ne.symm hAB)]
    · rw [if_neg (fun e => h2 ((nI_eq (by omega) (by omega)).mp e)), pk_un (Ne.symm h2), pk_un (Ne.symm h1)]
theorem dv_nh_upd {a : Nat → Int32} {A B C p s : Nat} (hAB : A ≠ B) (hA : A < 8) (hB : B < 8) (hC : C < 4) (hp : p < 8) (hs : s < 4) (q : Int32) {t : Int32} (ht : t ≠ 0) :
    upd (upd a (A * 4 + C) (a (A * 4 + C) - q)) (B * 4 + C) ((upd a (A * 4 + C) (a (A * 4 + C) - q)) (B * 4 + C) + q) (p * 4 + s) = dv_h1 t (nI A) (nI B) (nI C) q (nI p) (nI s) (a (p * 4 + s)) := by
  unfold dv_h1
  rw [if_neg ht]
  by_cases hc : C = s
  · subst hc
    rw [if_pos rfl]
    by_cases h1 : A = p
    · subst h1
      rw [if_pos rfl, pk_un (by omega), pk_us]
    · rw [if_neg (fun e => h1 ((nI_eq (by omega) (by omega)).mp e))]
      by_cases h2 : B = p
      · subst h2
        rw [if_pos rfl, pk_us, pk_un (by omega)]
      · rw [if_neg (fun e => h2 ((nI_eq (by omega) (by omega)).mp e)), pk_un (by omega), pk_un (by omega)]
  · rw [if_neg (fun e => hc ((nI_eq (by omega) (by omega)).mp e)), pk_un (by omega), pk_un (by omega)]
/-- the slots in the batch are valid -/
def dv_Val (np ns : Nat) (b se bu sc : Nat → Int32) : Prop := ∀ j, b j ≠ 0 → ∃ A B C : Nat, A < np ∧ B < np ∧ C < ns ∧ A ≠ B ∧ se j = nI A ∧ bu j = nI B ∧ sc j = nI C
theorem dv_nc_out {np ns : Nat} {ca b se bu sc am : Nat → Int32} (hn : np ≤ 8) (hV : dv_Val np ns b se bu sc) {p : Nat} (hp : np ≤ p) (h8 : p < 8) : ∀ i, dv_nc ca b se bu am p i = ca p := by
  intro i
  induction i with
  | zero => rfl
  | succ i ih =>
    rw [dv_nc_s, ih]
    by_cases z : b i = 0
    · rw [dv_c1_0 z]
    · obtain ⟨A, B, C, hA, hB, hC, hAB, e1, e2, e3⟩ := hV i z
      unfold dv_c1
      rw [if_neg z, e1, e2, if_neg (fun e => absurd ((nI_eq (by omega) (by omega)).mp e) (by omega)), if_neg (fun e => absurd ((nI_eq (by omega) (by omega)).mp e) (by omega))]
theorem dv_nh_out {np ns : Nat} {ho b se bu sc qt : Nat → Int32} (hn : np ≤ 8) (hs4 : ns ≤ 4) (hV : dv_Val np ns b se bu sc) {p s : Nat} (hp : np ≤ p ∨ ns ≤ s) (h8 : p < 8) (h4 : s < 4) : ∀ i, dv_nh ho b se bu sc qt p s i = ho (p * 4 + s) := by
  intro i
  induction i with
  | zero => rfl
  | succ i ih =>
    rw [dv_nh_s, ih]
    by_cases z : b i = 0
    · rw [dv_h1_0 z]
    · obtain ⟨A, B, C, hA, hB, hC, hAB, e1, e2, e3⟩ := hV i z
      unfold dv_h1
      rw [if_neg z, e1, e2, e3]
      by_cases hc : C = s
      · subst hc
        rw [if_pos rfl, if_neg (fun e => absurd ((nI_eq (by omega) (by omega)).mp e) (by omega)), if_neg (fun e => absurd ((nI_eq (by omega) (by omega)).mp e) (by omega))]
      · rw [if_neg (fun e => hc ((nI_eq (by omega) (by omega)).mp e))]

/-! deficits, the debtor -/
def dv_sf (v : Int32) : Int32 := if v < 0 then -v else 0
def dv_df (nc : Int32) (nh : Nat → Int32) : Nat → Int32
  | 0 => dv_sf nc
  | s + 1 => dv_df nc nh s + dv_sf (nh s)
theorem dv_df_congr {nc : Int32} {f g : Nat → Int32} {n : Nat} (h : ∀ s, s < n → f s = g s) : dv_df nc f n = dv_df nc g n := by
  induction n with
  | zero => rfl
  | succ n ih =>
    show dv_df nc f n + dv_sf (f n) = dv_df nc g n + dv_sf (g n)
    rw [ih (fun s hs => h s (by omega)), h n (by omega)]
theorem dv_sf_n {v : Int32} (h : v < 0) : dv_sf v = -v := if_pos h
theorem dv_sf_p {v : Int32} (h : ¬ v < 0) : dv_sf v = 0 := if_neg h
def dv_db (df : Nat → Int32) : Nat → Int32 × Int32
  | 0 => (-1, 0)
  | p + 1 => if df p ≤ (dv_db df p).2 then dv_db df p else (nI p, df p)
theorem dv_db_congr {f g : Nat → Int32} {n : Nat} (h : ∀ p, p < n → f p = g p) : dv_db f n = dv_db g n := by
  induction n with
  | zero => rfl
  | succ n ih =>
    show (if f n ≤ (dv_db f n).2 then dv_db f n else (nI n, f n)) = (if g n ≤ (dv_db g n).2 then dv_db g n else (nI n, g n))
    rw [ih (fun s hs => h s (by omega)), h n (by omega)]
theorem dv_db_in (f : Nat → Int32) (n : Nat) : (dv_db f n).1 = -1 ∨ ∃ j, j < n ∧ (dv_db f n).1 = nI j := by
  induction n with
  | zero => exact Or.inl rfl
  | succ n ih =>
    by_cases h : f n ≤ (dv_db f n).2
    · have e : dv_db f (n + 1) = dv_db f n := if_pos h
      rw [e]
      rcases ih with h1 | ⟨j, hj, h1⟩
      · exact Or.inl h1
      · exact Or.inr ⟨j, by omega, h1⟩
    · have e : dv_db f (n + 1) = (nI n, f n) := if_neg h
      rw [e]
      exact Or.inr ⟨n, by omega, rfl⟩

/-! the pick -/
def dv_pk (b : Nat → Int32) (ok : Nat → Bool) (sq : Nat → Int64) : Nat → Int32
  | 0 => -1
  | i + 1 => if b i ≠ 0 ∧ ok i = true ∧ (dv_pk b ok sq i = -1 ∨ sq (dv_pk b ok sq i).toNatClampNeg < sq i) then nI i else dv_pk b ok sq i
theorem dv_pk_y {b : Nat → Int32} {ok : Nat → Bool} {sq : Nat → Int64} {i : Nat} (h : b i ≠ 0 ∧ ok i = true ∧ (dv_pk b ok sq i = -1 ∨ sq (dv_pk b ok sq i).toNatClampNeg < sq i)) : dv_pk b ok sq (i + 1) = nI i := if_pos h
theorem dv_pk_n {b : Nat → Int32} {ok : Nat → Bool} {sq : Nat → Int64} {i : Nat} (h : ¬ (b i ≠ 0 ∧ ok i = true ∧ (dv_pk b ok sq i = -1 ∨ sq (dv_pk b ok sq i).toNatClampNeg < sq i))) : dv_pk b ok sq (i + 1) = dv_pk b ok sq i := if_neg h
theorem dv_pk_in (b : Nat → Int32) (ok : Nat → Bool) (sq : Nat → Int64) (n : Nat) : dv_pk b ok sq n = -1 ∨ ∃ j, j < n ∧ dv_pk b ok sq n = nI j ∧ b j ≠ 0 := by
  induction n with
  | zero => exact Or.inl rfl
  | succ n ih =>
    by_cases h : b n ≠ 0 ∧ ok n = true ∧ (dv_pk b ok sq n = -1 ∨ sq (dv_pk b ok sq n).toNatClampNeg < sq n)
    · exact Or.inr ⟨n, by omega, dv_pk_y h, h.1⟩
    · rw [dv_pk_n h]
      rcases ih with h1 | ⟨j, hj, h1⟩
      · exact Or.inl h1
      · exact Or.inr ⟨j, by omega, h1⟩
theorem dv_pk_congr {b : Nat → Int32} {ok ok' : Nat → Bool} {sq sq' : Nat → Int64} {n : Nat} (hn : n < 2 ^ 31) (h : ∀ j, j < n → b j ≠ 0 → ok j = ok' j ∧ sq j = sq' j) : dv_pk b ok sq n = dv_pk b ok' sq' n := by
  induction n with
  | zero => rfl
  | succ n ih =>
    have ih' := ih (by omega) (fun j hj => h j (by omega))
    by_cases z : b n = 0
    · rw [dv_pk_n (fun e => e.1 z), dv_pk_n (fun e => e.1 z), ih']
    · obtain ⟨e1, e2⟩ := h n (by omega) z
      have e3 : (dv_pk b ok sq n = -1 ∨ sq (dv_pk b ok sq n).toNatClampNeg < sq n) ↔ (dv_pk b ok' sq' n = -1 ∨ sq' (dv_pk b ok' sq' n).toNatClampNeg < sq' n) := by
        rw [ih', e2]
        rcases dv_pk_in b ok' sq' n with h1 | ⟨j, hj, h1, h2⟩
        · exact ⟨fun _ => Or.inl h1, fun _ => Or.inl h1⟩
        · rw [h1, nI_clamp (by omega), (h j (by omega) h2).2]
      by_cases c : b n ≠ 0 ∧ ok n = true ∧ (dv_pk b ok sq n = -1 ∨ sq (dv_pk b ok sq n).toNatClampNeg < sq n)
      · rw [dv_pk_y c, dv_pk_y ⟨c.1, by rw [← e1]; exact c.2.1, e3.mp c.2.2⟩]
      · rw [dv_pk_n c, dv_pk_n (fun d => c ⟨d.1, by rw [e1]; exact d.2.1, e3.mpr d.2.2⟩), ih']

/-! how many are in the batch -/
def dv_cn (b : Nat → Int32) : Nat → Nat
  | 0 => 0
  | n + 1 => dv_cn b n + (if b n = 0 then 0 else 1)
theorem dv_cn_s0 {b : Nat → Int32} {n : Nat} (h : b n = 0) : dv_cn b (n + 1) = dv_cn b n := by
  show dv_cn b n + (if b n = 0 then 0 else 1) = _
  rw [if_pos h, Nat.add_zero]
theorem dv_cn_s1 {b : Nat → Int32} {n : Nat} (h : b n ≠ 0) : dv_cn b (n + 1) = dv_cn b n + 1 := by
  show dv_cn b n + (if b n = 0 then 0 else 1) = _
  rw [if_neg h]
theorem dv_cn_le (b : Nat → Int32) (n : Nat) : dv_cn b n ≤ n := by
  induction n with
  | zero => exact Nat.le_refl 0
  | succ n ih =>
    by_cases h : b n = 0
    · rw [dv_cn_s0 h]; omega
    · rw [dv_cn_s1 h]; omega
theorem dv_cn_congr {b c : Nat → Int32} {n : Nat} (h : ∀ j, j < n → b j = c j) : dv_cn b n = dv_cn c n := by
  induction n with
  | zero => rfl
  | succ n ih =>
    show dv_cn b n + (if b n = 0 then 0 else 1) = dv_cn c n + (if c n = 0 then 0 else 1)
    rw [ih (fun j hj => h j (by omega)), h n (by omega)]
theorem dv_cn_upd {b : Nat → Int32} {j : Nat} (hb : b j ≠ 0) : ∀ n, j < n → dv_cn (upd b j 0) n + 1 = dv_cn b n := by
  intro n
  induction n with
  | zero => intro h; omega
  | succ n ih =>
    intro h
    by_cases e : j = n
    · subst e
      rw [dv_cn_s0 pk_us, dv_cn_s1 hb, dv_cn_congr (b := upd b j 0) (c := b) (fun i hi => pk_un (by omega))]
    · have ih' := ih (by omega)
      by_cases z : b n = 0
      · rw [dv_cn_s0 z, dv_cn_s0 (by rw [pk_un (Ne.symm e)]; exact z)]; exact ih'
      · rw [dv_cn_s1 z, dv_cn_s1 (by rw [pk_un (Ne.symm e)]; exact z)]; omega
theorem dv_cn_zero {b : Nat → Int32} : ∀ n, dv_cn b n = 0 → ∀ j, j < n → b j = 0 := by
  intro n
  induction n with
  | zero => intro _ j hj; omega
  | succ n ih =>
    intro h j hj
    by_cases z : b n = 0
    · rw [dv_cn_s0 z] at h
      by_cases e : j = n
      · rw [e]; exact z
      · exact ih h j (by omega)
    · rw [dv_cn_s1 z] at h; omega

/-! marking a batch -/
def dv_mk (b f : Nat → Int32) (x : Int32) (n : Nat) : Nat → Int32 := fun j => if j < n ∧ b j ≠ 0 then x else f j
theorem dv_mk_0 (b f : Nat → Int32) (x : Int32) : dv_mk b f x 0 = f := by
  funext j
  exact if_neg (fun h => absurd h.1 (by omega))
theorem dv_mk_y {b f : Nat → Int32} {x : Int32} {i : Nat} (h : b i ≠ 0) : upd (dv_mk b f x i) i x = dv_mk b f x (i + 1) := by
  funext j
  by_cases e : j = i
  · subst e
    rw [pk_us]
    exact (if_pos ⟨by omega, h⟩).symm
  · rw [pk_un e]
    show (if _ then _ else _) = (if _ then _ else _)
    by_cases c : j < i ∧ b j ≠ 0
    · rw [if_pos c, if_pos ⟨by omega, c.2⟩]
    · rw [if_neg c, if_neg (fun d => c ⟨by omega, d.2⟩)]
theorem dv_mk_n {b f : Nat → Int32} {x : Int32} {i : Nat} (h : b i = 0) : dv_mk b f x (i + 1) = dv_mk b f x i := by
  funext j
  show (if _ then _ else _) = (if _ then _ else _)
  by_cases c : j < i ∧ b j ≠ 0
  · rw [if_pos c, if_pos ⟨by omega, c.2⟩]
  · have n : ¬ (j < i + 1 ∧ b j ≠ 0) := by
      intro d
      by_cases e : j = i
      · rw [e] at d; exact d.2 h
      · exact c ⟨by omega, d.2⟩
    rw [if_neg c, if_neg n]

/-! recycling the removed -/
def dv_at (rm at0 : Nat → Int32) : Nat → (Nat → Int32)
  | 0 => at0
  | k + 1 => upd (dv_at rm at0 k) (rm k).toNatClampNeg (dv_at rm at0 k (rm k).toNatClampNeg + 1)
def dv_fs (rm at0 st : Nat → Int32) (mr : Int32) : Nat → (Nat → Int32)
  | 0 => st
  | k + 1 => if dv_at rm at0 (k + 1) (rm k).toNatClampNeg < mr then dv_fs rm at0 st mr k else upd (dv_fs rm at0 st mr k) (rm k).toNatClampNeg 4
theorem dv_at_congr {rm f g : Nat → Int32} {j : Nat} (h : f j = g j) : ∀ k, dv_at rm f k j = dv_at rm g k j := by
  intro k
  induction k with
  | zero => exact h
  | succ k ih =>
    show upd _ _ _ j = upd _ _ _ j
    by_cases e : j = (rm k).toNatClampNeg
    · rw [e] at ih ⊢
      rw [pk_us, pk_us, ih]
    · rw [pk_un e, pk_un e, ih]
theorem dv_fs_congr {rm f g st : Nat → Int32} {mr : Int32} {n : Nat} (h : ∀ k, k < n → f (rm k).toNatClampNeg = g (rm k).toNatClampNeg) : dv_fs rm f st mr n = dv_fs rm g st mr n := by
  induction n with
  | zero => rfl
  | succ n ih =>
    show (if _ then _ else _) = (if _ then _ else _)
    rw [ih (fun k hk => h k (by omega)), dv_at_congr (h n (by omega)) (n + 1)]
theorem dv_fs_or (rm f st : Nat → Int32) (mr : Int32) (j : Nat) : ∀ n, dv_fs rm f st mr n j = st j ∨ (dv_fs rm f st mr n j = 4 ∧ ∃ k, k < n ∧ j = (rm k).toNatClampNeg) := by
  intro n
  induction n with
  | zero => exact Or.inl rfl
  | succ n ih =>
    have ih' : dv_fs rm f st mr n j = st j ∨ (dv_fs rm f st mr n j = 4 ∧ ∃ k, k < n + 1 ∧ j = (rm k).toNatClampNeg) := by
      rcases ih with h | ⟨h, k, hk, e⟩
      · exact Or.inl h
      · exact Or.inr ⟨h, k, by omega, e⟩
    by_cases c : dv_at rm f (n + 1) (rm n).toNatClampNeg < mr
    · have e : dv_fs rm f st mr (n + 1) = dv_fs rm f st mr n := if_pos c
      rw [e]; exact ih'
    · have e : dv_fs rm f st mr (n + 1) = upd (dv_fs rm f st mr n) (rm n).toNatClampNeg 4 := if_neg c
      rw [e]
      by_cases z : j = (rm n).toNatClampNeg
      · refine Or.inr ⟨?_, n, by omega, z⟩
        rw [z]; exact pk_us
      · rw [pk_un z]; exact ih'

/-! leaves of one slot's part -/
theorem dv_c1_s {t s u m p v : Int32} (h : t ≠ 0) (hs : s = p) : dv_c1 t s u m p v = v + m := by unfold dv_c1; rw [if_neg h, if_pos hs]
theorem dv_c1_b {t s u m p v : Int32} (h : t ≠ 0) (hs : s ≠ p) (hu : u = p) : dv_c1 t s u m p v = v - m := by unfold dv_c1; rw [if_neg h, if_neg hs, if_pos hu]
theorem dv_c1_n {t s u m p v : Int32} (hs : s ≠ p) (hu : u ≠ p) : dv_c1 t s u m p v = v := by
  unfold dv_c1
  by_cases h : t = 0
  · rw [if_pos h]
  · rw [if_neg h, if_neg hs, if_neg hu]
theorem dv_h1_c {t s u c m p x v : Int32} (hc : c ≠ x) : dv_h1 t s u c m p x v = v := by
  unfold dv_h1
  by_cases h : t = 0
  · rw [if_pos h]
  · rw [if_neg h, if_neg hc]
theorem dv_h1_s {t s u c m p x v : Int32} (h : t ≠ 0) (hc : c = x) (hs : s = p) : dv_h1 t s u c m p x v = v - m := by unfold dv_h1; rw [if_neg h, if_pos hc, if_pos hs]
theorem dv_h1_b {t s u c m p x v : Int32} (h : t ≠ 0) (hc : c = x) (hs : s ≠ p) (hu : u = p) : dv_h1 t s u c m p x v = v + m := by unfold dv_h1; rw [if_neg h, if_pos hc, if_neg hs, if_pos hu]
theorem dv_h1_n {t s u c m p x v : Int32} (hs : s ≠ p) (hu : u ≠ p) : dv_h1 t s u c m p x v = v := by
  unfold dv_h1
  by_cases h : t = 0
  · rw [if_pos h]
  · by_cases hc : c = x
    · rw [if_neg h, if_pos hc, if_neg hs, if_neg hu]
    · rw [if_neg h, if_neg hc]
/-! the reference's way of adding a shortfall -/
theorem dv_y0 {v : Int32} (h : v < 0) : 0 - v = dv_sf v := by rw [dv_sf_n h, Int32.zero_sub]
theorem dv_y1 {d v : Int32} (h : v < 0) : d - v = d + dv_sf v := by rw [dv_sf_n h, Int32.sub_eq_add_neg]
theorem dv_y2 {d v : Int32} (h : ¬ v < 0) : d = d + dv_sf v := by rw [dv_sf_p h, Int32.add_zero]
/-! indices -/
theorem dv_4 : (4 : Int32) = nI 4 := by decide +kernel
theorem dv_hx (p s : Nat) : nI p * 4 + nI s = nI (p * 4 + s) := by rw [dv_4, pk_mul, nI_add]
theorem dv_nlt {p : Int32} {n : Nat} (h : nI n ≤ p) : ¬ p < nI n := fun e => Int32.not_lt.mpr h e
theorem dv_ff {α : Nat → Prop} {n : Nat} (h : ∀ j, j < n → α j) {j : Nat} (hj : j < n) : α j := h j hj
/-- the batch at the start of a cycle -/
def dv_bt (st : Nat → Int32) (cp : Nat) : Nat → Int32 := fun j => if j < cp ∧ st j = 1 then 1 else 0
/-- may this slot be removed for the debtor d, whose net cash is nc and net holdings nh -/
def dv_ok (d nc : Int32) (nh : Nat → Int32) (se bu sc am : Nat → Int32) (i : Nat) : Bool :=
  if bu i = d then decide (0 < am i) && decide (nc < 0) else decide (se i = d) && decide (nh (sc i).toNatClampNeg < 0)
theorem dv_ok_congr {d nc : Int32} {nh nh' se bu sc am se' bu' sc' am' : Nat → Int32} {i : Nat} (e1 : se i = se' i) (e2 : bu i = bu' i) (e3 : sc i = sc' i) (e4 : am i = am' i) (e5 : nh (sc' i).toNatClampNeg = nh' (sc' i).toNatClampNeg) :
    dv_ok d nc nh se bu sc am i = dv_ok d nc nh' se' bu' sc' am' i := by
  unfold dv_ok
  rw [e1, e2, e3, e4, e5]
/-- the debtor and the pick as functions of the batch -/
def dv_D (np ns cp : Nat) (ca ho se bu sc qt am b : Nat → Int32) : Int32 :=
  (dv_db (fun p => dv_df (dv_nc ca b se bu am p cp) (fun s => dv_nh ho b se bu sc qt p s cp) ns) np).1
def dv_P (cp : Nat) (ca ho se bu sc qt am : Nat → Int32) (sq : Nat → Int64) (d : Int32) (b : Nat → Int32) : Int32 :=
  dv_pk b (dv_ok d (dv_nc ca b se bu am d.toNatClampNeg cp) (fun s => dv_nh ho b se bu sc qt d.toNatClampNeg s cp) se bu sc am) sq cp
theorem dv_D_congr {np ns cp : Nat} {ca ho b se bu sc qt am se' bu' sc' qt' am' : Nat → Int32} (h : ∀ j, b j ≠ 0 → se j = se' j ∧ bu j = bu' j ∧ sc j = sc' j ∧ qt j = qt' j ∧ am j = am' j) :
    dv_D np ns cp ca ho se bu sc qt am b = dv_D np ns cp ca ho se' bu' sc' qt' am' b := by
  unfold dv_D
  refine congrArg Prod.fst (dv_db_congr (fun p _ => ?_))
  show dv_df _ _ ns = dv_df _ _ ns
  rw [dv_nc_congr (fun j hj => ⟨(h j hj).1, (h j hj).2.1, (h j hj).2.2.2.2⟩) p cp]
  exact dv_df_congr (fun s _ => dv_nh_congr (fun j hj => ⟨(h j hj).1, (h j hj).2.1, (h j hj).2.2.1, (h j hj).2.2.2.1⟩) p s cp)
theorem dv_P_congr {cp : Nat} (hcp : cp < 2 ^ 31) {ca ho b se bu sc qt am se' bu' sc' qt' am' : Nat → Int32} {sq sq' : Nat → Int64} {d : Int32} (h : ∀ j, b j ≠ 0 → se j = se' j ∧ bu j = bu' j ∧ sc j = sc' j ∧ qt j = qt' j ∧ am j = am' j ∧ sq j = sq' j) :
    dv_P cp ca ho se bu sc qt am sq d b = dv_P cp ca ho se' bu' sc' qt' am' sq' d b := by
  unfold dv_P
  refine dv_pk_congr hcp (fun j _ hj => ?_)
  obtain ⟨e1, e2, e3, e4, e5, e6⟩ := h j hj
  refine ⟨?_, e6⟩
  rw [dv_nc_congr (fun i hi => ⟨(h i hi).1, (h i hi).2.1, (h i hi).2.2.2.2.1⟩) d.toNatClampNeg cp]
  exact dv_ok_congr e1 e2 e3 e5 (dv_nh_congr (fun i hi => ⟨(h i hi).1, (h i hi).2.1, (h i hi).2.2.1, (h i hi).2.2.2.1⟩) _ _ cp)

/-! copying -/
def dv_cpy (f g : Nat → Int32) (n : Nat) : Nat → Int32 := fun j => if j < n then f j else g j
theorem dv_cpy_0 (f g : Nat → Int32) : dv_cpy f g 0 = g := by
  funext j
  exact if_neg (by omega)
theorem dv_cpy_s (f g : Nat → Int32) (i : Nat) : upd (dv_cpy f g i) i (f i) = dv_cpy f g (i + 1) := by
  funext j
  by_cases e : j = i
  · subst e
    rw [pk_us]
    exact (if_pos (by omega)).symm
  · rw [pk_un e]
    show (if _ then _ else _) = (if _ then _ else _)
    by_cases c : j < i
    · rw [if_pos c, if_pos (by omega)]
    · rw [if_neg c, if_neg (by omega)]
theorem dv_cpy_lt {f g : Nat → Int32} {n j : Nat} (h : j < n) : dv_cpy f g n j = f j := if_pos h
theorem dv_cpy_ge {f g : Nat → Int32} {n j : Nat} (h : ¬ j < n) : dv_cpy f g n j = g j := if_neg h

/-! the reference's table of new holdings, as it is filled -/
def dv_Hs (NH : Nat → Nat → Int32) (y0 : Nat → Int32) (ns p s : Nat) (nh : Nat → Int32) : Prop :=
  ∀ p' s', s' < 4 → nh (p' * 4 + s') = if (p' < p ∨ (p' = p ∧ s' < s)) ∧ s' < ns then NH p' s' else y0 (p' * 4 + s')
theorem dv_Hs_0 (NH : Nat → Nat → Int32) (y0 : Nat → Int32) (ns : Nat) : dv_Hs NH y0 ns 0 0 y0 := by
  intro p' s' h
  rw [if_neg (by omega)]
theorem dv_Hs_s {NH : Nat → Nat → Int32} {y0 nh : Nat → Int32} {ns p s : Nat} (hs : s < ns) (h4 : ns ≤ 4) (h : dv_Hs NH y0 ns p s nh) : dv_Hs NH y0 ns p (s + 1) (upd nh (p * 4 + s) (NH p s)) := by
  intro p' s' h'
  by_cases e : p' = p ∧ s' = s
  · obtain ⟨rfl, rfl⟩ := e
    rw [pk_us, if_pos (by omega)]
  · rw [pk_un (by omega), h p' s' h']
    by_cases c : (p' < p ∨ (p' = p ∧ s' < s)) ∧ s' < ns
    · rw [if_pos c, if_pos (by omega)]
    · rw [if_neg c, if_neg (by omega)]
theorem dv_Hs_n {NH : Nat → Nat → Int32} {y0 nh : Nat → Int32} {ns p : Nat} (h : dv_Hs NH y0 ns p ns nh) : dv_Hs NH y0 ns (p + 1) 0 nh := by
  intro p' s' h'
  rw [h p' s' h']
  by_cases c : (p' < p ∨ (p' = p ∧ s' < ns)) ∧ s' < ns
  · rw [if_pos c, if_pos (by omega)]
  · rw [if_neg c, if_neg (by omega)]

/-! what is done (neither empty nor queued) -/
def dv_dn (st : Nat → Int32) : Nat → Int32 := fun j => if st j = 0 ∨ st j = 1 then 0 else 1
theorem dv_dn_n {st : Nat → Int32} {j : Nat} (h : st j = 0 ∨ st j = 1) : dv_dn st j = 0 := if_pos h
theorem dv_dn_y {st : Nat → Int32} {j : Nat} (h0 : st j ≠ 0) (h1 : st j ≠ 1) : dv_dn st j ≠ 0 := by
  have e : dv_dn st j = 1 := if_neg (by intro h; rcases h with h | h; exact h0 h; exact h1 h)
  rw [e]; decide
theorem dv_mk_at (b f : Nat → Int32) (x : Int32) (i : Nat) : dv_mk b f x i i = f i := if_neg (fun h => absurd h.1 (by omega))
theorem dv_mk_no {b f : Nat → Int32} {x : Int32} {n j : Nat} (h : ¬ (j < n ∧ b j ≠ 0)) : dv_mk b f x n j = f j := if_neg h
theorem dv_mk_ye {b f : Nat → Int32} {x : Int32} {n j : Nat} (h : j < n ∧ b j ≠ 0) : dv_mk b f x n j = x := if_pos h
def dv_mkL (b : Nat → Int32) (f : Nat → Int64) (x : Int64) (n : Nat) : Nat → Int64 := fun j => if j < n ∧ b j ≠ 0 then x else f j
theorem dv_mkL_0 (b : Nat → Int32) (f : Nat → Int64) (x : Int64) : dv_mkL b f x 0 = f := by
  funext j
  exact if_neg (fun h => absurd h.1 (by omega))
theorem dv_mkL_y {b : Nat → Int32} {f : Nat → Int64} {x : Int64} {i : Nat} (h : b i ≠ 0) : vp_updL (dv_mkL b f x i) i x = dv_mkL b f x (i + 1) := by
  funext j
  by_cases e : j = i
  · subst e
    rw [pk_uLs]
    exact (if_pos ⟨by omega, h⟩).symm
  · rw [pk_uLn e]
    show (if _ then _ else _) = (if _ then _ else _)
    by_cases c : j < i ∧ b j ≠ 0
    · rw [if_pos c, if_pos ⟨by omega, c.2⟩]
    · rw [if_neg c, if_neg (fun d => c ⟨by omega, d.2⟩)]
theorem dv_mkL_n {b : Nat → Int32} {f : Nat → Int64} {x : Int64} {i : Nat} (h : b i = 0) : dv_mkL b f x (i + 1) = dv_mkL b f x i := by
  funext j
  show (if _ then _ else _) = (if _ then _ else _)
  by_cases c : j < i ∧ b j ≠ 0
  · rw [if_pos c, if_pos ⟨by omega, c.2⟩]
  · have n : ¬ (j < i + 1 ∧ b j ≠ 0) := by
      intro d
      by_cases e : j = i
      · rw [e] at d; exact d.2 h
      · exact c ⟨by omega, d.2⟩
    rw [if_neg c, if_neg n]
theorem dv_mkL_no {b : Nat → Int32} {f : Nat → Int64} {x : Int64} {n j : Nat} (h : ¬ (j < n ∧ b j ≠ 0)) : dv_mkL b f x n j = f j := if_neg h

/-! the lowest empty slot -/
def dv_lo (st : Nat → Int32) (x : Int32) (i cp : Nat) : Prop := (x = -1 ∧ ∀ j, i ≤ j → j < cp → st j ≠ 0) ∨ (∃ j, i ≤ j ∧ j < cp ∧ x = nI j ∧ st j = 0 ∧ ∀ l, i ≤ l → l < j → st l ≠ 0)
theorem dv_lo_e (st : Nat → Int32) (cp : Nat) : dv_lo st (-1) cp cp := Or.inl ⟨rfl, fun j h1 h2 => by omega⟩
theorem dv_lo_y {st : Nat → Int32} {i cp : Nat} (hi : i < cp) (h : st i = 0) : dv_lo st (nI i) i cp := Or.inr ⟨i, by omega, hi, rfl, h, fun l h1 h2 => by omega⟩
theorem dv_lo_n {st : Nat → Int32} {x : Int32} {i cp : Nat} (h : st i ≠ 0) (hx : dv_lo st x (i + 1) cp) : dv_lo st x i cp := by
  have hl : ∀ l, i ≤ l → ¬ i + 1 ≤ l → st l ≠ 0 := by
    intro l h1 h2
    obtain rfl : i = l := by omega
    exact h
  rcases hx with ⟨e, h1⟩ | ⟨j, h1, h2, e, h3, h4⟩
  · refine Or.inl ⟨e, fun j h5 h6 => ?_⟩
    by_cases c : i + 1 ≤ j
    · exact h1 j c h6
    · exact hl j h5 c
  · refine Or.inr ⟨j, by omega, h2, e, h3, fun l h5 h6 => ?_⟩
    by_cases c : i + 1 ≤ l
    · exact h4 l c h6
    · exact hl l h5 c
theorem dv_bt_1 {st : Nat → Int32} {cp j : Nat} (hj : j < cp) (h : st j = 1) : dv_bt st cp j = 1 := if_pos ⟨hj, h⟩
theorem dv_bt_0 {st : Nat → Int32} {cp j : Nat} (h : ¬ (j < cp ∧ st j = 1)) : dv_bt st cp j = 0 := if_neg h
theorem dv_bt_x {st xib : Nat → Int32} {cp n : Nat} (hn : cp ≤ n) (h : ∀ j, n ≤ j → xib j = 0) : dv_cpy (dv_bt st cp) xib n = dv_bt st cp := by
  funext j
  by_cases c : j < n
  · rw [dv_cpy_lt c]
  · rw [dv_cpy_ge c, h j (by omega), dv_bt_0 (fun d => by omega)]
end
section
theorem dv_m1 {j : Nat} (h : j < 2 ^ 31) : nI j ≠ -1 := by
  intro e
  have h1 : ¬ nI j < 0 := nI_pos h
  rw [e] at h1
  exact h1 (by decide)
/-- the two round loops in lockstep: whatever both ask at the common end, they ask at the start -/
theorem dv_lock {ι κ : Type} (cp : Nat) (h64 : cp ≤ 64) (D P : (Nat → Int32) → Int32) (Spec : (Nat → Int32) → (Nat → Int32) → (Nat → Int32) → Prop)
    (WX : ι → Nat → Nat → (Nat → Int32) → Nat → (Nat → Int32) → (Nat → Int32) → (Nat → Int32) → Prop)
    (KX : ι → (Nat → Int32) → Nat → (Nat → Int32) → (Nat → Int32) → (Nat → Int32) → Prop)
    (WY : κ → Nat → Nat → (Nat → Int32) → Nat → (Nat → Int32) → Prop)
    (KY : κ → (Nat → Int32) → Nat → (Nat → Int32) → Prop)
    (V : (Nat → Int32) → Prop) (G : Nat → Prop)
    (hV : ∀ b j, V b → V (upd b j 0))
    (hG : ∀ b j, V b → b j ≠ 0 → G j)
    (hP : ∀ b, V b → P b = -1 ∨ ∃ j, j < cp ∧ P b = nI j ∧ b j ≠ 0)
    (XE : ∀ q n b rc rm nc nh, KX q b rc rm nc nh → WX q (n + 1) (cp + 1) b rc rm nc nh)
    (XS : ∀ q n i b rc rm nc nh, V b → i ≤ cp → rc ≤ 64 →
      (∀ nc' nh', Spec b nc' nh' → (D b = -1 → KX q b rc rm nc' nh') ∧ (D b ≠ -1 → (P b = -1 ∨ 64 ≤ rc) → WX q n (i + 1) b rc rm nc' nh') ∧
        (D b ≠ -1 → rc < 64 → ∀ j, j < cp → P b = nI j → WX q n (i + 1) (upd b j 0) (rc + 1) (upd rm rc (nI j)) nc' nh')) → WX q (n + 1) i b rc rm nc nh)
    (YS : ∀ q n i b rc rm, V b → i < 66 → rc ≤ 64 → ((D b = -1 ∨ P b = -1 ∨ 64 ≤ rc) → KY q b rc rm) →
      (D b ≠ -1 → rc < 64 → ∀ j, j < cp → P b = nI j → WY q n (i + 1) (upd b j 0) (rc + 1) (upd rm rc (nI j))) → WY q (n + 1) i b rc rm) :
    ∀ m b rc rm, V b → rc ≤ 64 → (∀ k, k < rc → ∃ j, j < cp ∧ rm k = nI j ∧ G j) → dv_cn b cp < m →
      ∃ b' rc' rm', V b' ∧ rc' ≤ 64 ∧ (∀ k, k < rc' → ∃ j, j < cp ∧ rm' k = nI j ∧ G j) ∧
        (∀ q i n nc nh, i + dv_cn b cp ≤ cp → cp + 2 ≤ n + i → (∀ nc' nh', Spec b' nc' nh' → KX q b' rc' rm' nc' nh') → WX q n i b rc rm nc nh) ∧
        (∀ q i n, i + dv_cn b cp ≤ cp → 67 ≤ n + i → KY q b' rc' rm' → WY q n i b rc rm) := by
  intro m
  induction m with
  | zero => intro b rc rm _ _ _ h; omega
  | succ m ih =>
    intro b rc rm hVb hrc hR hcn
    by_cases hD : D b = -1
    · refine ⟨b, rc, rm, hVb, hrc, hR, ?_, ?_⟩
      · intro q i n nc nh hi hn H
        obtain ⟨n', rfl⟩ : ∃ n', n = n' + 1 := ⟨n - 1, by omega⟩
        exact XS q n' i b rc rm nc nh hVb (by omega) hrc (fun nc' nh' hs => ⟨fun _ => H nc' nh' hs, fun h => absurd hD h, fun h => absurd hD h⟩)
      · intro q i n hi hn H
        obtain ⟨n', rfl⟩ : ∃ n', n = n' + 1 := ⟨n - 1, by omega⟩
        exact YS q n' i b rc rm hVb (by omega) hrc (fun _ => H) (fun h => absurd hD h)
    · by_cases hst : P b = -1 ∨ 64 ≤ rc
      · refine ⟨b, rc, rm, hVb, hrc, hR, ?_, ?_⟩
        · intro q i n nc nh hi hn H
          have stall : ∀ d i n nc nh, i + d = cp + 1 → d < n → (d = 0 → Spec b nc nh) → WX q n i b rc rm nc nh := by
            intro d
            induction d with
            | zero =>
              intro i n nc nh hi hn hs
              obtain ⟨n', rfl⟩ : ∃ n', n = n' + 1 := ⟨n - 1, by omega⟩
              obtain rfl : i = cp + 1 := by omega
              exact XE q n' b rc rm nc nh (H nc nh (hs rfl))
            | succ d ihd =>
              intro i n nc nh hi hn _
              obtain ⟨n', rfl⟩ : ∃ n', n = n' + 1 := ⟨n - 1, by omega⟩
              refine XS q n' i b rc rm nc nh hVb (by omega) hrc (fun nc' nh' hs => ⟨fun h => absurd h hD, fun _ _ => ihd (i + 1) n' nc' nh' (by omega) (by omega) (fun _ => hs), fun _ hlt j hj e => ?_⟩)
              rcases hst with h | h
              · exact absurd (e.symm.trans h) (dv_m1 (by omega))
              · omega
          exact stall (cp + 1 - i) i n nc nh (by omega) (by omega) (fun h => by omega)
        · intro q i n hi hn H
          obtain ⟨n', rfl⟩ : ∃ n', n = n' + 1 := ⟨n - 1, by omega⟩
          refine YS q n' i b rc rm hVb (by omega) hrc (fun _ => H) (fun _ hlt j hj e => ?_)
          rcases hst with h | h
          · exact absurd (e.symm.trans h) (dv_m1 (by omega))
          · omega
      · have hlt : rc < 64 := by
          have h9 : ¬ 64 ≤ rc := fun h => hst (Or.inr h)
          omega
        have hPn : P b ≠ -1 := fun h => hst (Or.inl h)
        obtain ⟨j, hj, hPj, hbj⟩ : ∃ j, j < cp ∧ P b = nI j ∧ b j ≠ 0 := by
          rcases hP b hVb with h | h
          · exact absurd h hPn
          · exact h
        have hc := dv_cn_upd hbj cp hj
        have hR' : ∀ k, k < rc + 1 → ∃ j', j' < cp ∧ upd rm rc (nI j) k = nI j' ∧ G j' := by
          intro k hk
          by_cases e : k = rc
          · subst e
            exact ⟨j, hj, pk_us, hG b j hVb hbj⟩
          · obtain ⟨j', h1, h2, h3⟩ := hR k (by omega)
            exact ⟨j', h1, by rw [pk_un e]; exact h2, h3⟩
        obtain ⟨b', rc', rm', g1, g2, g3, gX, gY⟩ := ih (upd b j 0) (rc + 1) (upd rm rc (nI j)) (hV b j hVb) (by omega) hR' (by omega)
        refine ⟨b', rc', rm', g1, g2, g3, ?_, ?_⟩
        · intro q i n nc nh hi hn H
          obtain ⟨n', rfl⟩ : ∃ n', n = n' + 1 := ⟨n - 1, by omega⟩
          refine XS q n' i b rc rm nc nh hVb (by omega) hrc (fun nc' nh' hs => ⟨fun h => absurd h hD, fun _ h => absurd h hst, fun _ _ j' hj' e' => ?_⟩)
          obtain rfl : j = j' := (nI_eq (by omega) (by omega)).mp (hPj.symm.trans e')
          exact gX q (i + 1) n' nc' nh' (by omega) (by omega) H
        · intro q i n hi hn H
          obtain ⟨n', rfl⟩ : ∃ n', n = n' + 1 := ⟨n - 1, by omega⟩
          refine YS q n' i b rc rm hVb (by omega) hrc (fun h => ?_) (fun _ _ j' hj' e' => ?_)
          · rcases h with h | h
            · exact absurd h hD
            · exact absurd h hst
          · obtain rfl : j = j' := (nI_eq (by omega) (by omega)).mp (hPj.symm.trans e')
            exact gY q (i + 1) n' (by omega) (by omega) H
end
section
/-! the relation -/
/-- sizes and counters -/
def dv_Sz (k np ns cp cy rc : Nat) : Prop := 2 ≤ np ∧ np ≤ 8 ∧ 1 ≤ ns ∧ ns ≤ 4 ∧ 8 ≤ cp ∧ cp ≤ 64 ∧ cy ≤ k ∧ rc ≤ 64 ∧ (cy = 0 → rc = 0)
/-- what lies beyond the participants and securities is nought -/
def dv_Z (np ns : Nat) (ca ho : Nat → Int32) : Prop := (∀ p, np ≤ p → ca p = 0) ∧ (∀ p s, s < 4 → (np ≤ p ∨ ns ≤ s) → ho (p * 4 + s) = 0)
/-- the working flags beyond the slots are nought -/
def dv_Bt (cp : Nat) (xib yib : Nat → Int32) : Prop := (∀ j, cp ≤ j → xib j = 0) ∧ (∀ j, 64 ≤ j → yib j = 0)
def dv_St (st : Nat → Int32) : Prop := ∀ j, st j = 0 ∨ st j = 1 ∨ st j = 2 ∨ st j = 3 ∨ st j = 4
/-- both sides hold the same of every slot in use -/
def dv_Ag (st xse xbu xsc xqt xam xat xsy : Nat → Int32) (xsq : Nat → Int64) (yse ybu ysc yqt yam yat ysy : Nat → Int32) (ysq : Nat → Int64) : Prop :=
  ∀ j, st j ≠ 0 → xse j = yse j ∧ xbu j = ybu j ∧ xsc j = ysc j ∧ xqt j = yqt j ∧ xam j = yam j ∧ xat j = yat j ∧ xsy j = ysy j ∧ xsq j = ysq j
def i_Rel (k : Nat) (u : SX) (v : SY) : Prop :=
  ∃ (np ns cp cy rc : Nat) (mr : Int32) (nq : Int64) (ca ho st rm xse xbu xsc xqt xam xat xsy xib xnc xnh yse ybu ysc yqt yam yat ysy yib ync ynh : Nat → Int32) (xsq ysq : Nat → Int64),
    u = (nI np, nI ns, nI cp, mr, nI rc, nq, nI cy, ca, ho, st, xse, xbu, xsc, xqt, xam, xat, xsy, xsq, xib, xnc, xnh, rm) ∧ v = (nI np, nI ns, nI cp, mr, nI cy, nI rc, nq, ca, ho, yse, ybu, ysc, yqt, yam, st, yat, ysy, ysq, rm, ync, ynh, yib) ∧
    dv_Sz k np ns cp cy rc ∧ dv_Z np ns ca ho ∧ dv_Z np ns ync ynh ∧ dv_Bt cp xib yib ∧ dv_St st ∧ dv_Ag st xse xbu xsc xqt xam xat xsy xsq yse ybu ysc yqt yam yat ysy ysq ∧ dv_Val np ns st xse xbu xsc
section
variable {k np ns cp cy rc : Nat} {mr : Int32} {nq : Int64} {ca ho st rm xse xbu xsc xqt xam xat xsy xib xnc xnh yse ybu ysc yqt yam yat ysy yib ync ynh : Nat → Int32} {xsq ysq : Nat → Int64}
theorem dv_rel (h1 : dv_Sz k np ns cp cy rc) (h2 : dv_Z np ns ca ho) (h3 : dv_Z np ns ync ynh) (h4 : dv_Bt cp xib yib) (h5 : dv_St st) (h6 : dv_Ag st xse xbu xsc xqt xam xat xsy xsq yse ybu ysc yqt yam yat ysy ysq) (h7 : dv_Val np ns st xse xbu xsc) : i_Rel k (nI np, nI ns, nI cp, mr, nI rc, nq, nI cy, ca, ho, st, xse, xbu, xsc, xqt, xam, xat, xsy, xsq, xib, xnc, xnh, rm) (nI np, nI ns, nI cp, mr, nI cy, nI rc, nq, ca, ho, yse, ybu, ysc, yqt, yam, st, yat, ysy, ysq, rm, ync, ynh, yib) :=
  ⟨np, ns, cp, cy, rc, mr, nq, ca, ho, st, rm, xse, xbu, xsc, xqt, xam, xat, xsy, xib, xnc, xnh, yse, ybu, ysc, yqt, yam, yat, ysy, yib, ync, ynh, xsq, ysq, rfl, rfl, h1, h2, h3, h4, h5, h6, h7⟩
theorem dv_Sz_up (h : dv_Sz k np ns cp cy rc) : dv_Sz (k + 5) np ns cp cy rc := by
  obtain ⟨h1, h2, h3, h4, h5, h6, h7, h8, h9⟩ := h
  exact ⟨h1, h2, h3, h4, h5, h6, by omega, h8, h9⟩
theorem dv_Ag_st {st' : Nat → Int32} (h : dv_Ag st xse xbu xsc xqt xam xat xsy xsq yse ybu ysc yqt yam yat ysy ysq) (hs : ∀ j, st' j ≠ 0 → st j ≠ 0) : dv_Ag st' xse xbu xsc xqt xam xat xsy xsq yse ybu ysc yqt yam yat ysy ysq := fun j hj => h j (hs j hj)
theorem dv_Val_st {st' : Nat → Int32} (h : dv_Val np ns st xse xbu xsc) (hs : ∀ j, st' j ≠ 0 → st j ≠ 0) : dv_Val np ns st' xse xbu xsc := fun j hj => h j (hs j hj)
theorem dv_St_upd {j : Nat} {x : Int32} (h : dv_St st) (hx : x = 0 ∨ x = 1 ∨ x = 2 ∨ x = 3 ∨ x = 4) : dv_St (upd st j x) := by
  intro i
  by_cases e : i = j
  · rw [e, pk_us]; exact hx
  · rw [pk_un e]; exact h i
theorem dv_st_upd {j : Nat} {x : Int32} (h : st j ≠ 0) : ∀ i, upd st j x i ≠ 0 → st i ≠ 0 := by
  intro i hi
  by_cases e : i = j
  · rw [e]; exact h
  · rw [pk_un e] at hi; exact hi
end
theorem i_up {k : Nat} {u : SX} {v : SY} (h : i_Rel k u v) : i_Rel (k + 5) u v := by
  obtain ⟨np, ns, cp, cy, rc, mr, nq, ca, ho, st, rm, xse, xbu, xsc, xqt, xam, xat, xsy, xib, xnc, xnh, yse, ybu, ysc, yqt, yam, yat, ysy, yib, ync, ynh, xsq, ysq, rfl, rfl, h1, h2, h3, h4, h5, h6, h7⟩ := h
  exact dv_rel (dv_Sz_up h1) h2 h3 h4 h5 h6 h7
end
section
/-! the relation after a cycle -/
section
variable {k np ns cp cy rc : Nat} {mr : Int32} {nq : Int64} {ca ho st rm xse xbu xsc xqt xam xat xsy xib xnc xnh yse ybu ysc yqt yam yat ysy yib ync ynh : Nat → Int32} {xsq ysq : Nat → Int64}
/-- a batch holds queued slots alone -/
def dv_V (cp : Nat) (st b : Nat → Int32) : Prop := ∀ j, b j ≠ 0 → j < cp ∧ st j = 1
theorem dv_1 : (1 : Int32) ≠ 0 := by decide
theorem dv_V_upd {b : Nat → Int32} (j : Nat) (h : dv_V cp st b) : dv_V cp st (upd b j 0) := by
  intro i hi
  by_cases e : i = j
  · rw [e, pk_us] at hi; exact absurd rfl hi
  · rw [pk_un e] at hi; exact h i hi
theorem dv_V_bt : dv_V cp st (dv_bt st cp) := by
  intro j hj
  by_cases c : j < cp ∧ st j = 1
  · exact c
  · exact absurd (if_neg c) hj
theorem dv_V_st {b : Nat → Int32} (h : dv_V cp st b) {j : Nat} (hj : b j ≠ 0) : st j ≠ 0 := by
  rw [(h j hj).2]; exact dv_1
theorem dv_V_val {b : Nat → Int32} (h : dv_V cp st b) (h7 : dv_Val np ns st xse xbu xsc) : dv_Val np ns b xse xbu xsc := fun j hj => h7 j (dv_V_st h hj)
theorem dv_Val_y (h6 : dv_Ag st xse xbu xsc xqt xam xat xsy xsq yse ybu ysc yqt yam yat ysy ysq) (h7 : dv_Val np ns st xse xbu xsc) : dv_Val np ns st yse ybu ysc := by
  intro j hj
  obtain ⟨A, B, C, g1, g2, g3, g4, g5, g6, g7⟩ := h7 j hj
  obtain ⟨e1, e2, e3, _⟩ := h6 j hj
  exact ⟨A, B, C, g1, g2, g3, g4, e1.symm.trans g5, e2.symm.trans g6, e3.symm.trans g7⟩
/-- nets over a batch -/
def dv_Sp (cp : Nat) (ca ho se bu sc qt am b nc nh : Nat → Int32) : Prop := (∀ p, p < 8 → nc p = dv_nc ca b se bu am p cp) ∧ (∀ p s, p < 8 → s < 4 → nh (p * 4 + s) = dv_nh ho b se bu sc qt p s cp)
theorem dv_fin_st {b' rm' f : Nat → Int32} {rc' : Nat} (hV : dv_V cp st b') (hR : ∀ k, k < rc' → ∃ j, j < cp ∧ rm' k = nI j ∧ st j = 1) (hcp : cp ≤ 64) :
    ∀ j, dv_fs rm' f (dv_mk b' st 2 cp) mr rc' j ≠ 0 → st j ≠ 0 := by
  intro j hj
  rcases dv_fs_or rm' f (dv_mk b' st 2 cp) mr j rc' with e | ⟨_, i, hi, e⟩
  · rw [e] at hj
    by_cases c : j < cp ∧ b' j ≠ 0
    · exact dv_V_st hV c.2
    · rw [dv_mk_no c] at hj; exact hj
  · obtain ⟨l, hl, e2, e3⟩ := hR i hi
    rw [e2, nI_clamp (by omega)] at e
    rw [e, e3]; exact dv_1
theorem dv_fin_St {b' rm' f : Nat → Int32} {rc' : Nat} (h5 : dv_St st) : dv_St (dv_fs rm' f (dv_mk b' st 2 cp) mr rc') := by
  intro j
  rcases dv_fs_or rm' f (dv_mk b' st 2 cp) mr j rc' with e | ⟨e, _⟩
  · rw [e]
    by_cases c : j < cp ∧ b' j ≠ 0
    · rw [dv_mk_ye c]; exact Or.inr (Or.inr (Or.inl rfl))
    · rw [dv_mk_no c]; exact h5 j
  · rw [e]; exact Or.inr (Or.inr (Or.inr (Or.inr rfl)))
theorem dv_fin_ca {b' nc nh nc2 : Nat → Int32} (n8 : np ≤ 8) (h2 : dv_Z np ns ca ho) (h3 : dv_Z np ns ync ynh) (h6 : ∀ j, b' j ≠ 0 → xse j = yse j ∧ xbu j = ybu j ∧ xam j = yam j) (h7 : dv_Val np ns b' xse xbu xsc)
    (hS : dv_Sp cp ca ho xse xbu xsc xqt xam b' nc nh) (hN : nc2 = dv_cpy (fun p => dv_nc ca b' yse ybu yam p cp) ync np) : dv_cpy nc2 ca 8 = dv_cpy nc ca 8 := by
  funext j
  by_cases c : j < 8
  · rw [dv_cpy_lt c, dv_cpy_lt c, hS.1 j c, hN]
    by_cases d : j < np
    · rw [dv_cpy_lt d]
      exact (dv_nc_congr h6 j cp).symm
    · rw [dv_cpy_ge d, h3.1 j (by omega), dv_nc_out n8 h7 (by omega) c cp, h2.1 j (by omega)]
  · rw [dv_cpy_ge c, dv_cpy_ge c]
theorem dv_fin_ho {b' nc nh nh2 : Nat → Int32} (n8 : np ≤ 8) (s4 : ns ≤ 4) (h2 : dv_Z np ns ca ho) (h3 : dv_Z np ns ync ynh) (h6 : ∀ j, b' j ≠ 0 → xse j = yse j ∧ xbu j = ybu j ∧ xsc j = ysc j ∧ xqt j = yqt j) (h7 : dv_Val np ns b' xse xbu xsc)
    (hS : dv_Sp cp ca ho xse xbu xsc xqt xam b' nc nh) (hN : dv_Hs (fun p s => dv_nh ho b' yse ybu ysc yqt p s cp) ynh ns np 0 nh2) : dv_cpy nh2 ho 32 = dv_cpy nh ho 32 := by
  funext j
  by_cases c : j < 32
  · obtain ⟨p, s, hs, rfl⟩ : ∃ p s, s < 4 ∧ j = p * 4 + s := ⟨j / 4, j % 4, by omega, by omega⟩
    have hp : p < 8 := by omega
    rw [dv_cpy_lt c, dv_cpy_lt c, hS.2 p s hp hs, hN p s hs]
    by_cases d : p < np ∧ s < ns
    · rw [if_pos (by omega)]
      exact (dv_nh_congr h6 p s cp).symm
    · rw [if_neg (by omega), h3.2 p s hs (by omega), dv_nh_out n8 s4 h7 (by omega) hp hs cp, h2.2 p s hs (by omega)]
  · rw [dv_cpy_ge c, dv_cpy_ge c]
theorem dv_fin_Z {b' nc nh : Nat → Int32} (n8 : np ≤ 8) (s4 : ns ≤ 4) (h2 : dv_Z np ns ca ho) (h7 : dv_Val np ns b' xse xbu xsc) (hS : dv_Sp cp ca ho xse xbu xsc xqt xam b' nc nh) : dv_Z np ns (dv_cpy nc ca 8) (dv_cpy nh ho 32) := by
  constructor
  · intro p hp
    by_cases c : p < 8
    · rw [dv_cpy_lt c, hS.1 p c, dv_nc_out n8 h7 hp c cp, h2.1 p hp]
    · rw [dv_cpy_ge c, h2.1 p hp]
  · intro p s hs hp
    by_cases c : p < 8
    · rw [dv_cpy_lt (by omega), hS.2 p s c hs, dv_nh_out n8 s4 h7 hp c hs cp, h2.2 p s hs hp]
    · rw [dv_cpy_ge (by omega), h2.2 p s hs hp]
theorem dv_fin_Z2 {N nc2 nh2 : Nat → Int32} {NH : Nat → Nat → Int32} (h3 : dv_Z np ns ync ynh) (hN : nc2 = dv_cpy N ync np) (hH : dv_Hs NH ynh ns np 0 nh2) : dv_Z np ns nc2 nh2 := by
  constructor
  · intro p hp
    rw [hN, dv_cpy_ge (by omega), h3.1 p hp]
  · intro p s hs hp
    rw [hH p s hs, if_neg (by omega), h3.2 p s hs hp]
theorem dv_fin {b' rm' nc nh nc2 nh2 : Nat → Int32} {rc' : Nat} (h1 : dv_Sz k np ns cp cy rc) (h2 : dv_Z np ns ca ho) (h3 : dv_Z np ns ync ynh) (h5 : dv_St st)
    (h6 : dv_Ag st xse xbu xsc xqt xam xat xsy xsq yse ybu ysc yqt yam yat ysy ysq) (h7 : dv_Val np ns st xse xbu xsc)
    (hV : dv_V cp st b') (h64 : rc' ≤ 64) (hR : ∀ k, k < rc' → ∃ j, j < cp ∧ rm' k = nI j ∧ st j = 1)
    (hS : dv_Sp cp ca ho xse xbu xsc xqt xam b' nc nh) (hN : nc2 = dv_cpy (fun p => dv_nc ca b' yse ybu yam p cp) ync np)
    (hH : dv_Hs (fun p s => dv_nh ho b' yse ybu ysc yqt p s cp) ynh ns np 0 nh2) :
    i_Rel (k + 5) (nI np, nI ns, nI cp, mr, nI rc', nq, nI (cy + 1), dv_cpy nc ca 8, dv_cpy nh ho 32, dv_fs rm' xat (dv_mk b' st 2 cp) mr rc', xse, xbu, xsc, xqt, xam, dv_at rm' xat rc', dv_mk b' xsy (nI (cy + 1)) cp, xsq, b', nc, nh, rm')
      (nI np, nI ns, nI cp, mr, nI (cy + 1), nI rc', nq, dv_cpy nc2 ca 8, dv_cpy nh2 ho 32, yse, ybu, ysc, yqt, yam, dv_fs rm' yat (dv_mk b' st 2 cp) mr rc', dv_at rm' yat rc', dv_mk b' ysy (nI (cy + 1)) cp, ysq, rm', nc2, nh2, dv_mk b' b' 0 cp) := by
  obtain ⟨n2, n8, s1, s4, c8, c64, cyk, r64, cy0⟩ := h1
  have hVv := dv_V_val hV h7
  have A : ∀ j, b' j ≠ 0 → xse j = yse j ∧ xbu j = ybu j ∧ xsc j = ysc j ∧ xqt j = yqt j ∧ xam j = yam j := by
    intro j hj
    obtain ⟨e1, e2, e3, e4, e5, _⟩ := h6 j (dv_V_st hV hj)
    exact ⟨e1, e2, e3, e4, e5⟩
  have eC : dv_cpy nc2 ca 8 = dv_cpy nc ca 8 := dv_fin_ca n8 h2 h3 (fun j hj => ⟨(A j hj).1, (A j hj).2.1, (A j hj).2.2.2.2⟩) hVv hS hN
  have eH : dv_cpy nh2 ho 32 = dv_cpy nh ho 32 := dv_fin_ho n8 s4 h2 h3 (fun j hj => ⟨(A j hj).1, (A j hj).2.1, (A j hj).2.2.1, (A j hj).2.2.2.1⟩) hVv hS hH
  have eS : dv_fs rm' yat (dv_mk b' st 2 cp) mr rc' = dv_fs rm' xat (dv_mk b' st 2 cp) mr rc' := by
    refine dv_fs_congr (fun i hi => ?_)
    obtain ⟨l, hl, e2, e3⟩ := hR i hi
    rw [e2, nI_clamp (by omega)]
    exact (h6 l (by rw [e3]; exact dv_1)).2.2.2.2.2.1.symm
  rw [eC, eH, eS]
  have hst : ∀ j, dv_fs rm' xat (dv_mk b' st 2 cp) mr rc' j ≠ 0 → st j ≠ 0 := dv_fin_st hV hR c64
  refine dv_rel ⟨n2, n8, s1, s4, c8, c64, by omega, h64, fun h => by omega⟩ (dv_fin_Z n8 s4 h2 hVv hS) (dv_fin_Z2 h3 hN hH) ⟨?_, ?_⟩ (dv_fin_St h5) ?_ (dv_Val_st h7 hst)
  · intro j hj
    by_cases c : b' j = 0
    · exact c
    · have := (hV j c).1
      omega
  · intro j hj
    rw [dv_mk_no (by omega)]
    by_cases c : b' j = 0
    · exact c
    · have := (hV j c).1
      omega
  · intro j hj
    obtain ⟨e1, e2, e3, e4, e5, e6, e7, e8⟩ := h6 j (hst j hj)
    refine ⟨e1, e2, e3, e4, e5, dv_at_congr e6 rc', ?_, e8⟩
    by_cases c : j < cp ∧ b' j ≠ 0
    · rw [dv_mk_ye c, dv_mk_ye c]
    · rw [dv_mk_no c, dv_mk_no c]; exact e7
end
end
section
section
variable {np ns cp cy rc : Nat} {mr : Int32} {nq : Int64} {ca ho st rm xse xbu xsc xqt xam xat xsy xib xnc xnh yse ybu ysc yqt yam yat ysy yib ync ynh : Nat → Int32} {xsq ysq : Nat → Int64}
theorem xm_part_t {post : Int32 → Prop} {j : Nat} (hn : np ≤ 8) (hj : j < np) (h : post 1) : wpX_isParticipant post (nI np, nI ns, nI cp, mr, nI rc, nq, nI cy, ca, ho, st, xse, xbu, xsc, xqt, xam, xat, xsy, xsq, xib, xnc, xnh, rm) (nI j) := br_f (nI_pos (by omega)) (br_f (nI_ge hj (by omega)) h)
theorem xm_part_f {post : Int32 → Prop} {p : Int32} (hp : p < 0 ∨ nI np ≤ p) (h : post 0) : wpX_isParticipant post (nI np, nI ns, nI cp, mr, nI rc, nq, nI cy, ca, ho, st, xse, xbu, xsc, xqt, xam, xat, xsy, xsq, xib, xnc, xnh, rm) p := br_c (fun _ => h) (fun z => br_t (hp.resolve_left z) h)
theorem xm_sec_t {post : Int32 → Prop} {j : Nat} (hn : ns ≤ 4) (hj : j < ns) (h : post 1) : wpX_isSecurity post (nI np, nI ns, nI cp, mr, nI rc, nq, nI cy, ca, ho, st, xse, xbu, xsc, xqt, xam, xat, xsy, xsq, xib, xnc, xnh, rm) (nI j) := br_f (nI_pos (by omega)) (br_f (nI_ge hj (by omega)) h)
theorem xm_sec_f {post : Int32 → Prop} {p : Int32} (hp : p < 0 ∨ nI ns ≤ p) (h : post 0) : wpX_isSecurity post (nI np, nI ns, nI cp, mr, nI rc, nq, nI cy, ca, ho, st, xse, xbu, xsc, xqt, xam, xat, xsy, xsq, xib, xnc, xnh, rm) p := br_c (fun _ => h) (fun z => br_t (hp.resolve_left z) h)
theorem xm_slot_t {post : Int32 → Prop} {j : Nat} (hn : cp ≤ 64) (hj : j < cp) (h : post 1) : wpX_isSlot post (nI np, nI ns, nI cp, mr, nI rc, nq, nI cy, ca, ho, st, xse, xbu, xsc, xqt, xam, xat, xsy, xsq, xib, xnc, xnh, rm) (nI j) := br_f (nI_pos (by omega)) (br_f (nI_ge hj (by omega)) h)
theorem xm_slot_f {post : Int32 → Prop} {p : Int32} (hp : p < 0 ∨ nI cp ≤ p) (h : post 0) : wpX_isSlot post (nI np, nI ns, nI cp, mr, nI rc, nq, nI cy, ca, ho, st, xse, xbu, xsc, xqt, xam, xat, xsy, xsq, xib, xnc, xnh, rm) p := br_c (fun _ => h) (fun z => br_t (hp.resolve_left z) h)
theorem xm_in_t {post : Int32 → Prop} {x a b : Int32} (h1 : ¬ x < a) (h2 : ¬ b < x) (h : post 1) : wpX_isWithin post x a b := br_f h1 (br_f h2 h)
theorem xm_in_f {post : Int32 → Prop} {x a b : Int32} (hx : x < a ∨ b < x) (h : post 0) : wpX_isWithin post x a b := br_c (fun _ => h) (fun z => br_t (hx.resolve_left z) h)
theorem xm_q_t {post : Int32 → Prop} {j : Nat} (hn : cp ≤ 64) (hj : j < cp) (hs : st j = 1) (h : post 1) : wpX_isQueued post (nI np, nI ns, nI cp, mr, nI rc, nq, nI cy, ca, ho, st, xse, xbu, xsc, xqt, xam, xat, xsy, xsq, xib, xnc, xnh, rm) (nI j) := by
  unfold wpX_isQueued
  exact xm_slot_t hn hj (br_f (by decide) ⟨vp_in_nI (by omega) (by omega), br_t (by rw [nI_clamp (by omega)]; exact hs) h⟩)
theorem xm_q_f {post : Int32 → Prop} {p : Int32} (hn : cp ≤ 64) (hp : p < 0 ∨ nI cp ≤ p ∨ ∃ j, j < cp ∧ p = nI j ∧ st j ≠ 1) (h : post 0) : wpX_isQueued post (nI np, nI ns, nI cp, mr, nI rc, nq, nI cy, ca, ho, st, xse, xbu, xsc, xqt, xam, xat, xsy, xsq, xib, xnc, xnh, rm) p := by
  unfold wpX_isQueued
  rcases hp with h0 | h0 | ⟨j, hj, rfl, hs⟩
  · exact xm_slot_f (Or.inl h0) (br_t rfl h)
  · exact xm_slot_f (Or.inr h0) (br_t rfl h)
  · exact xm_slot_t hn hj (br_f (by decide) ⟨vp_in_nI (by omega) (by omega), br_f (by rw [nI_clamp (by omega)]; exact hs) h⟩)
theorem xm_hix {post : Int32 → Prop} {p s : Nat} (h : post (nI (p * 4 + s))) : wpX_holdingIndex post (nI p) (nI s) := by
  unfold wpX_holdingIndex
  rw [dv_hx]
  exact h
theorem xm_totCash {post : Int32 → Prop} (hn : np ≤ 8) (h : post (dv_sum ca np)) : wpX_totalCash post (nI np, nI ns, nI cp, mr, nI rc, nq, nI cy, ca, ho, st, xse, xbu, xsc, xqt, xam, xat, xsy, xsq, xib, xnc, xnh, rm) :=
  loop_0 (fun n i s => wX_totalCash_4 post (nI np) (nI ns) (nI cp) mr (nI rc) nq (nI cy) ca ho st xse xbu xsc xqt xam xat xsy xsq xib xnc xnh rm n s (nI i)) (fun i s => s = dv_sum ca i) np 0 rfl
    (fun n s hs => br_t (nI_le (Nat.le_refl _) (by omega)) (by rw [hs]; exact h))
    (fun n i s hi hs ih => br_f (nI_ge hi (by omega)) ⟨vp_in_nI (by omega) (by omega), nm_r (by rw [nI_clamp (by omega), hs]; rfl) (nm_r (nI_1 i) (ih (dv_sum ca (i + 1)) rfl))⟩)
theorem ym_totCash {post : Int32 → Prop} (hn : np ≤ 8) (h : post (dv_sum ca np)) : wpY_totalCash post (nI np, nI ns, nI cp, mr, nI cy, nI rc, nq, ca, ho, yse, ybu, ysc, yqt, yam, st, yat, ysy, ysq, rm, ync, ynh, yib) :=
  loop_0 (fun n i s => wY_totalCash_4 post (nI np) (nI ns) (nI cp) mr (nI cy) (nI rc) nq ca ho yse ybu ysc yqt yam st yat ysy ysq rm ync ynh yib n s (nI i)) (fun i s => s = dv_sum ca i) np 0 rfl
    (fun n s hs => br_t (nI_le (Nat.le_refl _) (by omega)) (by rw [hs]; exact h))
    (fun n i s hi hs ih => br_f (nI_ge hi (by omega)) ⟨vp_in_nI (by omega) (by omega), nm_r (by rw [nI_clamp (by omega), hs]; rfl) (nm_r (nI_1 i) (ih (dv_sum ca (i + 1)) rfl))⟩)
end
theorem i_vc_cash {k : Nat} {u : SX} {v : SY} (I : i_Rel k u v) (hk : k + 5 ≤ 2564) (v1 : Int32) : wpX_cash (fun r => wpY_cash (fun r' => r' = r ∧ i_Rel (k + 5) u v) v v1) u v1 := by
  obtain ⟨np, ns, cp, cy, rc, mr, nq, ca, ho, st, rm, xse, xbu, xsc, xqt, xam, xat, xsy, xib, xnc, xnh, yse, ybu, ysc, yqt, yam, yat, ysy, yib, ync, ynh, xsq, ysq, rfl, rfl, h1, h2, h3, h4, h5, h6, h7⟩ := I
  have R : i_Rel (k + 5) (nI np, nI ns, nI cp, mr, nI rc, nq, nI cy, ca, ho, st, xse, xbu, xsc, xqt, xam, xat, xsy, xsq, xib, xnc, xnh, rm) (nI np, nI ns, nI cp, mr, nI cy, nI rc, nq, ca, ho, yse, ybu, ysc, yqt, yam, st, yat, ysy, ysq, rm, ync, ynh, yib) := dv_rel (dv_Sz_up h1) h2 h3 h4 h5 h6 h7
  have h1' := h1
  obtain ⟨n2, n8, s1, s4, c8, c64, cyk, r64, cy0⟩ := h1
  unfold wpX_cash wpY_cash
  rcases pk_ix v1 (n := np) (by omega) with h | h | ⟨j, hj, rfl⟩
  · exact xm_part_f (Or.inl h) (br_t rfl (br_t h ⟨rfl, R⟩))
  · exact xm_part_f (Or.inr h) (br_t rfl (br_c (fun _ => ⟨rfl, R⟩) (fun _ => br_f (dv_nlt h) ⟨rfl, R⟩)))
  · have hi : vp_in (nI j) 8 := vp_in_nI (by omega) (by omega)
    exact xm_part_t n8 hj (br_f (by decide) ⟨hi, br_f (nI_pos (by omega)) (br_t (nI_lt hj (by omega)) ⟨hi, rfl, R⟩)⟩)
end
section
section
variable {np ns cp cy rc : Nat} {mr : Int32} {nq : Int64} {ca ho st rm xse xbu xsc xqt xam xat xsy xib xnc xnh yse ybu ysc yqt yam yat ysy yib ync ynh : Nat → Int32} {xsq ysq : Nat → Int64}
theorem xm_totHold {post : Int32 → Prop} {s : Nat} (hn : np ≤ 8) (s4 : ns ≤ 4) (hs : s < ns) (h : post (dv_sum (fun p => ho (p * 4 + s)) np)) : wpX_totalHolding post (nI np, nI ns, nI cp, mr, nI rc, nq, nI cy, ca, ho, st, xse, xbu, xsc, xqt, xam, xat, xsy, xsq, xib, xnc, xnh, rm) (nI s) := by
  unfold wpX_totalHolding
  refine xm_sec_t s4 hs (br_f (by decide) ?_)
  exact loop_0 (fun n i t => wX_totalHolding_14 post (nI s) (nI np) (nI ns) (nI cp) mr (nI rc) nq (nI cy) ca ho st xse xbu xsc xqt xam xat xsy xsq xib xnc xnh rm n t (nI i)) (fun i t => t = dv_sum (fun p => ho (p * 4 + s)) i) np 0 rfl
    (fun n t ht => br_t (nI_le (Nat.le_refl _) (by omega)) (by rw [ht]; exact h))
    (fun n i t hi ht ih => br_f (nI_ge hi (by omega)) (xm_hix ⟨vp_in_nI (by omega) (by omega), nm_r (by rw [nI_clamp (by omega), ht]; rfl) (nm_r (nI_1 i) (ih (dv_sum (fun p => ho (p * 4 + s)) (i + 1)) rfl))⟩))
theorem ym_totHold {post : Int32 → Prop} {s : Nat} (hn : np ≤ 8) (s4 : ns ≤ 4) (hs : s < ns) (h : post (dv_sum (fun p => ho (p * 4 + s)) np)) : wpY_totalHolding post (nI np, nI ns, nI cp, mr, nI cy, nI rc, nq, ca, ho, yse, ybu, ysc, yqt, yam, st, yat, ysy, ysq, rm, ync, ynh, yib) (nI s) := by
  unfold wpY_totalHolding
  refine br_f (nI_pos (by omega)) (br_t (nI_lt hs (by omega)) ?_)
  exact loop_0 (fun n i t => wY_totalHolding_18 post (nI s) (nI np) (nI ns) (nI cp) mr (nI cy) (nI rc) nq ca ho yse ybu ysc yqt yam st yat ysy ysq rm ync ynh yib n t (nI i)) (fun i t => t = dv_sum (fun p => ho (p * 4 + s)) i) np 0 rfl
    (fun n t ht => br_t (nI_le (Nat.le_refl _) (by omega)) (by rw [ht]; exact h))
    (fun n i t hi ht ih => br_f (nI_ge hi (by omega)) ⟨by rw [dv_hx]; exact vp_in_nI (by omega) (by omega), nm_r (by rw [dv_hx, nI_clamp (by omega), ht]; rfl) (nm_r (nI_1 i) (ih (dv_sum (fun p => ho (p * 4 + s)) (i + 1)) rfl))⟩)
end
theorem i_vc_holding {k : Nat} {u : SX} {v : SY} (I : i_Rel k u v) (hk : k + 5 ≤ 2564) (v1 : Int32) (v2 : Int32) : wpX_holding (fun r => wpY_holding (fun r' => r' = r ∧ i_Rel (k + 5) u v) v v1 v2) u v1 v2 := by
  obtain ⟨np, ns, cp, cy, rc, mr, nq, ca, ho, st, rm, xse, xbu, xsc, xqt, xam, xat, xsy, xib, xnc, xnh, yse, ybu, ysc, yqt, yam, yat, ysy, yib, ync, ynh, xsq, ysq, rfl, rfl, h1, h2, h3, h4, h5, h6, h7⟩ := I
  have R : i_Rel (k + 5) (nI np, nI ns, nI cp, mr, nI rc, nq, nI cy, ca, ho, st, xse, xbu, xsc, xqt, xam, xat, xsy, xsq, xib, xnc, xnh, rm) (nI np, nI ns, nI cp, mr, nI cy, nI rc, nq, ca, ho, yse, ybu, ysc, yqt, yam, st, yat, ysy, ysq, rm, ync, ynh, yib) := dv_rel (dv_Sz_up h1) h2 h3 h4 h5 h6 h7
  have h1' := h1
  obtain ⟨n2, n8, s1, s4, c8, c64, cyk, r64, cy0⟩ := h1
  unfold wpX_holding wpY_holding
  rcases pk_ix v1 (n := np) (by omega) with h | h | ⟨j, hj, rfl⟩
  · exact xm_part_f (Or.inl h) (br_t rfl (br_t h ⟨rfl, R⟩))
  · exact xm_part_f (Or.inr h) (br_t rfl (br_c (fun _ => ⟨rfl, R⟩) (fun _ => br_t h ⟨rfl, R⟩)))
  · refine xm_part_t n8 hj (br_f (by decide) ?_)
    rcases pk_ix v2 (n := ns) (by omega) with h | h | ⟨s, hs, rfl⟩
    · exact xm_sec_f (Or.inl h) (br_t rfl (br_f (nI_pos (by omega)) (br_f (nI_ge hj (by omega)) (br_t h ⟨rfl, R⟩))))
    · exact xm_sec_f (Or.inr h) (br_t rfl (br_f (nI_pos (by omega)) (br_f (nI_ge hj (by omega)) (br_c (fun _ => ⟨rfl, R⟩) (fun _ => br_f (dv_nlt h) ⟨rfl, R⟩)))))
    · have hi : vp_in (nI j * 4 + nI s) 32 := by rw [dv_hx]; exact vp_in_nI (by omega) (by omega)
      refine xm_sec_t s4 hs (br_f (by decide) (xm_hix ?_))
      rw [dv_hx] at hi
      rw [dv_hx]
      exact ⟨hi, br_f (nI_pos (by omega)) (br_f (nI_ge hj (by omega)) (br_f (nI_pos (by omega)) (br_t (nI_lt hs (by omega)) ⟨hi, rfl, R⟩)))⟩
theorem i_vc_totalCash {k : Nat} {u : SX} {v : SY} (I : i_Rel k u v) (hk : k + 5 ≤ 2564) : wpX_totalCash (fun r => wpY_totalCash (fun r' => r' = r ∧ i_Rel (k + 5) u v) v) u := by
  obtain ⟨np, ns, cp, cy, rc, mr, nq, ca, ho, st, rm, xse, xbu, xsc, xqt, xam, xat, xsy, xib, xnc, xnh, yse, ybu, ysc, yqt, yam, yat, ysy, yib, ync, ynh, xsq, ysq, rfl, rfl, h1, h2, h3, h4, h5, h6, h7⟩ := I
  have R : i_Rel (k + 5) (nI np, nI ns, nI cp, mr, nI rc, nq, nI cy, ca, ho, st, xse, xbu, xsc, xqt, xam, xat, xsy, xsq, xib, xnc, xnh, rm) (nI np, nI ns, nI cp, mr, nI cy, nI rc, nq, ca, ho, yse, ybu, ysc, yqt, yam, st, yat, ysy, ysq, rm, ync, ynh, yib) := dv_rel (dv_Sz_up h1) h2 h3 h4 h5 h6 h7
  have h1' := h1
  obtain ⟨n2, n8, s1, s4, c8, c64, cyk, r64, cy0⟩ := h1
  exact xm_totCash n8 (ym_totCash n8 ⟨rfl, R⟩)
theorem i_vc_totalHolding {k : Nat} {u : SX} {v : SY} (I : i_Rel k u v) (hk : k + 5 ≤ 2564) (v1 : Int32) : wpX_totalHolding (fun r => wpY_totalHolding (fun r' => r' = r ∧ i_Rel (k + 5) u v) v v1) u v1 := by
  obtain ⟨np, ns, cp, cy, rc, mr, nq, ca, ho, st, rm, xse, xbu, xsc, xqt, xam, xat, xsy, xib, xnc, xnh, yse, ybu, ysc, yqt, yam, yat, ysy, yib, ync, ynh, xsq, ysq, rfl, rfl, h1, h2, h3, h4, h5, h6, h7⟩ := I
  have R : i_Rel (k + 5) (nI np, nI ns, nI cp, mr, nI rc, nq, nI cy, ca, ho, st, xse, xbu, xsc, xqt, xam, xat, xsy, xsq, xib, xnc, xnh, rm) (nI np, nI ns, nI cp, mr, nI cy, nI rc, nq, ca, ho, yse, ybu, ysc, yqt, yam, st, yat, ysy, ysq, rm, ync, ynh, yib) := dv_rel (dv_Sz_up h1) h2 h3 h4 h5 h6 h7
  have h1' := h1
  obtain ⟨n2, n8, s1, s4, c8, c64, cyk, r64, cy0⟩ := h1
  rcases pk_ix v1 (n := ns) (by omega) with h | h | ⟨s, hs, rfl⟩
  · unfold wpX_totalHolding wpY_totalHolding
    exact xm_sec_f (Or.inl h) (br_t rfl (br_t h ⟨rfl, R⟩))
  · unfold wpX_totalHolding wpY_totalHolding
    exact xm_sec_f (Or.inr h) (br_t rfl (br_c (fun _ => ⟨rfl, R⟩) (fun _ => br_f (dv_nlt h) ⟨rfl, R⟩)))
  · exact xm_totHold n8 s4 hs (ym_totHold n8 s4 hs ⟨rfl, R⟩)
theorem i_vc_status {k : Nat} {u : SX} {v : SY} (I : i_Rel k u v) (hk : k + 5 ≤ 2564) (v1 : Int32) : wpX_status (fun r => wpY_status (fun r' => r' = r ∧ i_Rel (k + 5) u v) v v1) u v1 := by
  obtain ⟨np, ns, cp, cy, rc, mr, nq, ca, ho, st, rm, xse, xbu, xsc, xqt, xam, xat, xsy, xib, xnc, xnh, yse, ybu, ysc, yqt, yam, yat, ysy, yib, ync, ynh, xsq, ysq, rfl, rfl, h1, h2, h3, h4, h5, h6, h7⟩ := I
  have R : i_Rel (k + 5) (nI np, nI ns, nI cp, mr, nI rc, nq, nI cy, ca, ho, st, xse, xbu, xsc, xqt, xam, xat, xsy, xsq, xib, xnc, xnh, rm) (nI np, nI ns, nI cp, mr, nI cy, nI rc, nq, ca, ho, yse, ybu, ysc, yqt, yam, st, yat, ysy, ysq, rm, ync, ynh, yib) := dv_rel (dv_Sz_up h1) h2 h3 h4 h5 h6 h7
  have h1' := h1
  obtain ⟨n2, n8, s1, s4, c8, c64, cyk, r64, cy0⟩ := h1
  unfold wpX_status wpY_status
  rcases pk_ix v1 (n := cp) (by omega) with h | h | ⟨j, hj, rfl⟩
  · exact xm_slot_f (Or.inl h) (br_t rfl (br_t h ⟨rfl, R⟩))
  · exact xm_slot_f (Or.inr h) (br_t rfl (br_c (fun _ => ⟨rfl, R⟩) (fun _ => br_f (dv_nlt h) ⟨rfl, R⟩)))
  · have hi : vp_in (nI j) 64 := vp_in_nI (by omega) (by omega)
    exact xm_slot_t c64 hj (br_f (by decide) ⟨hi, br_f (nI_pos (by omega)) (br_t (nI_lt hj (by omega)) ⟨hi, rfl, R⟩)⟩)
theorem i_vc_attempts {k : Nat} {u : SX} {v : SY} (I : i_Rel k u v) (hk : k + 5 ≤ 2564) (v1 : Int32) : wpX_attempts (fun r => wpY_attempts (fun r' => r' = r ∧ i_Rel (k + 5) u v) v v1) u v1 := by
  obtain ⟨np, ns, cp, cy, rc, mr, nq, ca, ho, st, rm, xse, xbu, xsc, xqt, xam, xat, xsy, xib, xnc, xnh, yse, ybu, ysc, yqt, yam, yat, ysy, yib, ync, ynh, xsq, ysq, rfl, rfl, h1, h2, h3, h4, h5, h6, h7⟩ := I
  have R : i_Rel (k + 5) (nI np, nI ns, nI cp, mr, nI rc, nq, nI cy, ca, ho, st, xse, xbu, xsc, xqt, xam, xat, xsy, xsq, xib, xnc, xnh, rm) (nI np, nI ns, nI cp, mr, nI cy, nI rc, nq, ca, ho, yse, ybu, ysc, yqt, yam, st, yat, ysy, ysq, rm, ync, ynh, yib) := dv_rel (dv_Sz_up h1) h2 h3 h4 h5 h6 h7
  have h1' := h1
  obtain ⟨n2, n8, s1, s4, c8, c64, cyk, r64, cy0⟩ := h1
  unfold wpX_attempts wpY_attempts
  rcases pk_ix v1 (n := cp) (by omega) with h | h | ⟨j, hj, rfl⟩
  · exact xm_slot_f (Or.inl h) (br_t rfl (br_t h ⟨rfl, R⟩))
  · exact xm_slot_f (Or.inr h) (br_t rfl (br_c (fun _ => ⟨rfl, R⟩) (fun _ => br_t h ⟨rfl, R⟩)))
  · have hi : vp_in (nI j) 64 := vp_in_nI (by omega) (by omega)
    have ec : (nI j).toNatClampNeg = j := nI_clamp (by omega)
    refine xm_slot_t c64 hj (br_f (by decide) ⟨hi, ?_⟩)
    rw [ec]
    by_cases z : st j = 0
    · exact br_t z (br_f (nI_pos (by omega)) (br_f (nI_ge hj (by omega)) ⟨hi, br_t z ⟨rfl, R⟩⟩))
    · exact br_f z ⟨hi, br_f (nI_pos (by omega)) (br_f (nI_ge hj (by omega)) ⟨hi, br_f z ⟨hi, (h6 j z).2.2.2.2.2.1.symm, R⟩⟩)⟩
theorem i_vc_settledCycle {k : Nat} {u : SX} {v : SY} (I : i_Rel k u v) (hk : k + 5 ≤ 2564) (v1 : Int32) : wpX_settledCycle (fun r => wpY_settledCycle (fun r' => r' = r ∧ i_Rel (k + 5) u v) v v1) u v1 := by
  obtain ⟨np, ns, cp, cy, rc, mr, nq, ca, ho, st, rm, xse, xbu, xsc, xqt, xam, xat, xsy, xib, xnc, xnh, yse, ybu, ysc, yqt, yam, yat, ysy, yib, ync, ynh, xsq, ysq, rfl, rfl, h1, h2, h3, h4, h5, h6, h7⟩ := I
  have R : i_Rel (k + 5) (nI np, nI ns, nI cp, mr, nI rc, nq, nI cy, ca, ho, st, xse, xbu, xsc, xqt, xam, xat, xsy, xsq, xib, xnc, xnh, rm) (nI np, nI ns, nI cp, mr, nI cy, nI rc, nq, ca, ho, yse, ybu, ysc, yqt, yam, st, yat, ysy, ysq, rm, ync, ynh, yib) := dv_rel (dv_Sz_up h1) h2 h3 h4 h5 h6 h7
  have h1' := h1
  obtain ⟨n2, n8, s1, s4, c8, c64, cyk, r64, cy0⟩ := h1
  unfold wpX_settledCycle wpY_settledCycle
  rcases pk_ix v1 (n := cp) (by omega) with h | h | ⟨j, hj, rfl⟩
  · exact xm_slot_f (Or.inl h) (br_t rfl (br_t h ⟨rfl, R⟩))
  · exact xm_slot_f (Or.inr h) (br_t rfl (br_c (fun _ => ⟨rfl, R⟩) (fun _ => br_t h ⟨rfl, R⟩)))
  · have hi : vp_in (nI j) 64 := vp_in_nI (by omega) (by omega)
    have ec : (nI j).toNatClampNeg = j := nI_clamp (by omega)
    refine xm_slot_t c64 hj (br_f (by decide) ⟨hi, ?_⟩)
    rw [ec]
    by_cases z : st j = 2
    · have z0 : st j ≠ 0 := by rw [z]; decide
      exact br_t z ⟨hi, br_f (nI_pos (by omega)) (br_f (nI_ge hj (by omega)) ⟨hi, br_t z ⟨hi, (h6 j z0).2.2.2.2.2.2.1.symm, R⟩⟩)⟩
    · exact br_f z (br_f (nI_pos (by omega)) (br_f (nI_ge hj (by omega)) ⟨hi, br_f z ⟨rfl, R⟩⟩))
theorem i_vc_removedAt {k : Nat} {u : SX} {v : SY} (I : i_Rel k u v) (hk : k + 5 ≤ 2564) (v1 : Int32) : wpX_removedAt (fun r => wpY_removedAt (fun r' => r' = r ∧ i_Rel (k + 5) u v) v v1) u v1 := by
  obtain ⟨np, ns, cp, cy, rc, mr, nq, ca, ho, st, rm, xse, xbu, xsc, xqt, xam, xat, xsy, xib, xnc, xnh, yse, ybu, ysc, yqt, yam, yat, ysy, yib, ync, ynh, xsq, ysq, rfl, rfl, h1, h2, h3, h4, h5, h6, h7⟩ := I
  have R : i_Rel (k + 5) (nI np, nI ns, nI cp, mr, nI rc, nq, nI cy, ca, ho, st, xse, xbu, xsc, xqt, xam, xat, xsy, xsq, xib, xnc, xnh, rm) (nI np, nI ns, nI cp, mr, nI cy, nI rc, nq, ca, ho, yse, ybu, ysc, yqt, yam, st, yat, ysy, ysq, rm, ync, ynh, yib) := dv_rel (dv_Sz_up h1) h2 h3 h4 h5 h6 h7
  have h1' := h1
  obtain ⟨n2, n8, s1, s4, c8, c64, cyk, r64, cy0⟩ := h1
  unfold wpX_removedAt wpY_removedAt
  have c0 : nI cy = 0 → rc = 0 := by
    intro e
    exact cy0 ((nI_eq (b := 0) (by omega) (by omega)).mp (e.trans nI_0.symm))
  rcases pk_ix v1 (n := rc) (by omega) with h | h | ⟨j, hj, rfl⟩
  · exact br_t h (br_c (fun _ => ⟨rfl, R⟩) (fun _ => br_t h ⟨rfl, R⟩))
  · have hp : (-1 : Int32) = -1 ∧ i_Rel (k + 5) (nI np, nI ns, nI cp, mr, nI rc, nq, nI cy, ca, ho, st, xse, xbu, xsc, xqt, xam, xat, xsy, xsq, xib, xnc, xnh, rm) (nI np, nI ns, nI cp, mr, nI cy, nI rc, nq, ca, ho, yse, ybu, ysc, yqt, yam, st, yat, ysy, ysq, rm, ync, ynh, yib) := ⟨rfl, R⟩
    exact br_c (fun z => br_c (fun _ => hp) (fun _ => br_t z hp)) (fun z => br_t h (br_c (fun _ => hp) (fun _ => br_f z (br_f (dv_nlt h) hp))))
  · have hi : vp_in (nI j) 64 := vp_in_nI (by omega) (by omega)
    have cz : ¬ nI cy = 0 := fun e => by have := c0 e; omega
    exact br_f (nI_pos (by omega)) (br_f (nI_ge hj (by omega)) ⟨hi, br_f cz (br_f (nI_pos (by omega)) (br_t (nI_lt hj (by omega)) ⟨hi, rfl, R⟩))⟩)
theorem i_vc_cycleCount {k : Nat} {u : SX} {v : SY} (I : i_Rel k u v) (hk : k + 5 ≤ 2564) : wpX_cycleCount (fun r => wpY_cycleCount (fun r' => r' = r ∧ i_Rel (k + 5) u v) v) u := by
  obtain ⟨np, ns, cp, cy, rc, mr, nq, ca, ho, st, rm, xse, xbu, xsc, xqt, xam, xat, xsy, xib, xnc, xnh, yse, ybu, ysc, yqt, yam, yat, ysy, yib, ync, ynh, xsq, ysq, rfl, rfl, h1, h2, h3, h4, h5, h6, h7⟩ := I
  have R : i_Rel (k + 5) (nI np, nI ns, nI cp, mr, nI rc, nq, nI cy, ca, ho, st, xse, xbu, xsc, xqt, xam, xat, xsy, xsq, xib, xnc, xnh, rm) (nI np, nI ns, nI cp, mr, nI cy, nI rc, nq, ca, ho, yse, ybu, ysc, yqt, yam, st, yat, ysy, ysq, rm, ync, ynh, yib) := dv_rel (dv_Sz_up h1) h2 h3 h4 h5 h6 h7
  have h1' := h1
  obtain ⟨n2, n8, s1, s4, c8, c64, cyk, r64, cy0⟩ := h1
  exact ⟨rfl, R⟩
end
section
section
variable {np ns cp cy rc : Nat} {mr : Int32} {nq : Int64} {ca ho st rm xse xbu xsc xqt xam xat xsy xib xnc xnh yse ybu ysc yqt yam yat ysy yib ync ynh : Nat → Int32} {xsq ysq : Nat → Int64}
theorem dv_Z_ca {j : Nat} {x : Int32} (hj : j < np) (h : dv_Z np ns ca ho) : dv_Z np ns (upd ca j x) ho :=
  ⟨fun p hp => by rw [pk_un (by omega)]; exact h.1 p hp, h.2⟩
theorem dv_Z_ho {j s : Nat} {x : Int32} (hj : j < np) (hs : s < ns) (s4 : ns ≤ 4) (h : dv_Z np ns ca ho) : dv_Z np ns ca (upd ho (j * 4 + s) x) :=
  ⟨h.1, fun p t ht hp => by rw [pk_un (by omega)]; exact h.2 p t ht hp⟩
end
theorem i_vc_fundCash {k : Nat} {u : SX} {v : SY} (I : i_Rel k u v) (hk : k + 5 ≤ 2564) (v1 : Int32) (v2 : Int32) : wpX_fundCash (fun r u' => wpY_fundCash (fun r' v' => r' = r ∧ i_Rel (k + 5) u' v') v v1 v2) u v1 v2 := by
  obtain ⟨np, ns, cp, cy, rc, mr, nq, ca, ho, st, rm, xse, xbu, xsc, xqt, xam, xat, xsy, xib, xnc, xnh, yse, ybu, ysc, yqt, yam, yat, ysy, yib, ync, ynh, xsq, ysq, rfl, rfl, h1, h2, h3, h4, h5, h6, h7⟩ := I
  have R : i_Rel (k + 5) (nI np, nI ns, nI cp, mr, nI rc, nq, nI cy, ca, ho, st, xse, xbu, xsc, xqt, xam, xat, xsy, xsq, xib, xnc, xnh, rm) (nI np, nI ns, nI cp, mr, nI cy, nI rc, nq, ca, ho, yse, ybu, ysc, yqt, yam, st, yat, ysy, ysq, rm, ync, ynh, yib) := dv_rel (dv_Sz_up h1) h2 h3 h4 h5 h6 h7
  have h1' := h1
  obtain ⟨n2, n8, s1, s4, c8, c64, cyk, r64, cy0⟩ := h1
  unfold wpX_fundCash wpY_fundCash
  rcases pk_ix v1 (n := np) (by omega) with h | h | ⟨j, hj, rfl⟩
  · exact xm_part_f (Or.inl h) (br_t rfl (br_t h ⟨rfl, R⟩))
  · exact xm_part_f (Or.inr h) (br_t rfl (br_c (fun _ => ⟨rfl, R⟩) (fun _ => br_f (dv_nlt h) ⟨rfl, R⟩)))
  · have hi : vp_in (nI j) 8 := vp_in_nI (by omega) (by omega)
    have ec : (nI j).toNatClampNeg = j := nI_clamp (by omega)
    have g0 : ¬ nI j < 0 := nI_pos (by omega)
    have g1 : nI j < nI np := nI_lt hj (by omega)
    refine xm_part_t n8 hj (br_f (by decide) ?_)
    by_cases a1 : v2 < 1
    · exact xm_in_f (Or.inl a1) (br_t rfl (br_f g0 (br_t g1 (br_t a1 ⟨rfl, R⟩))))
    · by_cases a2 : 1000000 < v2
      · exact xm_in_f (Or.inr a2) (br_t rfl (br_f g0 (br_t g1 (br_f a1 (br_f (Int32.not_le.mpr a2) ⟨rfl, R⟩)))))
      · refine xm_in_t a1 a2 (br_f (by decide) (xm_totCash n8 ?_))
        by_cases t : dv_sum ca np + v2 ≤ 100000000
        · refine br_t t ⟨hi, hi, nm_r (by rw [ec]) (br_f g0 (br_t g1 (br_f a1 (br_t (Int32.not_lt.mp a2) (ym_totCash n8 (br_t t ⟨hi, hi, nm_r (by rw [ec]) ⟨rfl, ?_⟩⟩))))))⟩
          exact dv_rel (dv_Sz_up h1') (dv_Z_ca hj h2) h3 h4 h5 h6 h7
        · exact br_f t (br_f g0 (br_t g1 (br_f a1 (br_t (Int32.not_lt.mp a2) (ym_totCash n8 (br_f t ⟨rfl, R⟩))))))
theorem i_vc_fundSecurity {k : Nat} {u : SX} {v : SY} (I : i_Rel k u v) (hk : k + 5 ≤ 2564) (v1 : Int32) (v2 : Int32) (v3 : Int32) : wpX_fundSecurity (fun r u' => wpY_fundSecurity (fun r' v' => r' = r ∧ i_Rel (k + 5) u' v') v v1 v2 v3) u v1 v2 v3 := by
  obtain ⟨np, ns, cp, cy, rc, mr, nq, ca, ho, st, rm, xse, xbu, xsc, xqt, xam, xat, xsy, xib, xnc, xnh, yse, ybu, ysc, yqt, yam, yat, ysy, yib, ync, ynh, xsq, ysq, rfl, rfl, h1, h2, h3, h4, h5, h6, h7⟩ := I
  have R : i_Rel (k + 5) (nI np, nI ns, nI cp, mr, nI rc, nq, nI cy, ca, ho, st, xse, xbu, xsc, xqt, xam, xat, xsy, xsq, xib, xnc, xnh, rm) (nI np, nI ns, nI cp, mr, nI cy, nI rc, nq, ca, ho, yse, ybu, ysc, yqt, yam, st, yat, ysy, ysq, rm, ync, ynh, yib) := dv_rel (dv_Sz_up h1) h2 h3 h4 h5 h6 h7
  have h1' := h1
  obtain ⟨n2, n8, s1, s4, c8, c64, cyk, r64, cy0⟩ := h1
  unfold wpX_fundSecurity wpY_fundSecurity
  rcases pk_ix v1 (n := np) (by omega) with h | h | ⟨j, hj, rfl⟩
  · exact xm_part_f (Or.inl h) (br_t rfl (br_t h ⟨rfl, R⟩))
  · exact xm_part_f (Or.inr h) (br_t rfl (br_c (fun _ => ⟨rfl, R⟩) (fun _ => br_f (dv_nlt h) ⟨rfl, R⟩)))
  · have g0 : ¬ nI j < 0 := nI_pos (by omega)
    have g1 : nI j < nI np := nI_lt hj (by omega)
    refine xm_part_t n8 hj (br_f (by decide) ?_)
    rcases pk_ix v2 (n := ns) (by omega) with h | h | ⟨s, hs, rfl⟩
    · exact xm_sec_f (Or.inl h) (br_t rfl (br_f g0 (br_t g1 (br_t h ⟨rfl, R⟩))))
    · exact xm_sec_f (Or.inr h) (br_t rfl (br_f g0 (br_t g1 (br_c (fun _ => ⟨rfl, R⟩) (fun _ => br_f (dv_nlt h) ⟨rfl, R⟩)))))
    · have hi : vp_in (nI j * 4 + nI s) 32 := by rw [dv_hx]; exact vp_in_nI (by omega) (by omega)
      have ec : (nI j * 4 + nI s).toNatClampNeg = j * 4 + s := by rw [dv_hx]; exact nI_clamp (by omega)
      have g2 : ¬ nI s < 0 := nI_pos (by omega)
      have g3 : nI s < nI ns := nI_lt hs (by omega)
      refine xm_sec_t s4 hs (br_f (by decide) ?_)
      by_cases a1 : v3 < 1
      · exact xm_in_f (Or.inl a1) (br_t rfl (br_f g0 (br_t g1 (br_f g2 (br_t g3 (br_t a1 ⟨rfl, R⟩))))))
      · by_cases a2 : 1000000 < v3
        · exact xm_in_f (Or.inr a2) (br_t rfl (br_f g0 (br_t g1 (br_f g2 (br_t g3 (br_f a1 (br_f (Int32.not_le.mpr a2) ⟨rfl, R⟩)))))))
        · refine xm_in_t a1 a2 (br_f (by decide) (xm_totHold n8 s4 hs ?_))
          by_cases t : dv_sum (fun p => ho (p * 4 + s)) np + v3 ≤ 100000000
          · refine br_t t (xm_hix ⟨vp_in_nI (by omega) (by omega), vp_in_nI (by omega) (by omega), nm_r (by rw [nI_clamp (by omega)]) (br_f g0 (br_t g1 (br_f g2 (br_t g3 (br_f a1 (br_t (Int32.not_lt.mp a2) (ym_totHold n8 s4 hs (br_t t ⟨hi, hi, nm_r (by rw [ec]) ⟨rfl, ?_⟩⟩))))))))⟩)
            exact dv_rel (dv_Sz_up h1') (dv_Z_ho hj hs s4 h2) h3 h4 h5 h6 h7
          · exact br_f t (br_f g0 (br_t g1 (br_f g2 (br_t g3 (br_f a1 (br_t (Int32.not_lt.mp a2) (ym_totHold n8 s4 hs (br_f t ⟨rfl, R⟩))))))))
theorem i_vc_cancel {k : Nat} {u : SX} {v : SY} (I : i_Rel k u v) (hk : k + 5 ≤ 2564) (v1 : Int32) : wpX_cancel (fun r u' => wpY_cancel (fun r' v' => r' = r ∧ i_Rel (k + 5) u' v') v v1) u v1 := by
  obtain ⟨np, ns, cp, cy, rc, mr, nq, ca, ho, st, rm, xse, xbu, xsc, xqt, xam, xat, xsy, xib, xnc, xnh, yse, ybu, ysc, yqt, yam, yat, ysy, yib, ync, ynh, xsq, ysq, rfl, rfl, h1, h2, h3, h4, h5, h6, h7⟩ := I
  have R : i_Rel (k + 5) (nI np, nI ns, nI cp, mr, nI rc, nq, nI cy, ca, ho, st, xse, xbu, xsc, xqt, xam, xat, xsy, xsq, xib, xnc, xnh, rm) (nI np, nI ns, nI cp, mr, nI cy, nI rc, nq, ca, ho, yse, ybu, ysc, yqt, yam, st, yat, ysy, ysq, rm, ync, ynh, yib) := dv_rel (dv_Sz_up h1) h2 h3 h4 h5 h6 h7
  have h1' := h1
  obtain ⟨n2, n8, s1, s4, c8, c64, cyk, r64, cy0⟩ := h1
  unfold wpX_cancel wpY_cancel
  rcases pk_ix v1 (n := cp) (by omega) with h | h | ⟨j, hj, rfl⟩
  · exact xm_q_f c64 (Or.inl h) (br_t rfl (br_t h ⟨rfl, R⟩))
  · exact xm_q_f c64 (Or.inr (Or.inl h)) (br_t rfl (br_c (fun _ => ⟨rfl, R⟩) (fun _ => br_t h ⟨rfl, R⟩)))
  · have hi : vp_in (nI j) 64 := vp_in_nI (by omega) (by omega)
    have ec : (nI j).toNatClampNeg = j := nI_clamp (by omega)
    have g0 : ¬ nI j < 0 := nI_pos (by omega)
    have g1 : ¬ nI cp ≤ nI j := nI_ge hj (by omega)
    by_cases z : st j = 1
    · have z0 : st j ≠ 0 := by rw [z]; exact dv_1
      refine xm_q_t c64 hj z (br_f (by decide) ⟨hi, nm_r (by rw [ec]) (br_f g0 (br_f g1 ⟨hi, br_t (by rw [ec]; exact z) ⟨hi, nm_r (by rw [ec]) ⟨rfl, ?_⟩⟩⟩))⟩)
      exact dv_rel (dv_Sz_up h1') h2 h3 h4 (dv_St_upd h5 (Or.inr (Or.inr (Or.inr (Or.inl rfl))))) (dv_Ag_st h6 (dv_st_upd z0)) (dv_Val_st h7 (dv_st_upd z0))
    · exact xm_q_f c64 (Or.inr (Or.inr ⟨j, hj, rfl, z⟩)) (br_t rfl (br_f g0 (br_f g1 ⟨hi, br_f (by rw [ec]; exact z) ⟨rfl, R⟩⟩)))
end
section
section
variable {np ns cp cy rc : Nat} {mr : Int32} {nq : Int64} {ca ho st rm xse xbu xsc xqt xam xat xsy xib xnc xnh yse ybu ysc yqt yam yat ysy yib ync ynh : Nat → Int32} {xsq ysq : Nat → Int64}
theorem dv_nb0 : vp_nar .boolean 0 = 0 := by first | rfl | decide
theorem dv_nb1 : vp_nar .boolean 1 = 1 := by first | rfl | decide
theorem xm_gather {post : SX → Prop} (c64 : cp ≤ 64) (hz : ∀ j, cp ≤ j → xib j = 0) (h : post (nI np, nI ns, nI cp, mr, nI rc, nq, nI cy, ca, ho, st, xse, xbu, xsc, xqt, xam, xat, xsy, xsq, dv_bt st cp, xnc, xnh, rm)) : wpX_gatherBatch post (nI np, nI ns, nI cp, mr, nI rc, nq, nI cy, ca, ho, st, xse, xbu, xsc, xqt, xam, xat, xsy, xsq, xib, xnc, xnh, rm) := by
  refine loop_0 (fun n i (b : Nat → Int32) => wX_gatherBatch_2 post (nI np) (nI ns) (nI cp) mr (nI rc) nq (nI cy) n (nI i) ca ho st xse xbu xsc xqt xam xat xsy xsq b xnc xnh rm) (fun i b => b = dv_cpy (dv_bt st cp) xib i) cp xib (dv_cpy_0 _ _).symm ?_ ?_
  · intro n b hb
    exact br_t (nI_le (Nat.le_refl _) (by omega)) (by rw [hb, dv_bt_x (Nat.le_refl _) hz]; exact h)
  · intro n i b hi hb ih
    have vi : vp_in (nI i) 64 := vp_in_nI (by omega) (by omega)
    have ei : (nI i).toNatClampNeg = i := nI_clamp (by omega)
    refine br_f (nI_ge hi (by omega)) ⟨vi, br_c (fun z => ⟨vi, nm_r (e' := dv_cpy (dv_bt st cp) xib (i + 1)) ?_ (nm_r (nI_1 i) (ih _ rfl))⟩) (fun z => ⟨vi, nm_r (e' := dv_cpy (dv_bt st cp) xib (i + 1)) ?_ (nm_r (nI_1 i) (ih _ rfl))⟩)⟩
    · rw [ei] at z
      rw [hb, ei, dv_nb1, ← dv_cpy_s, dv_bt_1 hi z]
    · rw [ei] at z
      rw [hb, ei, dv_nb0, ← dv_cpy_s, dv_bt_0 (fun d => z d.2)]
theorem xm_take2 {post : SX → Prop} (h : post (nI np, nI ns, nI cp, mr, nI rc, nq, nI cy, ca, dv_cpy xnh ho 32, st, xse, xbu, xsc, xqt, xam, xat, xsy, xsq, xib, xnc, xnh, rm)) : ∃ n, wX_takeNetsAsBalances_28 post (nI np) (nI ns) (nI cp) mr (nI rc) nq (nI cy) n 0 ca ho st xse xbu xsc xqt xam xat xsy xsq xib xnc xnh rm := by
  refine loop_0 (fun n i (b : Nat → Int32) => wX_takeNetsAsBalances_28 post (nI np) (nI ns) (nI cp) mr (nI rc) nq (nI cy) n (nI i) ca b st xse xbu xsc xqt xam xat xsy xsq xib xnc xnh rm) (fun i b => b = dv_cpy xnh ho i) 32 ho (dv_cpy_0 _ _).symm ?_ ?_
  · intro n b hb
    exact br_t (nI_le (a := 32) (Nat.le_refl _) (by omega)) (by rw [hb]; exact h)
  · intro n i b hi hb ih
    have vi : vp_in (nI i) 32 := vp_in_nI (by omega) (by omega)
    have ei : (nI i).toNatClampNeg = i := nI_clamp (by omega)
    refine br_f (nI_ge (b := 32) hi (by omega)) ⟨vi, vi, nm_r (e' := dv_cpy xnh ho (i + 1)) ?_ (nm_r (nI_1 i) (ih _ rfl))⟩
    rw [hb, ei, ← dv_cpy_s]
theorem xm_take {post : SX → Prop} (h : post (nI np, nI ns, nI cp, mr, nI rc, nq, nI cy, dv_cpy xnc ca 8, dv_cpy xnh ho 32, st, xse, xbu, xsc, xqt, xam, xat, xsy, xsq, xib, xnc, xnh, rm)) : wpX_takeNetsAsBalances post (nI np, nI ns, nI cp, mr, nI rc, nq, nI cy, ca, ho, st, xse, xbu, xsc, xqt, xam, xat, xsy, xsq, xib, xnc, xnh, rm) := by
  refine loop_0 (fun n i (b : Nat → Int32) => wX_takeNetsAsBalances_2 post (nI np) (nI ns) (nI cp) mr (nI rc) nq (nI cy) n (nI i) b ho st xse xbu xsc xqt xam xat xsy xsq xib xnc xnh rm) (fun i b => b = dv_cpy xnc ca i) 8 ca (dv_cpy_0 _ _).symm ?_ ?_
  · intro n b hb
    refine br_t (nI_le (a := 8) (Nat.le_refl _) (by omega)) ?_
    rw [hb]
    exact xm_take2 h
  · intro n i b hi hb ih
    have vi : vp_in (nI i) 8 := vp_in_nI (by omega) (by omega)
    have ei : (nI i).toNatClampNeg = i := nI_clamp (by omega)
    refine br_f (nI_ge (b := 8) hi (by omega)) ⟨vi, vi, nm_r (e' := dv_cpy xnc ca (i + 1)) ?_ (nm_r (nI_1 i) (ih _ rfl))⟩
    rw [hb, ei, ← dv_cpy_s]
theorem xm_mark {post : Int32 → SX → Prop} (c64 : cp ≤ 64) (h : post (nI (dv_cn xib cp)) (nI np, nI ns, nI cp, mr, nI rc, nq, nI cy, ca, ho, dv_mk xib st 2 cp, xse, xbu, xsc, xqt, xam, xat, dv_mk xib xsy (nI cy) cp, xsq, xib, xnc, xnh, rm)) : wpX_markBatchSettled post (nI np, nI ns, nI cp, mr, nI rc, nq, nI cy, ca, ho, st, xse, xbu, xsc, xqt, xam, xat, xsy, xsq, xib, xnc, xnh, rm) := by
  refine loop_0 (fun n i (s : Int32 × (Nat → Int32) × (Nat → Int32)) => wX_markBatchSettled_4 post (nI np) (nI ns) (nI cp) mr (nI rc) nq (nI cy) n s.1 (nI i) ca ho s.2.1 xse xbu xsc xqt xam xat s.2.2 xsq xib xnc xnh rm) (fun i s => s = (nI (dv_cn xib i), dv_mk xib st 2 i, dv_mk xib xsy (nI cy) i)) cp (0, st, xsy) (by rw [dv_mk_0, dv_mk_0]; rfl) ?_ ?_
  · intro n s hs
    exact br_t (nI_le (Nat.le_refl _) (by omega)) (by rw [hs]; exact h)
  · intro n i s hi hs ih
    subst hs
    have vi : vp_in (nI i) 64 := vp_in_nI (by omega) (by omega)
    have ei : (nI i).toNatClampNeg = i := nI_clamp (by omega)
    refine br_f (nI_ge hi (by omega)) ⟨vi, br_c (fun z => nm_r (nI_1 i) (ih _ ?_)) (fun z => ⟨vi, nm_r (e' := dv_mk xib st 2 (i + 1)) ?_ ⟨vi, nm_r (e' := dv_mk xib xsy (nI cy) (i + 1)) ?_ (nm_r (e' := nI (dv_cn xib (i + 1))) ?_ (nm_r (nI_1 i) (ih _ rfl)))⟩⟩)⟩
    · rw [ei] at z
      rw [dv_cn_s0 z, dv_mk_n z, dv_mk_n z]
    · rw [ei] at z
      rw [ei]; exact dv_mk_y z
    · rw [ei] at z
      rw [ei]; exact dv_mk_y z
    · rw [ei] at z
      rw [dv_cn_s1 z]; exact nI_1 _
theorem xm_recycle {post : SX → Prop} (r64 : rc ≤ 64) (hR : ∀ k, k < rc → ∃ j, j < 64 ∧ rm k = nI j) (h : post (nI np, nI ns, nI cp, mr, nI rc, nq, nI cy, ca, ho, dv_fs rm xat st mr rc, xse, xbu, xsc, xqt, xam, dv_at rm xat rc, xsy, xsq, xib, xnc, xnh, rm)) : wpX_recycleRemoved post (nI np, nI ns, nI cp, mr, nI rc, nq, nI cy, ca, ho, st, xse, xbu, xsc, xqt, xam, xat, xsy, xsq, xib, xnc, xnh, rm) := by
  refine loop_0 (fun n i (s : (Nat → Int32) × (Nat → Int32)) => wX_recycleRemoved_2 post (nI np) (nI ns) (nI cp) mr (nI rc) nq (nI cy) n (nI i) ca ho s.1 xse xbu xsc xqt xam s.2 xsy xsq xib xnc xnh rm) (fun i s => s = (dv_fs rm xat st mr i, dv_at rm xat i)) rc (st, xat) rfl ?_ ?_
  · intro n s hs
    exact br_t (nI_le (Nat.le_refl _) (by omega)) (by rw [hs]; exact h)
  · intro n i s hi hs ih
    subst hs
    have vi : vp_in (nI i) 64 := vp_in_nI (by omega) (by omega)
    have ei : (nI i).toNatClampNeg = i := nI_clamp (by omega)
    obtain ⟨j, hj, ej⟩ := hR i hi
    have vj : vp_in (rm i) 64 := by rw [ej]; exact vp_in_nI hj (by omega)
    refine br_f (nI_ge hi (by omega)) ⟨vi, nm_r (e' := rm i) (by rw [ei]) ⟨vj, vj, nm_r (e' := dv_at rm xat (i + 1)) rfl ⟨vj, br_c (fun z => nm_r (nI_1 i) (ih (dv_fs rm xat st mr i, dv_at rm xat (i + 1)) ?_)) (fun z => ⟨vj, nm_r (e' := dv_fs rm xat st mr (i + 1)) ?_ (nm_r (nI_1 i) (ih _ rfl))⟩)⟩⟩⟩
    · have e : dv_fs rm xat st mr (i + 1) = dv_fs rm xat st mr i := if_pos z
      rw [e]
    · exact (if_neg z).symm
theorem xm_add {post : SX → Prop} {i A B C : Nat} (hi : i < 64) (hA : A < 8) (hB : B < 8) (hC : C < 4) (eA : xse i = nI A) (eB : xbu i = nI B) (eC : xsc i = nI C)
    (h : post (nI np, nI ns, nI cp, mr, nI rc, nq, nI cy, ca, ho, st, xse, xbu, xsc, xqt, xam, xat, xsy, xsq, xib, upd (upd xnc A (xnc A + xam i)) B ((upd xnc A (xnc A + xam i)) B - xam i), upd (upd xnh (A * 4 + C) (xnh (A * 4 + C) - xqt i)) (B * 4 + C) ((upd xnh (A * 4 + C) (xnh (A * 4 + C) - xqt i)) (B * 4 + C) + xqt i), rm)) : wpX_addToNets post (nI np, nI ns, nI cp, mr, nI rc, nq, nI cy, ca, ho, st, xse, xbu, xsc, xqt, xam, xat, xsy, xsq, xib, xnc, xnh, rm) (nI i) := by
  have ei : (nI i).toNatClampNeg = i := nI_clamp (by omega)
  have vi : vp_in (nI i) 64 := vp_in_nI hi (by omega)
  have vA : vp_in (nI A) 8 := vp_in_nI hA (by omega)
  have vB : vp_in (nI B) 8 := vp_in_nI hB (by omega)
  unfold wpX_addToNets
  dsimp only
  rw [ei, eA, eB, eC, nI_clamp (n := A) (by omega), nI_clamp (n := B) (by omega)]
  exact ⟨vi, vA, vi, vA, nm_e ⟨vi, vB, vi, vB, nm_e ⟨vi, vi, xm_hix ⟨vp_in_nI (by omega) (by omega), vi, vp_in_nI (by omega) (by omega), nm_r (by rw [nI_clamp (by omega)]) ⟨vi, vi, xm_hix ⟨vp_in_nI (by omega) (by omega), vi, vp_in_nI (by omega) (by omega), nm_r (by rw [nI_clamp (by omega)]) h⟩⟩⟩⟩⟩⟩
theorem xm_nets3 {post : SX → Prop} (n8 : np ≤ 8) (s4 : ns ≤ 4) (c64 : cp ≤ 64) (hV : dv_Val np ns xib xse xbu xsc) (h0 : ∀ p, p < 8 → xnc p = ca p) (h1 : ∀ p s, p < 8 → s < 4 → xnh (p * 4 + s) = ho (p * 4 + s))
    (h : ∀ nc nh, dv_Sp cp ca ho xse xbu xsc xqt xam xib nc nh → post (nI np, nI ns, nI cp, mr, nI rc, nq, nI cy, ca, ho, st, xse, xbu, xsc, xqt, xam, xat, xsy, xsq, xib, nc, nh, rm)) : ∃ n, wX_computeNets_54 post n 0 (nI np) (nI ns) (nI cp) mr (nI rc) nq (nI cy) ca ho st xse xbu xsc xqt xam xat xsy xsq xib xnc xnh rm := by
  refine loop_0 (fun n i (s : (Nat → Int32) × (Nat → Int32)) => wX_computeNets_54 post n (nI i) (nI np) (nI ns) (nI cp) mr (nI rc) nq (nI cy) ca ho st xse xbu xsc xqt xam xat xsy xsq xib s.1 s.2 rm) (fun i s => (∀ p, p < 8 → s.1 p = dv_nc ca xib xse xbu xam p i) ∧ (∀ p t, p < 8 → t < 4 → s.2 (p * 4 + t) = dv_nh ho xib xse xbu xsc xqt p t i)) cp (xnc, xnh) ⟨h0, h1⟩ ?_ ?_
  · intro n s hI
    exact br_t (nI_le (Nat.le_refl _) (by omega)) (h s.1 s.2 hI)
  · intro n i s hi hI ih
    have vi : vp_in (nI i) 64 := vp_in_nI (by omega) (by omega)
    have ei : (nI i).toNatClampNeg = i := nI_clamp (by omega)
    refine br_f (nI_ge hi (by omega)) ⟨vi, br_c (fun z => nm_r (nI_1 i) (ih s ⟨?_, ?_⟩)) (fun z => ?_)⟩
    · rw [ei] at z
      intro p hp
      rw [dv_nc_s, dv_c1_0 z]; exact hI.1 p hp
    · rw [ei] at z
      intro p t hp ht
      rw [dv_nh_s, dv_h1_0 z]; exact hI.2 p t hp ht
    · rw [ei] at z
      obtain ⟨A, B, C, hA, hB, hC, hAB, eA, eB, eC⟩ := hV i z
      refine xm_add (A := A) (B := B) (C := C) (by omega) (by omega) (by omega) (by omega) eA eB eC (nm_r (nI_1 i) (ih (upd (upd s.1 A (s.1 A + xam i)) B ((upd s.1 A (s.1 A + xam i)) B - xam i), upd (upd s.2 (A * 4 + C) (s.2 (A * 4 + C) - xqt i)) (B * 4 + C) ((upd s.2 (A * 4 + C) (s.2 (A * 4 + C) - xqt i)) (B * 4 + C) + xqt i)) ⟨?_, ?_⟩))
      · intro p hp
        rw [dv_nc_s, eA, eB, ← hI.1 p hp]
        exact dv_nc_upd hAB (by omega) (by omega) hp (xam i) z
      · intro p t hp ht
        rw [dv_nh_s, eA, eB, eC, ← hI.2 p t hp ht]
        exact dv_nh_upd hAB (by omega) (by omega) (by omega) hp ht (xqt i) z
theorem xm_nets {post : SX → Prop} (n8 : np ≤ 8) (s4 : ns ≤ 4) (c64 : cp ≤ 64) (hV : dv_Val np ns xib xse xbu xsc)
    (h : ∀ nc nh, dv_Sp cp ca ho xse xbu xsc xqt xam xib nc nh → post (nI np, nI ns, nI cp, mr, nI rc, nq, nI cy, ca, ho, st, xse, xbu, xsc, xqt, xam, xat, xsy, xsq, xib, nc, nh, rm)) : wpX_computeNets post (nI np, nI ns, nI cp, mr, nI rc, nq, nI cy, ca, ho, st, xse, xbu, xsc, xqt, xam, xat, xsy, xsq, xib, xnc, xnh, rm) := by
  refine loop_0 (fun n i (b : Nat → Int32) => wX_computeNets_2 post (nI np) (nI ns) (nI cp) mr (nI rc) nq (nI cy) n (nI i) ca ho st xse xbu xsc xqt xam xat xsy xsq xib b xnh rm) (fun i b => b = dv_cpy ca xnc i) 8 xnc (dv_cpy_0 _ _).symm ?_ ?_
  · intro n b hb
    refine br_t (nI_le (a := 8) (Nat.le_refl _) (by omega)) ?_
    refine loop_0 (fun n i (c : Nat → Int32) => wX_computeNets_28 post (nI np) (nI ns) (nI cp) mr (nI rc) nq (nI cy) n (nI i) ca ho st xse xbu xsc xqt xam xat xsy xsq xib b c rm) (fun i c => c = dv_cpy ho xnh i) 32 xnh (dv_cpy_0 _ _).symm ?_ ?_
    · intro n c hc
      refine br_t (nI_le (a := 32) (Nat.le_refl _) (by omega)) ?_
      refine xm_nets3 n8 s4 c64 hV (fun p hp => by rw [hb]; exact dv_cpy_lt hp) (fun p s hp hs => by rw [hc]; exact dv_cpy_lt (by omega)) h
    · intro n i c hi hc ih
      have vi : vp_in (nI i) 32 := vp_in_nI (by omega) (by omega)
      have ei : (nI i).toNatClampNeg = i := nI_clamp (by omega)
      refine br_f (nI_ge (b := 32) hi (by omega)) ⟨vi, vi, nm_r (e' := dv_cpy ho xnh (i + 1)) ?_ (nm_r (nI_1 i) (ih _ rfl))⟩
      rw [hc, ei, ← dv_cpy_s]
  · intro n i b hi hb ih
    have vi : vp_in (nI i) 8 := vp_in_nI (by omega) (by omega)
    have ei : (nI i).toNatClampNeg = i := nI_clamp (by omega)
    refine br_f (nI_ge (b := 8) hi (by omega)) ⟨vi, vi, nm_r (e' := dv_cpy ca xnc (i + 1)) ?_ (nm_r (nI_1 i) (ih _ rfl))⟩
    rw [hb, ei, ← dv_cpy_s]
end
end
section
section
variable {np ns cp cy rc : Nat} {mr : Int32} {nq : Int64} {ca ho st rm xse xbu xsc xqt xam xat xsy xib xnc xnh yse ybu ysc yqt yam yat ysy yib ync ynh : Nat → Int32} {xsq ysq : Nat → Int64}
theorem dv_ok_b1 {d nc : Int32} {nh se bu sc am : Nat → Int32} {i : Nat} (e : bu i = d) (h1 : 0 < am i) (h2 : nc < 0) : dv_ok d nc nh se bu sc am i = true := by
  unfold dv_ok
  rw [if_pos e, decide_eq_true h1, decide_eq_true h2]; rfl
theorem dv_ok_b0 {d nc : Int32} {nh se bu sc am : Nat → Int32} {i : Nat} (e : bu i = d) (h : ¬ 0 < am i ∨ ¬ nc < 0) : dv_ok d nc nh se bu sc am i = false := by
  unfold dv_ok
  rw [if_pos e]
  rcases h with h | h
  · rw [decide_eq_false h]; rfl
  · rw [decide_eq_false h, Bool.and_false]
theorem dv_ok_s1 {d nc : Int32} {nh se bu sc am : Nat → Int32} {i : Nat} (e : bu i ≠ d) (h1 : se i = d) (h2 : nh (sc i).toNatClampNeg < 0) : dv_ok d nc nh se bu sc am i = true := by
  unfold dv_ok
  rw [if_neg e, decide_eq_true h1, decide_eq_true h2]; rfl
theorem dv_ok_s0 {d nc : Int32} {nh se bu sc am : Nat → Int32} {i : Nat} (e : bu i ≠ d) (h : se i ≠ d ∨ ¬ nh (sc i).toNatClampNeg < 0) : dv_ok d nc nh se bu sc am i = false := by
  unfold dv_ok
  rw [if_neg e]
  rcases h with h | h
  · rw [decide_eq_false h]; rfl
  · rw [decide_eq_false h, Bool.and_false]
theorem xm_short {post : Int32 → Prop} {v : Int32} (h : post (dv_sf v)) : wpX_shortfall post v :=
  br_c (fun z => by rw [dv_sf_p (Int32.not_lt.mpr z)] at h; exact h) (fun z => by rw [dv_sf_n (Int32.not_le.mp z)] at h; exact h)
theorem xm_def {post : Int32 → Prop} {p : Nat} (s4 : ns ≤ 4) (hp : p < 8) (h : post (dv_df (xnc p) (fun s => xnh (p * 4 + s)) ns)) : wpX_deficitOf post (nI np, nI ns, nI cp, mr, nI rc, nq, nI cy, ca, ho, st, xse, xbu, xsc, xqt, xam, xat, xsy, xsq, xib, xnc, xnh, rm) (nI p) := by
  unfold wpX_deficitOf
  dsimp only
  rw [nI_clamp (by omega)]
  refine ⟨vp_in_nI hp (by omega), xm_short ?_⟩
  refine loop_0 (fun n i t => wX_deficitOf_12 post (nI p) (nI np) (nI ns) (nI cp) mr (nI rc) nq (nI cy) ca ho st xse xbu xsc xqt xam xat xsy xsq xib xnc xnh rm n t (nI i)) (fun i t => t = dv_df (xnc p) (fun s => xnh (p * 4 + s)) i) ns (dv_sf (xnc p)) rfl ?_ ?_
  · intro n t ht
    exact br_t (nI_le (Nat.le_refl _) (by omega)) (by rw [ht]; exact h)
  · intro n i t hi ht ih
    refine br_f (nI_ge hi (by omega)) (xm_hix ⟨vp_in_nI (by omega) (by omega), nm_r (e' := xnh (p * 4 + i)) (by rw [nI_clamp (by omega)]) (xm_short (nm_r (e' := dv_df (xnc p) (fun s => xnh (p * 4 + s)) (i + 1)) ?_ (nm_r (nI_1 i) (ih _ rfl))))⟩)
    rw [ht]; rfl
theorem xm_debtor {post : Int32 → Prop} (n8 : np ≤ 8) (s4 : ns ≤ 4) (h : post (dv_db (fun p => dv_df (xnc p) (fun s => xnh (p * 4 + s)) ns) np).1) : wpX_largestDebtor post (nI np, nI ns, nI cp, mr, nI rc, nq, nI cy, ca, ho, st, xse, xbu, xsc, xqt, xam, xat, xsy, xsq, xib, xnc, xnh, rm) := by
  refine loop_0 (fun n i (s : Int32 × Int32) => wX_largestDebtor_6 post (nI np) (nI ns) (nI cp) mr (nI rc) nq (nI cy) ca ho st xse xbu xsc xqt xam xat xsy xsq xib xnc xnh rm n s.1 s.2 (nI i)) (fun i s => s = dv_db (fun p => dv_df (xnc p) (fun s => xnh (p * 4 + s)) ns) i) np (-1, 0) rfl ?_ ?_
  · intro n s hs
    exact br_t (nI_le (Nat.le_refl _) (by omega)) (by rw [hs]; exact h)
  · intro n i s hi hs ih
    refine br_f (nI_ge hi (by omega)) (xm_def s4 (by omega) (br_c (fun z => nm_r (nI_1 i) (ih s ?_)) (fun z => nm_r (nI_1 i) (ih (nI i, dv_df (xnc i) (fun s => xnh (i * 4 + s)) ns) ?_))))
    · rw [hs] at z ⊢
      exact (if_pos z).symm
    · rw [hs] at z
      exact (if_neg z).symm
theorem dv_D_sp {se bu sc qt am b nc nh : Nat → Int32} (n8 : np ≤ 8) (s4 : ns ≤ 4) (hS : dv_Sp cp ca ho se bu sc qt am b nc nh) : (dv_db (fun p => dv_df (nc p) (fun s => nh (p * 4 + s)) ns) np).1 = dv_D np ns cp ca ho se bu sc qt am b := by
  unfold dv_D
  refine congrArg Prod.fst (dv_db_congr (fun p hp => ?_))
  show dv_df (nc p) _ ns = dv_df _ _ ns
  rw [hS.1 p (by omega)]
  exact dv_df_congr (fun s hs => hS.2 p s (by omega) (by omega))
theorem xm_remv {post : Int32 → Prop} {i D C : Nat} (hi : i < 64) (hD : D < 8) (hC : C < 4) (eC : xsc i = nI C)
    (h1 : dv_ok (nI D) (xnc D) (fun s => xnh (D * 4 + s)) xse xbu xsc xam i = true → post 1) (h0 : dv_ok (nI D) (xnc D) (fun s => xnh (D * 4 + s)) xse xbu xsc xam i = false → post 0) : wpX_isRemovable post (nI np, nI ns, nI cp, mr, nI rc, nq, nI cy, ca, ho, st, xse, xbu, xsc, xqt, xam, xat, xsy, xsq, xib, xnc, xnh, rm) (nI i) (nI D) := by
  have vi : vp_in (nI i) 64 := vp_in_nI hi (by omega)
  have vD : vp_in (nI D) 8 := vp_in_nI hD (by omega)
  have e8 : (xsc i).toNatClampNeg = C := by rw [eC]; exact nI_clamp (by omega)
  unfold wpX_isRemovable
  dsimp only
  rw [nI_clamp (n := i) (by omega), nI_clamp (n := D) (by omega), eC]
  refine ⟨vi, br_c (fun e => ⟨vi, br_c (fun z => h0 (dv_ok_b0 e (Or.inl (Int32.not_lt.mpr z)))) (fun z => ⟨vD, br_c (fun y => h0 (dv_ok_b0 e (Or.inr (Int32.not_lt.mpr y)))) (fun y => h1 (dv_ok_b1 e (Int32.not_le.mp z) (Int32.not_le.mp y)))⟩)⟩)
    (fun e => ⟨vi, br_c (fun z => ⟨vi, xm_hix ⟨vp_in_nI (by omega) (by omega), ?_⟩⟩) (fun z => h0 (dv_ok_s0 e (Or.inl z)))⟩)⟩
  rw [nI_clamp (by omega)]
  exact br_c (fun y => h0 (dv_ok_s0 e (Or.inr (by rw [e8]; exact Int32.not_lt.mpr y)))) (fun y => h1 (dv_ok_s1 e z (by rw [e8]; exact Int32.not_le.mp y)))
theorem xm_pick {post : Int32 → Prop} {D : Nat} (n8 : np ≤ 8) (s4 : ns ≤ 4) (c64 : cp ≤ 64) (hD : D < 8) (hV : dv_Val np ns xib xse xbu xsc)
    (h : post (dv_pk xib (dv_ok (nI D) (xnc D) (fun s => xnh (D * 4 + s)) xse xbu xsc xam) xsq cp)) : wpX_latestRemovable post (nI np, nI ns, nI cp, mr, nI rc, nq, nI cy, ca, ho, st, xse, xbu, xsc, xqt, xam, xat, xsy, xsq, xib, xnc, xnh, rm) (nI D) := by
  refine loop_0 (fun n i t => wX_latestRemovable_4 post (nI D) (nI np) (nI ns) (nI cp) mr (nI rc) nq (nI cy) ca ho st xse xbu xsc xqt xam xat xsy xsq xib xnc xnh rm n t (nI i)) (fun i t => t = dv_pk xib (dv_ok (nI D) (xnc D) (fun s => xnh (D * 4 + s)) xse xbu xsc xam) xsq i) cp (-1) rfl ?_ ?_
  · intro n t ht
    exact br_t (nI_le (Nat.le_refl _) (by omega)) (by rw [ht]; exact h)
  · intro n i t hi ht ih
    have vi : vp_in (nI i) 64 := vp_in_nI (by omega) (by omega)
    have ei : (nI i).toNatClampNeg = i := nI_clamp (by omega)
    refine br_f (nI_ge hi (by omega)) ⟨vi, br_c (fun z => nm_r (nI_1 i) (ih t ?_)) (fun z => ?_)⟩
    · rw [ei] at z
      rw [dv_pk_n (fun e => e.1 z)]; exact ht
    · rw [ei] at z
      obtain ⟨A, B, C, hA, hB, hC, hAB, eA, eB, eC⟩ := hV i z
      refine xm_remv (by omega) hD (C := C) (by omega) eC (fun k1 => ?_) (fun k0 => br_t rfl (nm_r (nI_1 i) (ih t ?_)))
      · refine br_f (by decide) (br_c (fun y => nm_r (nI_1 i) (ih (nI i) ?_)) (fun y => ⟨vi, ?_, ?_⟩))
        · rw [ht] at y
          exact (dv_pk_y ⟨z, k1, Or.inl y⟩).symm
        · rw [ht] at y ⊢
          rcases dv_pk_in xib (dv_ok (nI D) (xnc D) (fun s => xnh (D * 4 + s)) xse xbu xsc xam) xsq i with e | ⟨j, hj, e, _⟩
          · exact absurd e y
          · rw [e]; exact vp_in_nI (by omega) (by omega)
        · rw [ei]
          refine br_c (fun x => nm_r (nI_1 i) (ih t ?_)) (fun x => nm_r (nI_1 i) (ih (nI i) ?_))
          · rw [ht] at x y ⊢
            refine (dv_pk_n (fun e => ?_)).symm
            rcases e.2.2 with e | e
            · exact y e
            · exact Int64.not_le.mpr e x
          · rw [ht] at x
            exact (dv_pk_y ⟨z, k1, Or.inr (Int64.not_le.mp x)⟩).symm
      · rw [ht]
        refine (dv_pk_n (fun e => ?_)).symm
        rw [k0] at e
        exact absurd e.2.1 (by decide)
theorem dv_P_sp {D : Nat} {se bu sc qt am b nc nh : Nat → Int32} {sq : Nat → Int64} (n8 : np ≤ 8) (s4 : ns ≤ 4) (c64 : cp ≤ 64) (hD : D < 8) (hV : dv_Val np ns b se bu sc) (hS : dv_Sp cp ca ho se bu sc qt am b nc nh) :
    dv_pk b (dv_ok (nI D) (nc D) (fun s => nh (D * 4 + s)) se bu sc am) sq cp = dv_P cp ca ho se bu sc qt am sq (nI D) b := by
  unfold dv_P
  refine dv_pk_congr (by omega) (fun j _ hj => ⟨?_, rfl⟩)
  obtain ⟨A, B, C, hA, hB, hC, hAB, eA, eB, eC⟩ := hV j hj
  rw [hS.1 D hD, nI_clamp (n := D) (by omega)]
  refine dv_ok_congr rfl rfl rfl rfl ?_
  rw [eC, nI_clamp (n := C) (by omega)]
  exact hS.2 D C hD (by omega)
/-- one round of the component -/
theorem xm_round {post : SX → Prop} {n i : Nat} (n8 : np ≤ 8) (s4 : ns ≤ 4) (c64 : cp ≤ 64) (r64 : rc ≤ 64) (hi : i ≤ cp) (hV : dv_Val np ns xib xse xbu xsc)
    (h : ∀ nc nh, dv_Sp cp ca ho xse xbu xsc xqt xam xib nc nh →
      (dv_D np ns cp ca ho xse xbu xsc xqt xam xib = -1 → post (nI np, nI ns, nI cp, mr, nI rc, nq, nI cy, ca, ho, st, xse, xbu, xsc, xqt, xam, xat, xsy, xsq, xib, nc, nh, rm)) ∧
      (dv_D np ns cp ca ho xse xbu xsc xqt xam xib ≠ -1 → (dv_P cp ca ho xse xbu xsc xqt xam xsq (dv_D np ns cp ca ho xse xbu xsc xqt xam xib) xib = -1 ∨ 64 ≤ rc) → wX_removeUntilCovered_2 post n (nI (i + 1)) (nI np) (nI ns) (nI cp) mr (nI rc) nq (nI cy) ca ho st xse xbu xsc xqt xam xat xsy xsq xib nc nh rm) ∧
      (dv_D np ns cp ca ho xse xbu xsc xqt xam xib ≠ -1 → rc < 64 → ∀ j, j < cp → dv_P cp ca ho xse xbu xsc xqt xam xsq (dv_D np ns cp ca ho xse xbu xsc xqt xam xib) xib = nI j →
        wX_removeUntilCovered_2 post n (nI (i + 1)) (nI np) (nI ns) (nI cp) mr (nI (rc + 1)) nq (nI cy) ca ho st xse xbu xsc xqt xam xat xsy xsq (upd xib j 0) nc nh (upd rm rc (nI j)))) :
    wX_removeUntilCovered_2 post (n + 1) (nI i) (nI np) (nI ns) (nI cp) mr (nI rc) nq (nI cy) ca ho st xse xbu xsc xqt xam xat xsy xsq xib xnc xnh rm := by
  refine br_f (nI_nlt hi (by omega)) (xm_nets n8 s4 c64 hV (fun nc nh hS => xm_debtor n8 s4 ?_))
  obtain ⟨k1, k2, k3⟩ := h nc nh hS
  rw [dv_D_sp n8 s4 hS]
  refine br_c k1 (fun z => ?_)
  obtain ⟨D, hD, eD⟩ : ∃ D, D < 8 ∧ dv_D np ns cp ca ho xse xbu xsc xqt xam xib = nI D := by
    rcases dv_db_in (fun p => dv_df (dv_nc ca xib xse xbu xam p cp) (fun s => dv_nh ho xib xse xbu xsc xqt p s cp) ns) np with e | ⟨j, hj, e⟩
    · exact absurd e z
    · exact ⟨j, by omega, e⟩
  rw [eD] at k2 k3 z ⊢
  refine xm_pick n8 s4 c64 hD hV ?_
  rw [dv_P_sp n8 s4 c64 hD hV hS]
  refine br_c (fun y => nm_r (nI_1 i) (k2 z (Or.inl y))) (fun y => ?_)
  obtain ⟨j, hj, ej⟩ : ∃ j, j < cp ∧ dv_P cp ca ho xse xbu xsc xqt xam xsq (nI D) xib = nI j := by
    rcases dv_pk_in xib (dv_ok (nI D) (dv_nc ca xib xse xbu xam (nI D).toNatClampNeg cp) (fun s => dv_nh ho xib xse xbu xsc xqt (nI D).toNatClampNeg s cp) xse xbu xsc xam) xsq cp with e | ⟨j, hj, e, _⟩
    · exact absurd e y
    · exact ⟨j, hj, e⟩
  by_cases hr : rc < 64
  · have k4 := k3 z hr j hj ej
    rw [ej]
    refine br_t (nI_lt (b := 64) hr (by omega)) ⟨vp_in_nI (by omega) (by omega), nm_r (e' := upd xib j 0) (by rw [nI_clamp (by omega), dv_nb0]) ⟨vp_in_nI hr (by omega), nm_r (e' := upd rm rc (nI j)) (by rw [nI_clamp (by omega)]) (nm_r (nI_1 rc) (nm_r (nI_1 i) k4))⟩⟩
  · exact br_f (nI_nlt (b := 64) (by omega) (by omega)) (nm_r (nI_1 i) (k2 z (Or.inr (by omega))))
theorem xm_round_e {post : SX → Prop} {n : Nat} (c64 : cp ≤ 64) (h : post (nI np, nI ns, nI cp, mr, nI rc, nq, nI cy, ca, ho, st, xse, xbu, xsc, xqt, xam, xat, xsy, xsq, xib, xnc, xnh, rm)) : wX_removeUntilCovered_2 post (n + 1) (nI (cp + 1)) (nI np) (nI ns) (nI cp) mr (nI rc) nq (nI cy) ca ho st xse xbu xsc xqt xam xat xsy xsq xib xnc xnh rm :=
  br_t (nI_lt (by omega) (by omega)) h
end
end
section
section
variable {np ns cp cy rc : Nat} {mr : Int32} {nq : Int64} {ca ho st rm xse xbu xsc xqt xam xat xsy xib xnc xnh yse ybu ysc yqt yam yat ysy yib ync ynh : Nat → Int32} {xsq ysq : Nat → Int64}
theorem ym_nc45 {post : Int32 → Prop} {J : Int32 → Int32 → Prop} {p i : Nat} {t : Int32} (hi : i < 64) (hb : ybu i = nI p → J (t - yam i) (nI (i + 1))) (hn : ybu i ≠ nI p → J t (nI (i + 1))) : wY_netCashOf_45 post J (nI p) t (nI i) (nI np) (nI ns) (nI cp) mr (nI cy) (nI rc) nq ca ho yse ybu ysc yqt yam st yat ysy ysq rm ync ynh yib := by
  have vi : vp_in (nI i) 64 := vp_in_nI hi (by omega)
  unfold wY_netCashOf_45
  rw [nI_clamp (n := i) (by omega)]
  exact ⟨vi, br_c (fun e => ⟨vi, nm_e (nm_r (nI_1 i) (hb e))⟩) (fun e => nm_r (nI_1 i) (hn e))⟩
theorem ym_nc {post : Int32 → Prop} {p : Nat} (n8 : np ≤ 8) (c64 : cp ≤ 64) (hp : p < 8) (hV : dv_Val np ns yib yse ybu ysc) (h : post (dv_nc ca yib yse ybu yam p cp)) : wpY_netCashOf post (nI np, nI ns, nI cp, mr, nI cy, nI rc, nq, ca, ho, yse, ybu, ysc, yqt, yam, st, yat, ysy, ysq, rm, ync, ynh, yib) (nI p) := by
  unfold wpY_netCashOf
  dsimp only
  refine ⟨vp_in_nI hp (by omega), nm_r (e' := ca p) (by rw [nI_clamp (by omega)]) ?_⟩
  refine loop_0 (fun n i t => wY_netCashOf_9 post (nI p) (nI np) (nI ns) (nI cp) mr (nI cy) (nI rc) nq ca ho yse ybu ysc yqt yam st yat ysy ysq rm ync ynh yib n t (nI i)) (fun i t => t = dv_nc ca yib yse ybu yam p i) cp (ca p) rfl ?_ ?_
  · intro n t ht
    exact br_t (nI_le (Nat.le_refl _) (by omega)) (by rw [ht]; exact h)
  · intro n i t hi ht ih
    have vi : vp_in (nI i) 64 := vp_in_nI (by omega) (by omega)
    have ei : (nI i).toNatClampNeg = i := nI_clamp (by omega)
    refine br_f (nI_ge hi (by omega)) ⟨vi, br_c (fun z => nm_r (nI_1 i) (ih t ?_)) (fun z => ⟨vi, br_c (fun e => ⟨vi, nm_r (e' := t + yam i) (by rw [ei]) (ym_nc45 (by omega) (fun e2 => ?_) (fun _ => ih _ ?_))⟩) (fun e => ym_nc45 (by omega) (fun e2 => ih _ ?_) (fun e2 => ih _ ?_))⟩)⟩
    · rw [ei] at z
      rw [dv_nc_s, dv_c1_0 z]; exact ht
    · rw [ei] at z e
      obtain ⟨A, B, C, hA, hB, hC, hAB, eA, eB, eC⟩ := hV i z
      exact absurd ((nI_eq (by omega) (by omega)).mp (eA.symm.trans (e.trans (e2.symm.trans eB)))) hAB
    · rw [ei] at z e
      rw [dv_nc_s, dv_c1_s z e, ht]
    · rw [ei] at z e
      rw [dv_nc_s, dv_c1_b z e e2, ht]
    · rw [ei] at z e
      rw [dv_nc_s, dv_c1_n e e2, ht]
theorem ym_nh65 {post : Int32 → Prop} {J : Int32 → Int32 → Prop} {p s i : Nat} {t : Int32} (hi : i < 64) (hb : yse i = nI p → J (t - yqt i) (nI (i + 1))) (hn : yse i ≠ nI p → J t (nI (i + 1))) : wY_netSecOf_65 post J (nI p) (nI s) t (nI i) (nI np) (nI ns) (nI cp) mr (nI cy) (nI rc) nq ca ho yse ybu ysc yqt yam st yat ysy ysq rm ync ynh yib := by
  have vi : vp_in (nI i) 64 := vp_in_nI hi (by omega)
  unfold wY_netSecOf_65
  rw [nI_clamp (n := i) (by omega)]
  exact ⟨vi, br_c (fun e => ⟨vi, nm_e (nm_r (nI_1 i) (hb e))⟩) (fun e => nm_r (nI_1 i) (hn e))⟩
theorem ym_nh {post : Int32 → Prop} {p s : Nat} (n8 : np ≤ 8) (c64 : cp ≤ 64) (hp : p < 8) (hs : s < 4) (hV : dv_Val np ns yib yse ybu ysc) (h : post (dv_nh ho yib yse ybu ysc yqt p s cp)) : wpY_netSecOf post (nI np, nI ns, nI cp, mr, nI cy, nI rc, nq, ca, ho, yse, ybu, ysc, yqt, yam, st, yat, ysy, ysq, rm, ync, ynh, yib) (nI p) (nI s) := by
  unfold wpY_netSecOf
  dsimp only
  rw [dv_hx, nI_clamp (n := p * 4 + s) (by omega)]
  refine ⟨vp_in_nI (by omega) (by omega), nm_e ?_⟩
  refine loop_0 (fun n i t => wY_netSecOf_14 post (nI p) (nI s) (nI np) (nI ns) (nI cp) mr (nI cy) (nI rc) nq ca ho yse ybu ysc yqt yam st yat ysy ysq rm ync ynh yib n t (nI i)) (fun i t => t = dv_nh ho yib yse ybu ysc yqt p s i) cp (ho (p * 4 + s)) rfl ?_ ?_
  · intro n t ht
    exact br_t (nI_le (Nat.le_refl _) (by omega)) (by rw [ht]; exact h)
  · intro n i t hi ht ih
    have vi : vp_in (nI i) 64 := vp_in_nI (by omega) (by omega)
    have ei : (nI i).toNatClampNeg = i := nI_clamp (by omega)
    refine br_f (nI_ge hi (by omega)) ⟨vi, br_c (fun z => nm_r (nI_1 i) (ih t ?_)) (fun z => ⟨vi, br_c (fun c => ⟨vi, br_c (fun e => ⟨vi, nm_r (e' := t + yqt i) (by rw [ei]) (ym_nh65 (by omega) (fun e2 => ?_) (fun e2 => ih _ ?_))⟩) (fun e => ym_nh65 (by omega) (fun e2 => ih _ ?_) (fun e2 => ih _ ?_))⟩) (fun c => nm_r (nI_1 i) (ih t ?_))⟩)⟩
    · rw [ei] at z
      rw [dv_nh_s, dv_h1_0 z]; exact ht
    · rw [ei] at z e
      obtain ⟨A, B, C, hA, hB, hC, hAB, eA, eB, eC⟩ := hV i z
      exact absurd ((nI_eq (by omega) (by omega)).mp (eA.symm.trans (e2.trans (e.symm.trans eB)))) hAB
    · rw [ei] at z e c
      rw [dv_nh_s, dv_h1_b z c e2 e, ht]
    · rw [ei] at z e c
      rw [dv_nh_s, dv_h1_s z c e2, ht]
    · rw [ei] at z e c
      rw [dv_nh_s, dv_h1_n e2 e, ht]
    · rw [ei] at z c
      rw [dv_nh_s, dv_h1_c c, ht]
theorem ym_def {post : Int32 → Prop} {p : Nat} (n8 : np ≤ 8) (s4 : ns ≤ 4) (c64 : cp ≤ 64) (hp : p < 8) (hV : dv_Val np ns yib yse ybu ysc) (h : post (dv_df (dv_nc ca yib yse ybu yam p cp) (fun s => dv_nh ho yib yse ybu ysc yqt p s cp) ns)) : wpY_deficitOf post (nI np, nI ns, nI cp, mr, nI cy, nI rc, nq, ca, ho, yse, ybu, ysc, yqt, yam, st, yat, ysy, ysq, rm, ync, ynh, yib) (nI p) := by
  have L : ∃ n, wY_deficitOf_19 post (nI p) (nI np) (nI ns) (nI cp) mr (nI cy) (nI rc) nq ca ho yse ybu ysc yqt yam st yat ysy ysq rm ync ynh yib n (dv_sf (dv_nc ca yib yse ybu yam p cp)) 0 := by
    refine loop_0 (fun n i t => wY_deficitOf_19 post (nI p) (nI np) (nI ns) (nI cp) mr (nI cy) (nI rc) nq ca ho yse ybu ysc yqt yam st yat ysy ysq rm ync ynh yib n t (nI i)) (fun i t => t = dv_df (dv_nc ca yib yse ybu yam p cp) (fun s => dv_nh ho yib yse ybu ysc yqt p s cp) i) ns (dv_sf (dv_nc ca yib yse ybu yam p cp)) rfl ?_ ?_
    · intro n t ht
      exact br_t (nI_le (Nat.le_refl _) (by omega)) (by rw [ht]; exact h)
    · intro n i t hi ht ih
      refine br_f (nI_ge hi (by omega)) (ym_nh n8 c64 hp (by omega) hV (br_c (fun z => nm_r (nI_1 i) (ih t ?_)) (fun z => nm_r (e' := dv_df (dv_nc ca yib yse ybu yam p cp) (fun s => dv_nh ho yib yse ybu ysc yqt p s cp) (i + 1)) ?_ (nm_r (nI_1 i) (ih _ rfl)))))
      · rw [ht]; exact dv_y2 (Int32.not_lt.mpr z)
      · rw [ht]; exact dv_y1 (Int32.not_le.mp z)
  unfold wpY_deficitOf
  dsimp only
  refine ym_nc n8 c64 hp hV (br_c (fun z => ?_) (fun z => nm_r (e' := dv_sf (dv_nc ca yib yse ybu yam p cp)) (dv_y0 (Int32.not_le.mp z)) L))
  rw [dv_sf_p (Int32.not_lt.mpr z)] at L
  exact L
theorem ym_p94 {post : Int32 → Prop} {J : Int32 → Int32 → Prop} {x1 x2 x5 t : Int32} {i : Nat} (hi : i < 64) (h0 : x5 = 0 → J t (nI (i + 1))) (h1 : x5 ≠ 0 → t < 0 → J (nI i) (nI (i + 1))) (hv : ¬ t < 0 → vp_in t 64)
    (h2 : x5 ≠ 0 → ¬ t < 0 → ysq i ≤ ysq t.toNatClampNeg → J t (nI (i + 1))) (h3 : x5 ≠ 0 → ¬ t < 0 → ¬ ysq i ≤ ysq t.toNatClampNeg → J (nI i) (nI (i + 1))) : wY_pickRemovable_94 post J x1 x2 t (nI i) x5 (nI np) (nI ns) (nI cp) mr (nI cy) (nI rc) nq ca ho yse ybu ysc yqt yam st yat ysy ysq rm ync ynh yib := by
  have vi : vp_in (nI i) 64 := vp_in_nI hi (by omega)
  unfold wY_pickRemovable_94
  rw [nI_clamp (n := i) (by omega)]
  exact br_c (fun z => nm_r (nI_1 i) (h0 z)) (fun z => br_c (fun y => nm_r (nI_1 i) (h1 z y)) (fun y => ⟨vi, hv y, br_c (fun x => nm_r (nI_1 i) (h2 z y x)) (fun x => nm_r (nI_1 i) (h3 z y x))⟩))
theorem ym_p61 {post : Int32 → Prop} {J : Int32 → Int32 → Prop} {x2 x5 t : Int32} {i D C : Nat} (n8 : np ≤ 8) (c64 : cp ≤ 64) (hi : i < 64) (hD : D < 8) (hC : C < 4) (eC : ysc i = nI C) (hV : dv_Val np ns yib yse ybu ysc)
    (h1 : yse i = nI D → dv_nh ho yib yse ybu ysc yqt D C cp < 0 → wY_pickRemovable_94 post J (nI D) x2 t (nI i) 1 (nI np) (nI ns) (nI cp) mr (nI cy) (nI rc) nq ca ho yse ybu ysc yqt yam st yat ysy ysq rm ync ynh yib)
    (h2 : yse i = nI D → ¬ dv_nh ho yib yse ybu ysc yqt D C cp < 0 → wY_pickRemovable_94 post J (nI D) x2 t (nI i) x5 (nI np) (nI ns) (nI cp) mr (nI cy) (nI rc) nq ca ho yse ybu ysc yqt yam st yat ysy ysq rm ync ynh yib)
    (h3 : yse i ≠ nI D → wY_pickRemovable_94 post J (nI D) x2 t (nI i) x5 (nI np) (nI ns) (nI cp) mr (nI cy) (nI rc) nq ca ho yse ybu ysc yqt yam st yat ysy ysq rm ync ynh yib) : wY_pickRemovable_61 post J (nI D) x2 t (nI i) x5 (nI np) (nI ns) (nI cp) mr (nI cy) (nI rc) nq ca ho yse ybu ysc yqt yam st yat ysy ysq rm ync ynh yib := by
  have vi : vp_in (nI i) 64 := vp_in_nI hi (by omega)
  unfold wY_pickRemovable_61
  rw [nI_clamp (n := i) (by omega), eC]
  exact ⟨vi, br_c (fun e => ⟨vi, ym_nh n8 c64 hD hC hV (br_c (fun z => h2 e (Int32.not_lt.mpr z)) (fun z => h1 e (Int32.not_le.mp z)))⟩) h3⟩
theorem ym_pick {post : Int32 → Prop} {D : Nat} (n8 : np ≤ 8) (s4 : ns ≤ 4) (c64 : cp ≤ 64) (hD : D < 8) (hV : dv_Val np ns yib yse ybu ysc)
    (h : post (dv_P cp ca ho yse ybu ysc yqt yam ysq (nI D) yib)) : wpY_pickRemovable post (nI np, nI ns, nI cp, mr, nI cy, nI rc, nq, ca, ho, yse, ybu, ysc, yqt, yam, st, yat, ysy, ysq, rm, ync, ynh, yib) (nI D) := by
  have eD : (nI D).toNatClampNeg = D := nI_clamp (by omega)
  unfold dv_P at h
  rw [eD] at h
  unfold wpY_pickRemovable
  dsimp only
  refine ym_nc n8 c64 hD hV ?_
  refine loop_0 (fun n i t => wY_pickRemovable_11 post (nI D) (dv_nc ca yib yse ybu yam D cp) (nI np) (nI ns) (nI cp) mr (nI cy) (nI rc) nq ca ho yse ybu ysc yqt yam st yat ysy ysq rm ync ynh yib n t (nI i)) (fun i t => t = dv_pk yib (dv_ok (nI D) (dv_nc ca yib yse ybu yam D cp) (fun s => dv_nh ho yib yse ybu ysc yqt D s cp) yse ybu ysc yam) ysq i) cp (-1) rfl ?_ ?_
  · intro n t ht
    exact br_t (nI_le (Nat.le_refl _) (by omega)) (by rw [ht]; exact h)
  · intro n i t hi ht ih
    have vi : vp_in (nI i) 64 := vp_in_nI (by omega) (by omega)
    have ei : (nI i).toNatClampNeg = i := nI_clamp (by omega)
    refine br_f (nI_ge hi (by omega)) ⟨vi, br_c (fun z => nm_r (nI_1 i) (ih t ?_)) (fun z => ⟨vi, ?_⟩)⟩
    · rw [ei] at z
      rw [dv_pk_n (fun e => e.1 z)]; exact ht
    · rw [ei] at z ⊢
      obtain ⟨A, B, C, hA, hB, hC, hAB, eA, eB, eC⟩ := hV i z
      have hneg : t < 0 ↔ t = -1 := by
        rw [ht]
        rcases dv_pk_in yib (dv_ok (nI D) (dv_nc ca yib yse ybu yam D cp) (fun s => dv_nh ho yib yse ybu ysc yqt D s cp) yse ybu ysc yam) ysq i with e | ⟨j, hj, e, _⟩
        · rw [e]; exact ⟨fun _ => rfl, fun _ => by decide⟩
        · rw [e]; exact ⟨fun x => absurd x (nI_pos (by omega)), fun x => absurd x (dv_m1 (by omega))⟩
      have hvt : ¬ t < 0 → vp_in t 64 := by
        intro y
        rw [hneg] at y
        rw [ht] at y ⊢
        rcases dv_pk_in yib (dv_ok (nI D) (dv_nc ca yib yse ybu yam D cp) (fun s => dv_nh ho yib yse ybu ysc yqt D s cp) yse ybu ysc yam) ysq i with e | ⟨j, hj, e, _⟩
        · exact absurd e y
        · rw [e]; exact vp_in_nI (by omega) (by omega)
      have fin0 : dv_ok (nI D) (dv_nc ca yib yse ybu yam D cp) (fun s => dv_nh ho yib yse ybu ysc yqt D s cp) yse ybu ysc yam i = false →
          wY_pickRemovable_94 post (wY_pickRemovable_11 post (nI D) (dv_nc ca yib yse ybu yam D cp) (nI np) (nI ns) (nI cp) mr (nI cy) (nI rc) nq ca ho yse ybu ysc yqt yam st yat ysy ysq rm ync ynh yib n) (nI D) (dv_nc ca yib yse ybu yam D cp) t (nI i) 0 (nI np) (nI ns) (nI cp) mr (nI cy) (nI rc) nq ca ho yse ybu ysc yqt yam st yat ysy ysq rm ync ynh yib := by
        intro k0
        refine ym_p94 (by omega) (fun _ => ih t ?_) (fun y => absurd rfl y) hvt (fun y => absurd rfl y) (fun y => absurd rfl y)
        rw [ht]
        refine (dv_pk_n (fun e => ?_)).symm
        rw [k0] at e
        exact absurd e.2.1 (by decide)
      have fin1 : dv_ok (nI D) (dv_nc ca yib yse ybu yam D cp) (fun s => dv_nh ho yib yse ybu ysc yqt D s cp) yse ybu ysc yam i = true →
          wY_pickRemovable_94 post (wY_pickRemovable_11 post (nI D) (dv_nc ca yib yse ybu yam D cp) (nI np) (nI ns) (nI cp) mr (nI cy) (nI rc) nq ca ho yse ybu ysc yqt yam st yat ysy ysq rm ync ynh yib n) (nI D) (dv_nc ca yib yse ybu yam D cp) t (nI i) 1 (nI np) (nI ns) (nI cp) mr (nI cy) (nI rc) nq ca ho yse ybu ysc yqt yam st yat ysy ysq rm ync ynh yib := by
        intro k1
        refine ym_p94 (by omega) (fun y => absurd y (by decide)) (fun _ y => ih (nI i) ?_) hvt (fun _ y x => ih t ?_) (fun _ y x => ih (nI i) ?_)
        · rw [hneg, ht] at y
          exact (dv_pk_y ⟨z, k1, Or.inl y⟩).symm
        · rw [hneg] at y
          rw [ht] at x y ⊢
          refine (dv_pk_n (fun e => ?_)).symm
          rcases e.2.2 with e | e
          · exact y e
          · exact Int64.not_le.mpr e x
        · rw [ht] at x
          exact (dv_pk_y ⟨z, k1, Or.inr (Int64.not_le.mp x)⟩).symm
      have e8 : (ysc i).toNatClampNeg = C := by rw [eC]; exact nI_clamp (by omega)
      refine br_c (fun e => ⟨vi, ?_⟩) (fun e => ?_)
      · have ns' : yse i ≠ nI D := fun e2 => absurd ((nI_eq (by omega) (by omega)).mp (eA.symm.trans (e2.trans (e.symm.trans eB)))) hAB
        refine br_c (fun a => ?_) (fun a => br_c (fun b => ?_) (fun b => ?_))
        · exact ym_p61 n8 c64 (by omega) hD (by omega) eC hV (fun x => absurd x ns') (fun x => absurd x ns') (fun _ => fin0 (dv_ok_b0 e (Or.inl (Int32.not_lt.mpr a))))
        · exact ym_p61 n8 c64 (by omega) hD (by omega) eC hV (fun x => absurd x ns') (fun x => absurd x ns') (fun _ => fin0 (dv_ok_b0 e (Or.inr (Int32.not_lt.mpr b))))
        · exact ym_p61 n8 c64 (by omega) hD (by omega) eC hV (fun x => absurd x ns') (fun x => absurd x ns') (fun _ => fin1 (dv_ok_b1 e (Int32.not_le.mp a) (Int32.not_le.mp b)))
      · exact ym_p61 n8 c64 (by omega) hD (by omega) eC hV (fun x y => fin1 (dv_ok_s1 e x (by rw [e8]; exact y))) (fun x y => fin0 (dv_ok_s0 e (Or.inr (by rw [e8]; exact y)))) (fun x => fin0 (dv_ok_s0 e (Or.inl x)))
end
end
section
section
variable {np ns cp cy rc : Nat} {mr : Int32} {nq : Int64} {ca ho st rm xse xbu xsc xqt xam xat xsy xib xnc xnh yse ybu ysc yqt yam yat ysy yib ync ynh : Nat → Int32} {xsq ysq : Nat → Int64}
theorem ym_c338 {post : Int32 → SY → Prop} {x2 : Int32} (r64 : rc ≤ 64) (hR : ∀ k, k < rc → ∃ j, j < 64 ∧ rm k = nI j) (h : post x2 (nI np, nI ns, nI cp, mr, nI cy, nI rc, nq, ca, ho, yse, ybu, ysc, yqt, yam, dv_fs rm yat st mr rc, dv_at rm yat rc, ysy, ysq, rm, ync, ynh, yib)) : ∃ n, wY_cycle_338 post x2 (nI np) (nI ns) (nI cp) mr (nI cy) (nI rc) nq n 0 ca ho yse ybu ysc yqt yam st yat ysy ysq rm ync ynh yib := by
  refine loop_0 (fun n i (s : (Nat → Int32) × (Nat → Int32)) => wY_cycle_338 post x2 (nI np) (nI ns) (nI cp) mr (nI cy) (nI rc) nq n (nI i) ca ho yse ybu ysc yqt yam s.1 s.2 ysy ysq rm ync ynh yib) (fun i s => s = (dv_fs rm yat st mr i, dv_at rm yat i)) rc (st, yat) rfl ?_ ?_
  · intro n s hs
    exact br_t (nI_le (Nat.le_refl _) (by omega)) (by rw [hs]; exact h)
  · intro n i s hi hs ih
    subst hs
    have vi : vp_in (nI i) 64 := vp_in_nI (by omega) (by omega)
    have ei : (nI i).toNatClampNeg = i := nI_clamp (by omega)
    obtain ⟨j, hj, ej⟩ := hR i hi
    have vj : vp_in (rm i) 64 := by rw [ej]; exact vp_in_nI hj (by omega)
    refine br_f (nI_ge hi (by omega)) ⟨vi, nm_r (e' := rm i) (by rw [ei]) ⟨vj, vj, nm_r (e' := dv_at rm yat (i + 1)) rfl ⟨vj, br_c (fun z => nm_r (nI_1 i) (ih (dv_fs rm yat st mr i, dv_at rm yat (i + 1)) ?_)) (fun z => ⟨vj, nm_r (e' := dv_fs rm yat st mr (i + 1)) ?_ (nm_r (nI_1 i) (ih _ rfl))⟩)⟩⟩⟩
    · have e : dv_fs rm yat st mr (i + 1) = dv_fs rm yat st mr i := if_pos z
      rw [e]
    · exact (if_neg z).symm
theorem ym_c289 {post : Int32 → SY → Prop} {x1 : Int32} (c64 : cp ≤ 64)
    (h : ∃ n, wY_cycle_338 post (nI (dv_cn yib cp)) (nI np) (nI ns) (nI cp) mr (nI cy) (nI rc) nq n 0 ca ho yse ybu ysc yqt yam (dv_mk yib st 2 cp) yat (dv_mk yib ysy x1 cp) ysq rm ync ynh (dv_mk yib yib 0 cp)) : ∃ n, wY_cycle_289 post x1 (nI np) (nI ns) (nI cp) mr (nI cy) (nI rc) nq n 0 0 ca ho yse ybu ysc yqt yam st yat ysy ysq rm ync ynh yib := by
  refine loop_0 (fun n i (s : Int32 × (Nat → Int32) × (Nat → Int32) × (Nat → Int32)) => wY_cycle_289 post x1 (nI np) (nI ns) (nI cp) mr (nI cy) (nI rc) nq n s.1 (nI i) ca ho yse ybu ysc yqt yam s.2.1 yat s.2.2.1 ysq rm ync ynh s.2.2.2) (fun i s => s = (nI (dv_cn yib i), dv_mk yib st 2 i, dv_mk yib ysy x1 i, dv_mk yib yib 0 i)) cp (0, st, ysy, yib) (by rw [dv_mk_0, dv_mk_0, dv_mk_0]; rfl) ?_ ?_
  · intro n s hs
    exact br_t (nI_le (Nat.le_refl _) (by omega)) (by rw [hs]; exact h)
  · intro n i s hi hs ih
    subst hs
    have vi : vp_in (nI i) 64 := vp_in_nI (by omega) (by omega)
    have ei : (nI i).toNatClampNeg = i := nI_clamp (by omega)
    refine br_f (nI_ge hi (by omega)) ⟨vi, br_c (fun z => nm_r (nI_1 i) (ih _ ?_)) (fun z => ⟨vi, nm_r (e' := dv_mk yib st 2 (i + 1)) ?_ ⟨vi, nm_r (e' := dv_mk yib ysy x1 (i + 1)) ?_ (nm_r (e' := nI (dv_cn yib (i + 1))) ?_ ⟨vi, nm_r (e' := dv_mk yib yib 0 (i + 1)) ?_ (nm_r (nI_1 i) (ih _ rfl))⟩)⟩⟩)⟩
    · have z' : yib i = 0 := by rw [ei] at z; exact (dv_mk_at yib yib 0 i).symm.trans z
      rw [dv_cn_s0 z', dv_mk_n z', dv_mk_n z', dv_mk_n z']
    · have z' : yib i ≠ 0 := by rw [ei] at z; exact fun e => z ((dv_mk_at yib yib 0 i).trans e)
      rw [ei]; exact dv_mk_y z'
    · have z' : yib i ≠ 0 := by rw [ei] at z; exact fun e => z ((dv_mk_at yib yib 0 i).trans e)
      rw [ei]; exact dv_mk_y z'
    · have z' : yib i ≠ 0 := by rw [ei] at z; exact fun e => z ((dv_mk_at yib yib 0 i).trans e)
      rw [dv_cn_s1 z']; exact nI_1 _
    · have z' : yib i ≠ 0 := by rw [ei] at z; exact fun e => z ((dv_mk_at yib yib 0 i).trans e)
      rw [ei, dv_nb0]; exact dv_mk_y z'
theorem ym_c267 {post : Int32 → SY → Prop} {J : Int32 → (Nat → Int32) → (Nat → Int32) → (Nat → Int32) → (Nat → Int32) → (Nat → Int32) → (Nat → Int32) → (Nat → Int32) → (Nat → Int32) → (Nat → Int32) → (Nat → Int32) → (Nat → Int64) → (Nat → Int32) → (Nat → Int32) → (Nat → Int32) → (Nat → Int32) → Prop} {x1 : Int32} {i : Nat} (hi : i < 32)
    (h : J (nI (i + 1)) ca (upd ho i (ynh i)) yse ybu ysc yqt yam st yat ysy ysq rm ync ynh yib) : wY_cycle_267 post J x1 (nI i) (nI np) (nI ns) (nI cp) mr (nI cy) (nI rc) nq ca ho yse ybu ysc yqt yam st yat ysy ysq rm ync ynh yib := by
  have vi : vp_in (nI i) 32 := vp_in_nI hi (by omega)
  unfold wY_cycle_267
  rw [nI_clamp (n := i) (by omega)]
  exact ⟨vi, vi, nm_e (nm_r (nI_1 i) h)⟩
theorem ym_c243 {post : Int32 → SY → Prop} {x1 : Int32} (h : ∃ n, wY_cycle_289 post x1 (nI np) (nI ns) (nI cp) mr (nI cy) (nI rc) nq n 0 0 (dv_cpy ync ca 8) (dv_cpy ynh ho 32) yse ybu ysc yqt yam st yat ysy ysq rm ync ynh yib) : ∃ n, wY_cycle_243 post x1 (nI np) (nI ns) (nI cp) mr (nI cy) (nI rc) nq n 0 ca ho yse ybu ysc yqt yam st yat ysy ysq rm ync ynh yib := by
  refine loop_0 (fun n i (s : (Nat → Int32) × (Nat → Int32)) => wY_cycle_243 post x1 (nI np) (nI ns) (nI cp) mr (nI cy) (nI rc) nq n (nI i) s.1 s.2 yse ybu ysc yqt yam st yat ysy ysq rm ync ynh yib) (fun i s => s = (dv_cpy ync ca (if i < 8 then i else 8), dv_cpy ynh ho i)) 32 (ca, ho) (by rw [if_pos (by omega), dv_cpy_0, dv_cpy_0]) ?_ ?_
  · intro n s hs
    exact br_t (nI_le (a := 32) (Nat.le_refl _) (by omega)) (by rw [hs, if_neg (by omega)]; exact h)
  · intro n i s hi hs ih
    have ei : (nI i).toNatClampNeg = i := nI_clamp (by omega)
    refine br_f (nI_ge (b := 32) hi (by omega)) (br_c (fun z => ym_c267 hi (ih (s.1, upd s.2 i (ynh i)) ?_)) (fun z => ?_))
    · have h8 : 8 ≤ i := (nI_leI (a := 8) (b := i) (by omega) (by omega)).mp z
      rw [hs, if_neg (by omega), if_neg (by omega)]
      exact congrArg (fun x => (dv_cpy ync ca 8, x)) (dv_cpy_s ynh ho i)
    · have h8 : i < 8 := by
        have h9 : ¬ 8 ≤ i := fun h => z ((nI_leI (a := 8) (b := i) (by omega) (by omega)).mpr h)
        omega
      have vi : vp_in (nI i) 8 := vp_in_nI h8 (by omega)
      refine ⟨vi, vi, nm_r (e' := dv_cpy ync ca (i + 1)) ?_ (ym_c267 hi (ih (dv_cpy ync ca (i + 1), upd s.2 i (ynh i)) ?_))⟩
      · rw [hs, ei, if_pos h8, ← dv_cpy_s]
      · rw [hs]
        have e : (if i + 1 < 8 then i + 1 else 8) = i + 1 := by
          by_cases c : i + 1 < 8
          · rw [if_pos c]
          · rw [if_neg c]; omega
        rw [e]
        exact congrArg (fun x => (dv_cpy ync ca (i + 1), x)) (dv_cpy_s ynh ho i)
theorem ym_c205 {post : Int32 → SY → Prop} {J : Int32 → (Nat → Int32) → (Nat → Int32) → (Nat → Int32) → (Nat → Int32) → (Nat → Int32) → (Nat → Int32) → (Nat → Int32) → (Nat → Int32) → (Nat → Int32) → (Nat → Int32) → (Nat → Int64) → (Nat → Int32) → (Nat → Int32) → (Nat → Int32) → (Nat → Int32) → Prop} {x1 : Int32} {p : Nat} {y0 : Nat → Int32}
    (n8 : np ≤ 8) (s4 : ns ≤ 4) (c64 : cp ≤ 64) (hp : p < 8) (hV : dv_Val np ns yib yse ybu ysc) (h0 : dv_Hs (fun p s => dv_nh ho yib yse ybu ysc yqt p s cp) y0 ns p 0 ynh)
    (h : ∀ nh, dv_Hs (fun p s => dv_nh ho yib yse ybu ysc yqt p s cp) y0 ns (p + 1) 0 nh → J (nI (p + 1)) ca ho yse ybu ysc yqt yam st yat ysy ysq rm ync nh yib) : ∃ n, wY_cycle_205 post J x1 (nI p) (nI np) (nI ns) (nI cp) mr (nI cy) (nI rc) nq n 0 ca ho yse ybu ysc yqt yam st yat ysy ysq rm ync ynh yib := by
  refine loop_0 (fun n i (b : Nat → Int32) => wY_cycle_205 post J x1 (nI p) (nI np) (nI ns) (nI cp) mr (nI cy) (nI rc) nq n (nI i) ca ho yse ybu ysc yqt yam st yat ysy ysq rm ync b yib) (fun i b => dv_Hs (fun p s => dv_nh ho yib yse ybu ysc yqt p s cp) y0 ns p i b) ns ynh h0 ?_ ?_
  · intro n b hb
    exact br_t (nI_le (Nat.le_refl _) (by omega)) (nm_r (nI_1 p) (h b (dv_Hs_n hb)))
  · intro n i b hi hb ih
    refine br_f (nI_ge hi (by omega)) (ym_nh n8 c64 hp (by omega) hV ⟨by rw [dv_hx]; exact vp_in_nI (by omega) (by omega), nm_r (e' := upd b (p * 4 + i) (dv_nh ho yib yse ybu ysc yqt p i cp)) (by rw [dv_hx, nI_clamp (by omega)]) (nm_r (nI_1 i) (ih _ (dv_Hs_s hi s4 hb)))⟩)
theorem ym_c184 {post : Int32 → SY → Prop} {x1 : Int32} (n8 : np ≤ 8) (s4 : ns ≤ 4) (c64 : cp ≤ 64) (hV : dv_Val np ns yib yse ybu ysc)
    (h : ∀ nc nh, nc = dv_cpy (fun p => dv_nc ca yib yse ybu yam p cp) ync np → dv_Hs (fun p s => dv_nh ho yib yse ybu ysc yqt p s cp) ynh ns np 0 nh → ∃ n, wY_cycle_243 post x1 (nI np) (nI ns) (nI cp) mr (nI cy) (nI rc) nq n 0 ca ho yse ybu ysc yqt yam st yat ysy ysq rm nc nh yib) : ∃ n, wY_cycle_184 post x1 (nI np) (nI ns) (nI cp) mr (nI cy) (nI rc) nq n 0 ca ho yse ybu ysc yqt yam st yat ysy ysq rm ync ynh yib := by
  refine loop_0 (fun n i (s : (Nat → Int32) × (Nat → Int32)) => wY_cycle_184 post x1 (nI np) (nI ns) (nI cp) mr (nI cy) (nI rc) nq n (nI i) ca ho yse ybu ysc yqt yam st yat ysy ysq rm s.1 s.2 yib) (fun i s => s.1 = dv_cpy (fun p => dv_nc ca yib yse ybu yam p cp) ync i ∧ dv_Hs (fun p s => dv_nh ho yib yse ybu ysc yqt p s cp) ynh ns i 0 s.2) np (ync, ynh) ⟨(dv_cpy_0 _ _).symm, dv_Hs_0 _ _ _⟩ ?_ ?_
  · intro n s hs
    exact br_t (nI_le (Nat.le_refl _) (by omega)) (h s.1 s.2 hs.1 hs.2)
  · intro n i s hi hs ih
    refine br_f (nI_ge hi (by omega)) (ym_nc n8 c64 (by omega) hV ⟨vp_in_nI (by omega) (by omega), nm_r (e' := dv_cpy (fun p => dv_nc ca yib yse ybu yam p cp) ync (i + 1)) ?_ (ym_c205 n8 s4 c64 (by omega) hV hs.2 (fun nh hn => ih (_, nh) ⟨rfl, hn⟩))⟩)
    rw [hs.1, nI_clamp (by omega)]
    exact dv_cpy_s (fun p => dv_nc ca yib yse ybu yam p cp) ync i
/-- one round of the reference -/
theorem ym_round {post : Int32 → SY → Prop} {x1 : Int32} {n i : Nat} (n8 : np ≤ 8) (s4 : ns ≤ 4) (c64 : cp ≤ 64) (r64 : rc ≤ 64) (hi : i < 66) (hV : dv_Val np ns yib yse ybu ysc)
    (h1 : (dv_D np ns cp ca ho yse ybu ysc yqt yam yib = -1 ∨ dv_P cp ca ho yse ybu ysc yqt yam ysq (dv_D np ns cp ca ho yse ybu ysc yqt yam yib) yib = -1 ∨ 64 ≤ rc) → ∃ n, wY_cycle_184 post x1 (nI np) (nI ns) (nI cp) mr (nI cy) (nI rc) nq n 0 ca ho yse ybu ysc yqt yam st yat ysy ysq rm ync ynh yib)
    (h2 : dv_D np ns cp ca ho yse ybu ysc yqt yam yib ≠ -1 → rc < 64 → ∀ j, j < cp → dv_P cp ca ho yse ybu ysc yqt yam ysq (dv_D np ns cp ca ho yse ybu ysc yqt yam yib) yib = nI j →
      wY_cycle_65 post x1 (nI np) (nI ns) (nI cp) mr (nI cy) nq n (nI (i + 1)) (nI (rc + 1)) ca ho yse ybu ysc yqt yam st yat ysy ysq (upd rm rc (nI j)) ync ynh (upd yib j 0)) :
    wY_cycle_65 post x1 (nI np) (nI ns) (nI cp) mr (nI cy) nq (n + 1) (nI i) (nI rc) ca ho yse ybu ysc yqt yam st yat ysy ysq rm ync ynh yib := by
  refine br_f (nI_ge (b := 66) hi (by omega)) ?_
  refine loop_0 (fun m q (s : Int32 × Int32) => wY_cycle_79 post (wY_cycle_65 post x1 (nI np) (nI ns) (nI cp) mr (nI cy) nq n) x1 (nI i) (nI np) (nI ns) (nI cp) mr (nI cy) (nI rc) nq ca ho yse ybu ysc yqt yam st yat ysy ysq rm ync ynh yib m s.1 s.2 (nI q)) (fun q s => s = dv_db (fun p => dv_df (dv_nc ca yib yse ybu yam p cp) (fun s => dv_nh ho yib yse ybu ysc yqt p s cp) ns) q) np (-1, 0) rfl ?_ ?_
  · intro m s hs
    have eD : s.1 = dv_D np ns cp ca ho yse ybu ysc yqt yam yib := by rw [hs]; rfl
    refine br_t (nI_le (Nat.le_refl _) (by omega)) ?_
    rw [eD]
    have hin := dv_db_in (fun p => dv_df (dv_nc ca yib yse ybu yam p cp) (fun s => dv_nh ho yib yse ybu ysc yqt p s cp) ns) np
    refine br_c (fun z => ?_) (fun z => h1 (Or.inl ?_))
    · obtain ⟨D, hD, eD2⟩ : ∃ D, D < 8 ∧ dv_D np ns cp ca ho yse ybu ysc yqt yam yib = nI D := by
        rcases hin with e | ⟨j, hj, e⟩
        · have e' : dv_D np ns cp ca ho yse ybu ysc yqt yam yib = -1 := e
          rw [e'] at z
          exact absurd z (by decide)
        · exact ⟨j, by omega, e⟩
      have zn : dv_D np ns cp ca ho yse ybu ysc yqt yam yib ≠ -1 := by rw [eD2]; exact dv_m1 (by omega)
      rw [eD2] at h1 h2 zn ⊢
      refine ym_pick n8 s4 c64 hD hV ?_
      have hpin : dv_P cp ca ho yse ybu ysc yqt yam ysq (nI D) yib = -1 ∨ ∃ j, j < cp ∧ dv_P cp ca ho yse ybu ysc yqt yam ysq (nI D) yib = nI j := by
        rcases dv_pk_in yib (dv_ok (nI D) (dv_nc ca yib yse ybu yam (nI D).toNatClampNeg cp) (fun s => dv_nh ho yib yse ybu ysc yqt (nI D).toNatClampNeg s cp) yse ybu ysc yam) ysq cp with e | ⟨j, hj, e, _⟩
        · exact Or.inl e
        · exact Or.inr ⟨j, hj, e⟩
      rcases hpin with e | ⟨j, hj, e⟩
      · have hh := h1 (Or.inr (Or.inl e))
        rw [e]
        exact br_t (by decide) hh
      · by_cases hr : rc < 64
        · have hh := h2 zn hr j hj e
          rw [e]
          exact br_f (nI_pos (by omega)) (br_t (nI_lt (b := 64) hr (by omega)) ⟨vp_in_nI (by omega) (by omega), nm_r (e' := upd yib j 0) (by rw [nI_clamp (by omega), dv_nb0]) ⟨vp_in_nI hr (by omega), nm_r (e' := upd rm rc (nI j)) (by rw [nI_clamp (by omega)]) (nm_r (nI_1 rc) (nm_r (nI_1 i) hh))⟩⟩)
        · have hh := h1 (Or.inr (Or.inr (by omega)))
          rw [e]
          exact br_f (nI_pos (by omega)) (br_f (nI_nlt (b := 64) (by omega) (by omega)) hh)
    · rcases hin with e | ⟨j, hj, e⟩
      · exact e
      · have e' : dv_D np ns cp ca ho yse ybu ysc yqt yam yib = nI j := e
        rw [e'] at z
        exact absurd (nI_pos' (by omega)) z
  · intro m q s hq hs ih
    refine br_f (nI_ge hq (by omega)) (ym_def n8 s4 c64 (by omega) hV (br_c (fun z => nm_r (nI_1 q) (ih s ?_)) (fun z => nm_r (nI_1 q) (ih (nI q, _) ?_))))
    · rw [hs] at z ⊢
      exact (if_pos z).symm
    · rw [hs] at z
      exact (if_neg z).symm
theorem ym_c22 {post : Int32 → SY → Prop} {x1 : Int32} (c64 : cp ≤ 64) (hz : ∀ j, 64 ≤ j → yib j = 0)
    (h : ∃ n, wY_cycle_65 post x1 (nI np) (nI ns) (nI cp) mr (nI cy) nq n 0 (nI rc) ca ho yse ybu ysc yqt yam st yat ysy ysq rm ync ynh (dv_bt st cp)) : ∃ n, wY_cycle_22 post x1 (nI np) (nI ns) (nI cp) mr (nI cy) (nI rc) nq n 0 ca ho yse ybu ysc yqt yam st yat ysy ysq rm ync ynh yib := by
  refine loop_0 (fun n i (b : Nat → Int32) => wY_cycle_22 post x1 (nI np) (nI ns) (nI cp) mr (nI cy) (nI rc) nq n (nI i) ca ho yse ybu ysc yqt yam st yat ysy ysq rm ync ynh b) (fun i b => b = dv_cpy (dv_bt st cp) yib i) 64 yib (dv_cpy_0 _ _).symm ?_ ?_
  · intro n b hb
    exact br_t (nI_le (a := 64) (Nat.le_refl _) (by omega)) (by rw [hb, dv_bt_x c64 hz]; exact h)
  · intro n i b hi hb ih
    have vi : vp_in (nI i) 64 := vp_in_nI (by omega) (by omega)
    have ei : (nI i).toNatClampNeg = i := nI_clamp (by omega)
    refine br_f (nI_ge (b := 64) hi (by omega)) (br_c (fun y => ⟨vi, nm_r (e' := dv_cpy (dv_bt st cp) yib (i + 1)) ?_ (nm_r (nI_1 i) (ih _ rfl))⟩) (fun y => ⟨vi, br_c (fun z => ⟨vi, nm_r (e' := dv_cpy (dv_bt st cp) yib (i + 1)) ?_ (nm_r (nI_1 i) (ih _ rfl))⟩) (fun z => ⟨vi, nm_r (e' := dv_cpy (dv_bt st cp) yib (i + 1)) ?_ (nm_r (nI_1 i) (ih _ rfl))⟩)⟩))
    · have y' : cp ≤ i := (nI_leI (by omega) (by omega)).mp y
      rw [hb, ei, dv_nb0, ← dv_cpy_s, dv_bt_0 (fun d => by omega)]
    · have y' : i < cp := by
        have h9 : ¬ cp ≤ i := fun h => y ((nI_leI (by omega) (by omega)).mpr h)
        omega
      rw [ei] at z
      rw [hb, ei, dv_nb1, ← dv_cpy_s, dv_bt_1 y' z]
    · rw [ei] at z
      rw [hb, ei, dv_nb0, ← dv_cpy_s, dv_bt_0 (fun d => z d.2)]
end
end
section
section
variable {np ns cp cy rc : Nat} {mr : Int32} {nq : Int64} {ca ho st rm xse xbu xsc xqt xam xat xsy xib xnc xnh yse ybu ysc yqt yam yat ysy yib ync ynh : Nat → Int32} {xsq ysq : Nat → Int64}
theorem dv_run {k : Nat} (h1 : dv_Sz k np ns cp cy rc) (h6 : dv_Ag st xse xbu xsc xqt xam xat xsy xsq yse ybu ysc yqt yam yat ysy ysq) (h7 : dv_Val np ns st xse xbu xsc) :
    ∃ (b' : Nat → Int32) (rc' : Nat) (rm' : Nat → Int32), dv_V cp st b' ∧ rc' ≤ 64 ∧ (∀ k, k < rc' → ∃ j, j < cp ∧ rm' k = nI j ∧ st j = 1) ∧
      (∀ post : SX → Prop, (∀ nc nh, dv_Sp cp ca ho xse xbu xsc xqt xam b' nc nh → post (nI np, nI ns, nI cp, mr, nI rc', nq, nI (cy + 1), ca, ho, st, xse, xbu, xsc, xqt, xam, xat, xsy, xsq, b', nc, nh, rm')) → wpX_removeUntilCovered post (nI np, nI ns, nI cp, mr, nI 0, nq, nI (cy + 1), ca, ho, st, xse, xbu, xsc, xqt, xam, xat, xsy, xsq, dv_bt st cp, xnc, xnh, rm)) ∧
      (∀ post : Int32 → SY → Prop, (∃ n, wY_cycle_184 post (nI (cy + 1)) (nI np) (nI ns) (nI cp) mr (nI (cy + 1)) (nI rc') nq n 0 ca ho yse ybu ysc yqt yam st yat ysy ysq rm' ync ynh b') → ∃ n, wY_cycle_65 post (nI (cy + 1)) (nI np) (nI ns) (nI cp) mr (nI (cy + 1)) nq n 0 (nI 0) ca ho yse ybu ysc yqt yam st yat ysy ysq rm ync ynh (dv_bt st cp)) := by
  obtain ⟨n2, n8, s1, s4, c8, c64, cyk, r64, cy0⟩ := h1
  have hcn : dv_cn (dv_bt st cp) cp ≤ cp := dv_cn_le _ _
  obtain ⟨b', rc', rm', g1, g2, g3, gX, gY⟩ := dv_lock (ι := SX → Prop) (κ := Int32 → SY → Prop) cp c64
    (fun b => dv_D np ns cp ca ho xse xbu xsc xqt xam b)
    (fun b => dv_P cp ca ho xse xbu xsc xqt xam xsq (dv_D np ns cp ca ho xse xbu xsc xqt xam b) b)
    (fun b nc nh => dv_Sp cp ca ho xse xbu xsc xqt xam b nc nh)
    (fun post n i b rc rm nc nh => wX_removeUntilCovered_2 post n (nI i) (nI np) (nI ns) (nI cp) mr (nI rc) nq (nI (cy + 1)) ca ho st xse xbu xsc xqt xam xat xsy xsq b nc nh rm)
    (fun post b rc rm nc nh => post (nI np, nI ns, nI cp, mr, nI rc, nq, nI (cy + 1), ca, ho, st, xse, xbu, xsc, xqt, xam, xat, xsy, xsq, b, nc, nh, rm))
    (fun post n i b rc rm => wY_cycle_65 post (nI (cy + 1)) (nI np) (nI ns) (nI cp) mr (nI (cy + 1)) nq n (nI i) (nI rc) ca ho yse ybu ysc yqt yam st yat ysy ysq rm ync ynh b)
    (fun post b rc rm => ∃ n, wY_cycle_184 post (nI (cy + 1)) (nI np) (nI ns) (nI cp) mr (nI (cy + 1)) (nI rc) nq n 0 ca ho yse ybu ysc yqt yam st yat ysy ysq rm ync ynh b)
    (dv_V cp st) (fun j => st j = 1)
    (fun b j h => dv_V_upd j h) (fun b j h hj => (h j hj).2) (fun b _ => dv_pk_in b _ _ cp)
    (fun q n b rc rm nc nh h => xm_round_e c64 h)
    (fun q n i b rc rm nc nh hV hi hr H => xm_round n8 s4 c64 hr hi (dv_V_val hV h7) H)
    (fun q n i b rc rm hV hi hr hs hg => by
      have A : ∀ j, b j ≠ 0 → xse j = yse j ∧ xbu j = ybu j ∧ xsc j = ysc j ∧ xqt j = yqt j ∧ xam j = yam j ∧ xsq j = ysq j := by
        intro j hj
        obtain ⟨e1, e2, e3, e4, e5, _, _, e8⟩ := h6 j (dv_V_st hV hj)
        exact ⟨e1, e2, e3, e4, e5, e8⟩
      have eD : dv_D np ns cp ca ho xse xbu xsc xqt xam b = dv_D np ns cp ca ho yse ybu ysc yqt yam b := dv_D_congr (fun j hj => ⟨(A j hj).1, (A j hj).2.1, (A j hj).2.2.1, (A j hj).2.2.2.1, (A j hj).2.2.2.2.1⟩)
      have eP : ∀ d, dv_P cp ca ho xse xbu xsc xqt xam xsq d b = dv_P cp ca ho yse ybu ysc yqt yam ysq d b := fun d => dv_P_congr (by omega) A
      rw [eP, eD] at hs hg
      exact ym_round n8 s4 c64 hr hi (dv_V_val hV (dv_Val_y h6 h7)) hs hg)
    65 (dv_bt st cp) 0 rm dv_V_bt (by omega) (fun k hk => absurd hk (by omega)) (by omega)
  refine ⟨b', rc', rm', g1, g2, g3, ?_, ?_⟩
  · intro post H
    exact ⟨cp + 2, gX post 0 (cp + 2) xnc xnh (by omega) (by omega) H⟩
  · intro post H
    exact ⟨67, gY post 0 67 (by omega) (by omega) H⟩
end
theorem i_vc_cycle {k : Nat} {u : SX} {v : SY} (I : i_Rel k u v) (hk : k + 5 ≤ 2564) : wpX_cycle (fun r u' => wpY_cycle (fun r' v' => r' = r ∧ i_Rel (k + 5) u' v') v) u := by
  obtain ⟨np, ns, cp, cy, rc, mr, nq, ca, ho, st, rm, xse, xbu, xsc, xqt, xam, xat, xsy, xib, xnc, xnh, yse, ybu, ysc, yqt, yam, yat, ysy, yib, ync, ynh, xsq, ysq, rfl, rfl, h1, h2, h3, h4, h5, h6, h7⟩ := I
  have h1' := h1
  obtain ⟨n2, n8, s1, s4, c8, c64, cyk, r64, cy0⟩ := h1
  obtain ⟨b', rc', rm', hV, h64, hR, gX, gY⟩ := dv_run (mr := mr) (nq := nq) (ca := ca) (ho := ho) (rm := rm) (xnc := xnc) (xnh := xnh) (ync := ync) (ynh := ynh) h1' h6 h7
  have hR' : ∀ k, k < rc' → ∃ j, j < 64 ∧ rm' k = nI j := by
    intro i hi
    obtain ⟨j, hj, e, _⟩ := hR i hi
    exact ⟨j, by omega, e⟩
  have hVy : dv_Val np ns b' yse ybu ysc := dv_V_val hV (dv_Val_y h6 h7)
  unfold wpX_cycle wpY_cycle
  refine nm_r (nI_1 cy) (xm_gather (rc := 0) c64 h4.1 (gX _ (fun nc nh hS => xm_take (xm_mark c64 (xm_recycle h64 hR' ?_)))))
  refine nm_r (nI_1 cy) (ym_c22 (rc := 0) c64 h4.2 (gY _ (ym_c184 n8 s4 c64 hVy (fun nc2 nh2 hN hH => ym_c243 (ym_c289 c64 (ym_c338 h64 hR' ⟨rfl, ?_⟩))))))
  exact dv_fin h1' h2 h3 h5 h6 h7 hV h64 hR hS hN hH
end
section
/-! the constructors -/
theorem dv_clamp (v : Int32) (lo hi : Nat) (h : lo ≤ hi) (hh : hi < 2 ^ 31) : ∃ n, lo ≤ n ∧ n ≤ hi ∧ ∀ post : Int32 → Prop, post (nI n) → ((nI lo ≤ v → ((v ≤ nI hi → post v) ∧ (¬ v ≤ nI hi → post (nI hi)))) ∧ (¬ nI lo ≤ v → post (nI lo))) := by
  by_cases a : nI lo ≤ v
  · by_cases b : v ≤ nI hi
    · have a0 : ¬ v < 0 := fun c => nI_pos (n := lo) (by omega) (Int32.lt_of_le_of_lt a c)
      obtain ⟨j, hj, rfl⟩ := nI_of a0
      rw [nI_leI (by omega) hj] at a
      rw [nI_leI hj hh] at b
      exact ⟨j, a, b, fun post hp => br_t (nI_le a hj) (br_t (nI_le b hh) hp)⟩
    · exact ⟨hi, h, Nat.le_refl _, fun post hp => br_t a (br_f b hp)⟩
  · exact ⟨lo, Nat.le_refl _, h, fun post hp => br_f a hp⟩
theorem dv_cl2 (v : Int32) (lo hi : Nat) (h : lo ≤ hi) (hh : hi < 2 ^ 31) : ∃ n, lo ≤ n ∧ n ≤ hi ∧ (∀ post : Int32 → Prop, post (nI n) → wpX_clamp post v (nI lo) (nI hi)) ∧ (∀ (post : Int32 → Prop) (u : SY), post (nI n) → wpY_clamp post u v (nI lo) (nI hi)) := by
  obtain ⟨n, h1, h2, h3⟩ := dv_clamp v lo hi h hh
  exact ⟨n, h1, h2, h3, fun post u hp => h3 post hp⟩
theorem i_vc0 (k0 : Int32) (k1 : Int32) (k2 : Int32) (k3 : Int32) : wpX_init (fun u => wpY_init (fun v => i_Rel 4 u v) k0 k1 k2 k3) k0 k1 k2 k3 := by
  obtain ⟨np, a1, a2, ha, ya⟩ := dv_cl2 k0 2 8 (by omega) (by omega)
  obtain ⟨ns, b1, b2, hb, yb⟩ := dv_cl2 k1 1 4 (by omega) (by omega)
  obtain ⟨cp, c1, c2, hc, yc⟩ := dv_cl2 k2 8 64 (by omega) (by omega)
  obtain ⟨mr, d1, d2, hd, yd⟩ := dv_cl2 k3 1 8 (by omega) (by omega)
  unfold wpX_init wpY_init
  refine ha _ (hb _ (hc _ (hd _ (ya _ _ (yb _ _ (yc _ _ (yd _ _ ?_)))))))
  refine dv_rel (cy := 0) (rc := 0) (np := np) (ns := ns) (cp := cp) ⟨a1, a2, b1, b2, c1, c2, by omega, by omega, fun _ => rfl⟩ ⟨fun _ _ => rfl, fun _ _ _ _ => rfl⟩ ⟨fun _ _ => rfl, fun _ _ _ _ => rfl⟩ ⟨fun _ _ => rfl, fun _ _ => rfl⟩ (fun _ => Or.inl rfl) (fun _ h => absurd rfl h) (fun _ h => absurd rfl h)
end
section
section
variable {np ns cp cy rc : Nat} {mr : Int32} {nq : Int64} {ca ho st rm xse xbu xsc xqt xam xat xsy xib xnc xnh yse ybu ysc yqt yam yat ysy yib ync ynh : Nat → Int32} {xsq ysq : Nat → Int64}
theorem dv_Z_move {A B C : Nat} {m q : Int32} (hA : A < np) (hB : B < np) (hC : C < ns) (s4 : ns ≤ 4) (h : dv_Z np ns ca ho) :
    dv_Z np ns (upd (upd ca B (ca B - m)) A ((upd ca B (ca B - m)) A + m)) (upd (upd ho (A * 4 + C) (ho (A * 4 + C) - q)) (B * 4 + C) ((upd ho (A * 4 + C) (ho (A * 4 + C) - q)) (B * 4 + C) + q)) :=
  dv_Z_ca hA (dv_Z_ca hB (dv_Z_ho hB hC s4 (dv_Z_ho hA hC s4 h)))
theorem xm_settle {post : Int32 → SX → Prop} {j A B C : Nat} (c64 : cp ≤ 64) (hj : j < cp) (z : st j = 1) (hA : A < 8) (hB : B < 8) (hC : C < 4) (eA : xse j = nI A) (eB : xbu j = nI B) (eC : xsc j = nI C)
    (h0 : (ho (A * 4 + C) < xqt j ∨ ¬ xam j ≤ ca B) → post 0 (nI np, nI ns, nI cp, mr, nI rc, nq, nI cy, ca, ho, st, xse, xbu, xsc, xqt, xam, xat, xsy, xsq, xib, xnc, xnh, rm))
    (h1 : ¬ ho (A * 4 + C) < xqt j → xam j ≤ ca B → post 1 (nI np, nI ns, nI cp, mr, nI rc, nq, nI cy, upd (upd ca B (ca B - xam j)) A ((upd ca B (ca B - xam j)) A + xam j), upd (upd ho (A * 4 + C) (ho (A * 4 + C) - xqt j)) (B * 4 + C) ((upd ho (A * 4 + C) (ho (A * 4 + C) - xqt j)) (B * 4 + C) + xqt j), upd st j 2, xse, xbu, xsc, xqt, xam, xat, upd xsy j 0, xsq, xib, xnc, xnh, rm)) : wpX_settleNow post (nI np, nI ns, nI cp, mr, nI rc, nq, nI cy, ca, ho, st, xse, xbu, xsc, xqt, xam, xat, xsy, xsq, xib, xnc, xnh, rm) (nI j) := by
  have vj : vp_in (nI j) 64 := vp_in_nI (by omega) (by omega)
  have ec : (nI j).toNatClampNeg = j := nI_clamp (by omega)
  have vA : vp_in (nI A) 8 := vp_in_nI (by omega) (by omega)
  have vB : vp_in (nI B) 8 := vp_in_nI (by omega) (by omega)
  have vAC : vp_in (nI (A * 4 + C)) 32 := vp_in_nI (by omega) (by omega)
  have vBC : vp_in (nI (B * 4 + C)) 32 := vp_in_nI (by omega) (by omega)
  have cA : (nI A).toNatClampNeg = A := nI_clamp (by omega)
  have cB : (nI B).toNatClampNeg = B := nI_clamp (by omega)
  have cAC : (nI (A * 4 + C)).toNatClampNeg = A * 4 + C := nI_clamp (by omega)
  have cBC : (nI (B * 4 + C)).toNatClampNeg = B * 4 + C := nI_clamp (by omega)
  unfold wpX_settleNow
  refine xm_q_t c64 hj z (br_f (by decide) ?_)
  rw [ec, eA, eB, eC]
  refine ⟨vj, nm_e ⟨vj, nm_e ⟨vj, xm_hix ⟨vj, xm_hix ?_⟩⟩⟩⟩
  rw [cAC, cBC, cA, cB]
  exact ⟨vAC, vj, br_c (fun q => h0 (Or.inl q)) (fun q => ⟨vB, vj, br_c (fun m => ⟨vAC, vj, vAC, nm_e ⟨vBC, vj, vBC, nm_e ⟨vB, vj, vB, nm_e ⟨vA, vj, vA, nm_e ⟨vj, nm_e ⟨vj, nm_e (h1 q m)⟩⟩⟩⟩⟩⟩) (fun m => h0 (Or.inr m))⟩)⟩
theorem ym_settle {post : Int32 → SY → Prop} {j A B C : Nat} (c64 : cp ≤ 64) (hj : j < cp) (z : st j = 1) (hA : A < 8) (hB : B < 8) (hC : C < 4) (eA : yse j = nI A) (eB : ybu j = nI B) (eC : ysc j = nI C)
    (h0 : (ho (A * 4 + C) < yqt j ∨ ¬ yam j ≤ ca B) → post 0 (nI np, nI ns, nI cp, mr, nI cy, nI rc, nq, ca, ho, yse, ybu, ysc, yqt, yam, st, yat, ysy, ysq, rm, ync, ynh, yib))
    (h1 : ¬ ho (A * 4 + C) < yqt j → yam j ≤ ca B → post 1 (nI np, nI ns, nI cp, mr, nI cy, nI rc, nq, upd (upd ca B (ca B - yam j)) A ((upd ca B (ca B - yam j)) A + yam j), upd (upd ho (A * 4 + C) (ho (A * 4 + C) - yqt j)) (B * 4 + C) ((upd ho (A * 4 + C) (ho (A * 4 + C) - yqt j)) (B * 4 + C) + yqt j), yse, ybu, ysc, yqt, yam, upd st j 2, yat, upd ysy j 0, ysq, rm, ync, ynh, yib)) : wpY_settleNow post (nI np, nI ns, nI cp, mr, nI cy, nI rc, nq, ca, ho, yse, ybu, ysc, yqt, yam, st, yat, ysy, ysq, rm, ync, ynh, yib) (nI j) := by
  have vj : vp_in (nI j) 64 := vp_in_nI (by omega) (by omega)
  have ec : (nI j).toNatClampNeg = j := nI_clamp (by omega)
  have vA : vp_in (nI A) 8 := vp_in_nI (by omega) (by omega)
  have vB : vp_in (nI B) 8 := vp_in_nI (by omega) (by omega)
  have vAC : vp_in (nI (A * 4 + C)) 32 := vp_in_nI (by omega) (by omega)
  have vBC : vp_in (nI (B * 4 + C)) 32 := vp_in_nI (by omega) (by omega)
  have cA : (nI A).toNatClampNeg = A := nI_clamp (by omega)
  have cB : (nI B).toNatClampNeg = B := nI_clamp (by omega)
  have cAC : (nI (A * 4 + C)).toNatClampNeg = A * 4 + C := nI_clamp (by omega)
  have cBC : (nI (B * 4 + C)).toNatClampNeg = B * 4 + C := nI_clamp (by omega)
  unfold wpY_settleNow
  refine br_f (nI_pos (by omega)) (br_f (nI_ge hj (by omega)) ⟨vj, br_t (by rw [ec]; exact z) ?_⟩)
  rw [ec, eA, eB, eC]
  refine ⟨vj, nm_e ⟨vj, nm_e ⟨vj, nm_e ?_⟩⟩⟩
  rw [dv_hx, dv_hx, cAC, cBC, cA, cB]
  exact ⟨vAC, vj, br_c (fun q => ⟨vB, vj, br_c (fun m => ⟨vAC, vj, vAC, nm_e ⟨vBC, vj, vBC, nm_e ⟨vB, vj, vB, nm_e ⟨vA, vj, vA, nm_e ⟨vj, nm_e ⟨vj, nm_e (h1 (Int32.not_lt.mpr q) m)⟩⟩⟩⟩⟩⟩) (fun m => h0 (Or.inr m))⟩) (fun q => h0 (Or.inl (Int32.not_le.mp q)))⟩
end
theorem i_vc_settleNow {k : Nat} {u : SX} {v : SY} (I : i_Rel k u v) (hk : k + 5 ≤ 2564) (v1 : Int32) : wpX_settleNow (fun r u' => wpY_settleNow (fun r' v' => r' = r ∧ i_Rel (k + 5) u' v') v v1) u v1 := by
  obtain ⟨np, ns, cp, cy, rc, mr, nq, ca, ho, st, rm, xse, xbu, xsc, xqt, xam, xat, xsy, xib, xnc, xnh, yse, ybu, ysc, yqt, yam, yat, ysy, yib, ync, ynh, xsq, ysq, rfl, rfl, h1, h2, h3, h4, h5, h6, h7⟩ := I
  have R : i_Rel (k + 5) (nI np, nI ns, nI cp, mr, nI rc, nq, nI cy, ca, ho, st, xse, xbu, xsc, xqt, xam, xat, xsy, xsq, xib, xnc, xnh, rm) (nI np, nI ns, nI cp, mr, nI cy, nI rc, nq, ca, ho, yse, ybu, ysc, yqt, yam, st, yat, ysy, ysq, rm, ync, ynh, yib) := dv_rel (dv_Sz_up h1) h2 h3 h4 h5 h6 h7
  have h1' := h1
  obtain ⟨n2, n8, s1, s4, c8, c64, cyk, r64, cy0⟩ := h1
  rcases pk_ix v1 (n := cp) (by omega) with h | h | ⟨j, hj, rfl⟩
  · unfold wpX_settleNow wpY_settleNow
    exact xm_q_f c64 (Or.inl h) (br_t rfl (br_t h ⟨rfl, R⟩))
  · unfold wpX_settleNow wpY_settleNow
    exact xm_q_f c64 (Or.inr (Or.inl h)) (br_t rfl (br_c (fun _ => ⟨rfl, R⟩) (fun _ => br_t h ⟨rfl, R⟩)))
  · by_cases z : st j = 1
    · have z0 : st j ≠ 0 := by rw [z]; exact dv_1
      obtain ⟨A, B, C, hA, hB, hC, hAB, eA, eB, eC⟩ := h7 j z0
      obtain ⟨f1, f2, f3, f4, f5, f6, f7, f8⟩ := h6 j z0
      have yA : yse j = nI A := f1.symm.trans eA
      have yB : ybu j = nI B := f2.symm.trans eB
      have yC : ysc j = nI C := f3.symm.trans eC
      refine xm_settle c64 hj z (by omega) (by omega) (by omega) eA eB eC (fun q => ?_) (fun q m => ?_)
      · refine ym_settle c64 hj z (by omega) (by omega) (by omega) yA yB yC (fun _ => ⟨rfl, R⟩) (fun q' m' => ?_)
        rw [← f4] at q'
        rw [← f5] at m'
        rcases q with q | q
        · exact absurd q q'
        · exact absurd m' q
      · refine ym_settle c64 hj z (by omega) (by omega) (by omega) yA yB yC (fun q' => ?_) (fun _ _ => ⟨rfl, ?_⟩)
        · rw [← f4, ← f5] at q'
          rcases q' with q' | q'
          · exact absurd q' q
          · exact absurd m q'
        · rw [← f4, ← f5]
          refine dv_rel (dv_Sz_up h1') (dv_Z_move hA hB hC s4 h2) h3 h4 (dv_St_upd h5 (Or.inr (Or.inr (Or.inl rfl)))) ?_ (dv_Val_st h7 (dv_st_upd z0))
          intro i hi
          obtain ⟨e1, e2, e3, e4, e5, e6, e7, e8⟩ := h6 i (dv_st_upd z0 i hi)
          refine ⟨e1, e2, e3, e4, e5, e6, ?_, e8⟩
          by_cases e : i = j
          · rw [e, pk_us, pk_us]
          · rw [pk_un e, pk_un e]; exact e7
    · have vj : vp_in (nI j) 64 := vp_in_nI (by omega) (by omega)
      have ec : (nI j).toNatClampNeg = j := nI_clamp (by omega)
      unfold wpX_settleNow wpY_settleNow
      exact xm_q_f c64 (Or.inr (Or.inr ⟨j, hj, rfl, z⟩)) (br_t rfl (br_f (nI_pos (by omega)) (br_f (nI_ge hj (by omega)) ⟨vj, br_f (by rw [ec]; exact z) ⟨rfl, R⟩⟩)))
end
section
section
variable {np ns cp cy rc : Nat} {mr : Int32} {nq : Int64} {ca ho st rm xse xbu xsc xqt xam xat xsy xib xnc xnh yse ybu ysc yqt yam yat ysy yib ync ynh : Nat → Int32} {xsq ysq : Nat → Int64}
theorem xm_clear {post : Int32 → SX → Prop} (c64 : cp ≤ 64) (h : post (nI (dv_cn (dv_dn st) cp)) (nI np, nI ns, nI cp, mr, nI rc, nq, nI cy, ca, ho, dv_mk (dv_dn st) st 0 cp, xse, xbu, xsc, xqt, xam, xat, xsy, xsq, xib, xnc, xnh, rm)) : wpX_clearDone post (nI np, nI ns, nI cp, mr, nI rc, nq, nI cy, ca, ho, st, xse, xbu, xsc, xqt, xam, xat, xsy, xsq, xib, xnc, xnh, rm) := by
  refine loop_0 (fun n i (s : Int32 × (Nat → Int32)) => wX_clearDone_4 post (nI np) (nI ns) (nI cp) mr (nI rc) nq (nI cy) n s.1 (nI i) ca ho s.2 xse xbu xsc xqt xam xat xsy xsq xib xnc xnh rm) (fun i s => s = (nI (dv_cn (dv_dn st) i), dv_mk (dv_dn st) st 0 i)) cp (0, st) (by rw [dv_mk_0]; rfl) ?_ ?_
  · intro n s hs
    exact br_t (nI_le (Nat.le_refl _) (by omega)) (by rw [hs]; exact h)
  · intro n i s hi hs ih
    have vi : vp_in (nI i) 64 := vp_in_nI (by omega) (by omega)
    have ei : (nI i).toNatClampNeg = i := nI_clamp (by omega)
    have es : s.2 (nI i).toNatClampNeg = st i := by rw [hs, ei]; exact dv_mk_at _ _ _ _
    refine br_f (nI_ge hi (by omega)) ⟨vi, br_c (fun z => nm_r (nI_1 i) (ih s ?_)) (fun z => ⟨vi, br_c (fun y => nm_r (nI_1 i) (ih s ?_)) (fun y => ⟨vi, nm_r (e' := dv_mk (dv_dn st) st 0 (i + 1)) ?_ (nm_r (e' := nI (dv_cn (dv_dn st) (i + 1))) ?_ (nm_r (nI_1 i) (ih (_, _) rfl)))⟩)⟩)⟩
    · have d : dv_dn st i = 0 := dv_dn_n (Or.inl (es.symm.trans z))
      rw [dv_cn_s0 d, dv_mk_n d]; exact hs
    · have d : dv_dn st i = 0 := dv_dn_n (Or.inr (es.symm.trans y))
      rw [dv_cn_s0 d, dv_mk_n d]; exact hs
    · have d : dv_dn st i ≠ 0 := dv_dn_y (fun e => z (es.trans e)) (fun e => y (es.trans e))
      rw [hs, ei]; exact dv_mk_y d
    · have d : dv_dn st i ≠ 0 := dv_dn_y (fun e => z (es.trans e)) (fun e => y (es.trans e))
      rw [hs, dv_cn_s1 d]; exact nI_1 _
theorem ym_cd42 {post : Int32 → SY → Prop} {J : Int32 → Int32 → (Nat → Int32) → (Nat → Int32) → (Nat → Int32) → (Nat → Int32) → (Nat → Int32) → (Nat → Int32) → (Nat → Int32) → (Nat → Int32) → (Nat → Int32) → (Nat → Int32) → (Nat → Int64) → (Nat → Int32) → (Nat → Int32) → (Nat → Int32) → (Nat → Int32) → Prop} {t : Int32} {i : Nat} (hi : i < 64) (h : J (t + 1) (nI (i + 1)) ca ho (upd yse i 0) (upd ybu i 0) (upd ysc i 0) (upd yqt i 0) (upd yam i 0) (upd st i 0) (upd yat i 0) (upd ysy i (-1)) (vp_updL ysq i 0) rm ync ynh yib) : wY_clearDone_42 post J t (nI i) (nI np) (nI ns) (nI cp) mr (nI cy) (nI rc) nq ca ho yse ybu ysc yqt yam st yat ysy ysq rm ync ynh yib := by
  have vi : vp_in (nI i) 64 := vp_in_nI hi (by omega)
  unfold wY_clearDone_42
  rw [nI_clamp (n := i) (by omega)]
  exact ⟨vi, nm_e ⟨vi, nm_e ⟨vi, nm_e ⟨vi, nm_e ⟨vi, nm_e ⟨vi, nm_e ⟨vi, nm_e ⟨vi, nm_e ⟨vi, nm_e (nm_e (nm_r (nI_1 i) h))⟩⟩⟩⟩⟩⟩⟩⟩⟩
theorem ym_clear {post : Int32 → SY → Prop} (c64 : cp ≤ 64) (h5 : dv_St st) (h : post (nI (dv_cn (dv_dn st) cp)) (nI np, nI ns, nI cp, mr, nI cy, nI rc, nq, ca, ho, dv_mk (dv_dn st) yse 0 cp, dv_mk (dv_dn st) ybu 0 cp, dv_mk (dv_dn st) ysc 0 cp, dv_mk (dv_dn st) yqt 0 cp, dv_mk (dv_dn st) yam 0 cp, dv_mk (dv_dn st) st 0 cp, dv_mk (dv_dn st) yat 0 cp, dv_mk (dv_dn st) ysy (-1) cp, dv_mkL (dv_dn st) ysq 0 cp, rm, ync, ynh, yib)) : wpY_clearDone post (nI np, nI ns, nI cp, mr, nI cy, nI rc, nq, ca, ho, yse, ybu, ysc, yqt, yam, st, yat, ysy, ysq, rm, ync, ynh, yib) := by
  refine loop_0 (fun n i (s : Int32 × (Nat → Int32) × (Nat → Int32) × (Nat → Int32) × (Nat → Int32) × (Nat → Int32) × (Nat → Int32) × (Nat → Int32) × (Nat → Int32) × (Nat → Int64)) => wY_clearDone_4 post (nI np) (nI ns) (nI cp) mr (nI cy) (nI rc) nq n s.1 (nI i) ca ho s.2.1 s.2.2.1 s.2.2.2.1 s.2.2.2.2.1 s.2.2.2.2.2.1 s.2.2.2.2.2.2.1 s.2.2.2.2.2.2.2.1 s.2.2.2.2.2.2.2.2.1 s.2.2.2.2.2.2.2.2.2 rm ync ynh yib) (fun i s => s = (nI (dv_cn (dv_dn st) i), dv_mk (dv_dn st) yse 0 i, dv_mk (dv_dn st) ybu 0 i, dv_mk (dv_dn st) ysc 0 i, dv_mk (dv_dn st) yqt 0 i, dv_mk (dv_dn st) yam 0 i, dv_mk (dv_dn st) st 0 i, dv_mk (dv_dn st) yat 0 i, dv_mk (dv_dn st) ysy (-1) i, dv_mkL (dv_dn st) ysq 0 i)) cp (0, yse, ybu, ysc, yqt, yam, st, yat, ysy, ysq) (by rw [dv_mk_0, dv_mk_0, dv_mk_0, dv_mk_0, dv_mk_0, dv_mk_0, dv_mk_0, dv_mk_0, dv_mkL_0]; rfl) ?_ ?_
  · intro n s hs
    exact br_t (nI_le (Nat.le_refl _) (by omega)) (by rw [hs]; exact h)
  · intro n i s hi hs ih
    subst hs
    have vi : vp_in (nI i) 64 := vp_in_nI (by omega) (by omega)
    have ei : (nI i).toNatClampNeg = i := nI_clamp (by omega)
    have es : dv_mk (dv_dn st) st 0 i (nI i).toNatClampNeg = st i := by rw [ei]; exact dv_mk_at _ _ _ _
    have go : dv_dn st i ≠ 0 → wY_clearDone_42 post (wY_clearDone_4 post (nI np) (nI ns) (nI cp) mr (nI cy) (nI rc) nq n) (nI (dv_cn (dv_dn st) i)) (nI i) (nI np) (nI ns) (nI cp) mr (nI cy) (nI rc) nq ca ho (dv_mk (dv_dn st) yse 0 i) (dv_mk (dv_dn st) ybu 0 i) (dv_mk (dv_dn st) ysc 0 i) (dv_mk (dv_dn st) yqt 0 i) (dv_mk (dv_dn st) yam 0 i) (dv_mk (dv_dn st) st 0 i) (dv_mk (dv_dn st) yat 0 i) (dv_mk (dv_dn st) ysy (-1) i) (dv_mkL (dv_dn st) ysq 0 i) rm ync ynh yib := by
      intro d
      refine ym_cd42 (by omega) ?_
      rw [dv_mk_y d, dv_mk_y d, dv_mk_y d, dv_mk_y d, dv_mk_y d, dv_mk_y d, dv_mk_y d, dv_mk_y d, dv_mkL_y d, nI_1, ← dv_cn_s1 d]
      exact ih (nI (dv_cn (dv_dn st) (i + 1)), dv_mk (dv_dn st) yse 0 (i + 1), dv_mk (dv_dn st) ybu 0 (i + 1), dv_mk (dv_dn st) ysc 0 (i + 1), dv_mk (dv_dn st) yqt 0 (i + 1), dv_mk (dv_dn st) yam 0 (i + 1), dv_mk (dv_dn st) st 0 (i + 1), dv_mk (dv_dn st) yat 0 (i + 1), dv_mk (dv_dn st) ysy (-1) (i + 1), dv_mkL (dv_dn st) ysq 0 (i + 1)) rfl
    have d1 : ∀ c : Int32, c ≠ 0 → c ≠ 1 → st i = c → dv_dn st i ≠ 0 := fun c c0 c1 e => dv_dn_y (by rw [e]; exact c0) (by rw [e]; exact c1)
    refine br_f (nI_ge hi (by omega)) ⟨vi, br_c (fun z => go (d1 2 (by decide) (by decide) (es.symm.trans z))) (fun z2 => ⟨vi, br_c (fun z => go (d1 3 (by decide) (by decide) (es.symm.trans z))) (fun z3 => ⟨vi, br_c (fun z => go (d1 4 (by decide) (by decide) (es.symm.trans z))) (fun z4 => nm_r (nI_1 i) (ih _ ?_))⟩)⟩)⟩
    have d : dv_dn st i = 0 := by
      rcases h5 i with e | e | e | e | e
      · exact dv_dn_n (Or.inl e)
      · exact dv_dn_n (Or.inr e)
      · exact absurd (es.trans e) z2
      · exact absurd (es.trans e) z3
      · exact absurd (es.trans e) z4
    rw [dv_cn_s0 d, dv_mk_n d, dv_mk_n d, dv_mk_n d, dv_mk_n d, dv_mk_n d, dv_mk_n d, dv_mk_n d, dv_mk_n d, dv_mkL_n d]
end
theorem i_vc_clearDone {k : Nat} {u : SX} {v : SY} (I : i_Rel k u v) (hk : k + 5 ≤ 2564) : wpX_clearDone (fun r u' => wpY_clearDone (fun r' v' => r' = r ∧ i_Rel (k + 5) u' v') v) u := by
  obtain ⟨np, ns, cp, cy, rc, mr, nq, ca, ho, st, rm, xse, xbu, xsc, xqt, xam, xat, xsy, xib, xnc, xnh, yse, ybu, ysc, yqt, yam, yat, ysy, yib, ync, ynh, xsq, ysq, rfl, rfl, h1, h2, h3, h4, h5, h6, h7⟩ := I
  have h1' := h1
  obtain ⟨n2, n8, s1, s4, c8, c64, cyk, r64, cy0⟩ := h1
  refine xm_clear c64 (ym_clear c64 h5 ⟨rfl, ?_⟩)
  have hst : ∀ j, dv_mk (dv_dn st) st 0 cp j ≠ 0 → ¬ (j < cp ∧ dv_dn st j ≠ 0) := fun j hj c => hj (dv_mk_ye c)
  have hst2 : ∀ j, dv_mk (dv_dn st) st 0 cp j ≠ 0 → st j ≠ 0 := by
    intro j hj
    have c := hst j hj
    rw [dv_mk_no c] at hj; exact hj
  refine dv_rel (dv_Sz_up h1') h2 h3 h4 ?_ ?_ (dv_Val_st h7 hst2)
  · intro j
    by_cases c : j < cp ∧ dv_dn st j ≠ 0
    · rw [dv_mk_ye c]; exact Or.inl rfl
    · rw [dv_mk_no c]; exact h5 j
  · intro j hj
    have c := hst j hj
    rw [dv_mk_no c, dv_mk_no c, dv_mk_no c, dv_mk_no c, dv_mk_no c, dv_mk_no c, dv_mk_no c, dv_mkL_no c]
    exact h6 j (hst2 j hj)
end
section
theorem dv_16 : (16 : Int32) = nI 16 := by decide +kernel
theorem dv_q {w : Nat} (h : w ≤ 255) : nI w / 16 = nI (w / 16) := by
  rw [dv_16]
  exact pk_div (by omega) (by omega) (by omega)
theorem dv_r {w : Nat} (h : w ≤ 255) : nI w - nI w / 16 * 16 = nI (w % 16) := by
  rw [dv_16]
  exact pk_rem (by omega) (by omega) (by omega)
theorem dv_16n : ¬ (16 : Int32) = 0 := by decide
section
variable {np ns cp cy rc : Nat} {mr : Int32} {nq : Int64} {ca ho st rm xse xbu xsc xqt xam xat xsy xib xnc xnh yse ybu ysc yqt yam yat ysy yib ync ynh : Nat → Int32} {xsq ysq : Nat → Int64}
theorem xm_pair_t {post : Int32 → Prop} {w : Nat} (n8 : np ≤ 8) (hw : w ≤ 255) (ha : w / 16 < np) (hb : w % 16 < np) (hab : w / 16 ≠ w % 16) (h : post 1) : wpX_isPair post (nI np, nI ns, nI cp, mr, nI rc, nq, nI cy, ca, ho, st, xse, xbu, xsc, xqt, xam, xat, xsy, xsq, xib, xnc, xnh, rm) (nI w) := by
  unfold wpX_isPair
  refine xm_in_t (nI_pos (by omega)) (nI_nlt (b := w) (a := 255) hw (by omega)) (br_f (by decide) ⟨dv_16n, nm_r (dv_q hw) ⟨dv_16n, nm_r (dv_r hw) (xm_part_t n8 ha (br_f (by decide) (xm_part_t n8 hb (br_f (by decide) (br_f ?_ h)))))⟩⟩)
  exact fun e => hab ((nI_eq (by omega) (by omega)).mp e)
theorem xm_pair_f {post : Int32 → Prop} {p : Int32} (n8 : np ≤ 8) (hp : p < 0 ∨ 255 < p ∨ ∃ w, w ≤ 255 ∧ p = nI w ∧ ¬ (w / 16 < np ∧ w % 16 < np ∧ w / 16 ≠ w % 16)) (h : post 0) : wpX_isPair post (nI np, nI ns, nI cp, mr, nI rc, nq, nI cy, ca, ho, st, xse, xbu, xsc, xqt, xam, xat, xsy, xsq, xib, xnc, xnh, rm) p := by
  unfold wpX_isPair
  rcases hp with h0 | h0 | ⟨w, hw, rfl, hn⟩
  · exact xm_in_f (Or.inl h0) (br_t rfl h)
  · exact xm_in_f (Or.inr h0) (br_t rfl h)
  · refine xm_in_t (nI_pos (by omega)) (nI_nlt (b := w) (a := 255) hw (by omega)) (br_f (by decide) ⟨dv_16n, nm_r (dv_q hw) ⟨dv_16n, nm_r (dv_r hw) ?_⟩⟩)
    by_cases ha : w / 16 < np
    · refine xm_part_t n8 ha (br_f (by decide) ?_)
      by_cases hb : w % 16 < np
      · refine xm_part_t n8 hb (br_f (by decide) (br_t ?_ h))
        have e : w / 16 = w % 16 := by
          by_cases e : w / 16 = w % 16
          · exact e
          · exact absurd ⟨ha, hb, e⟩ hn
        rw [e]
      · exact xm_part_f (Or.inr (nI_le (by omega) (by omega))) (br_t rfl h)
    · exact xm_part_f (Or.inr (nI_le (by omega) (by omega))) (br_t rfl h)
theorem xm_low {post : Int32 → Prop} (c64 : cp ≤ 64) (h0 : (∀ j, j < cp → st j ≠ 0) → post (-1)) (h1 : ∀ j, j < cp → st j = 0 → (∀ l, l < j → st l ≠ 0) → post (nI j)) : wpX_lowestEmptySlot post (nI np, nI ns, nI cp, mr, nI rc, nq, nI cy, ca, ho, st, xse, xbu, xsc, xqt, xam, xat, xsy, xsq, xib, xnc, xnh, rm) := by
  refine loop_0 (fun n i (_ : Unit) => wX_lowestEmptySlot_2 post (nI np) (nI ns) (nI cp) mr (nI rc) nq (nI cy) ca ho st xse xbu xsc xqt xam xat xsy xsq xib xnc xnh rm n (nI i)) (fun i _ => ∀ l, l < i → st l ≠ 0) cp () (fun l hl => absurd hl (by omega)) ?_ ?_
  · intro n _ hs
    exact br_t (nI_le (Nat.le_refl _) (by omega)) (h0 hs)
  · intro n i _ hi hs ih
    have vi : vp_in (nI i) 64 := vp_in_nI (by omega) (by omega)
    have ei : (nI i).toNatClampNeg = i := nI_clamp (by omega)
    refine br_f (nI_ge hi (by omega)) ⟨vi, br_c (fun z => h1 i hi (by rw [ei] at z; exact z) hs) (fun z => nm_r (nI_1 i) (ih () (fun l hl => ?_)))⟩
    by_cases e : l = i
    · rw [ei] at z
      rw [e]; exact z
    · exact hs l (by omega)
theorem ym_low {post : Int32 → SY → Prop} {x2 x3 x4 x5 x6 : Int32} (c64 : cp ≤ 64) (h0 : (∀ j, j < cp → st j ≠ 0) → post (-1) (nI np, nI ns, nI cp, mr, nI cy, nI rc, nq, ca, ho, yse, ybu, ysc, yqt, yam, st, yat, ysy, ysq, rm, ync, ynh, yib))
    (h1 : ∀ j, j < cp → st j = 0 → (∀ l, l < j → st l ≠ 0) → post (nI j) (nI np, nI ns, nI cp, mr, nI cy, nI rc, nq + 1, ca, ho, upd yse j x5, upd ybu j x6, upd ysc j x2, upd yqt j x3, upd yam j x4, upd st j 1, upd yat j 0, upd ysy j (-1), vp_updL ysq j nq, rm, ync, ynh, yib)) :
    ∀ d x7, d ≤ cp → dv_lo st x7 d cp → wY_submit_104 post x2 x3 x4 x5 x6 (nI np) (nI ns) (nI cp) mr (nI cy) (nI rc) nq ca ho yse ybu ysc yqt yam st yat ysy ysq rm ync ynh yib (d + 1) x7 (nI d + (-1)) := by
  intro d
  induction d with
  | zero =>
    intro x7 _ hl
    refine br_t (by decide) ?_
    rcases hl with ⟨e, hn⟩ | ⟨j, _, hj, e, hz, hl⟩
    · rw [e]
      exact br_f (by decide) (h0 (fun j hj => hn j (by omega) hj))
    · have vj : vp_in (nI j) 64 := vp_in_nI (by omega) (by omega)
      have h2 := h1 j hj hz (fun l h => hl l (by omega) h)
      refine br_t (by rw [e]; exact nI_pos' (by omega)) ?_
      rw [e, nI_clamp (n := j) (by omega)]
      exact ⟨vj, nm_e ⟨vj, nm_e ⟨vj, nm_e ⟨vj, nm_e ⟨vj, nm_e ⟨vj, nm_e ⟨vj, nm_e ⟨vj, nm_e ⟨vj, nm_e (nm_e h2)⟩⟩⟩⟩⟩⟩⟩⟩⟩
  | succ d ih =>
    intro x7 hd hl
    rw [pk_m1]
    have vd : vp_in (nI d) 64 := vp_in_nI (by omega) (by omega)
    have ed : (nI d).toNatClampNeg = d := nI_clamp (by omega)
    refine br_f (nI_pos (by omega)) ⟨vd, br_c (fun z => nm_e (ih (nI d) (by omega) (dv_lo_y (by omega) (by rw [ed] at z; exact z)))) (fun z => nm_e (ih x7 (by omega) (dv_lo_n (by rw [ed] at z; exact z) hl)))⟩
theorem xm_sub {post : Int32 → SX → Prop} {w : Nat} {v2 v3 v4 : Int32} (n8 : np ≤ 8) (s4 : ns ≤ 4) (c64 : cp ≤ 64) (hw : w ≤ 255) (ha : w / 16 < np) (hb : w % 16 < np) (hab : w / 16 ≠ w % 16)
    (h0 : (v2 < 0 ∨ nI ns ≤ v2 ∨ v3 < 1 ∨ 1000000 < v3 ∨ v4 < 0 ∨ 1000000 < v4 ∨ (∀ j, j < cp → st j ≠ 0)) → post (-1) (nI np, nI ns, nI cp, mr, nI rc, nq, nI cy, ca, ho, st, xse, xbu, xsc, xqt, xam, xat, xsy, xsq, xib, xnc, xnh, rm))
    (h1 : ∀ s, s < ns → v2 = nI s → ¬ v3 < 1 → ¬ 1000000 < v3 → ¬ v4 < 0 → ¬ 1000000 < v4 → ∀ j, j < cp → st j = 0 → (∀ l, l < j → st l ≠ 0) →
      post (nI j) (nI np, nI ns, nI cp, mr, nI rc, nq + 1, nI cy, ca, ho, upd st j 1, upd xse j (nI (w / 16)), upd xbu j (nI (w % 16)), upd xsc j v2, upd xqt j v3, upd xam j v4, upd xat j 0, upd xsy j (-1), vp_updL xsq j nq, xib, xnc, xnh, rm)) : wpX_submit post (nI np, nI ns, nI cp, mr, nI rc, nq, nI cy, ca, ho, st, xse, xbu, xsc, xqt, xam, xat, xsy, xsq, xib, xnc, xnh, rm) (nI w) v2 v3 v4 := by
  unfold wpX_submit
  refine xm_pair_t n8 hw ha hb hab (br_f (by decide) ?_)
  rcases pk_ix v2 (n := ns) (by omega) with h | h | ⟨s, hs, e⟩
  · exact xm_sec_f (Or.inl h) (br_t rfl (h0 (Or.inl h)))
  · exact xm_sec_f (Or.inr h) (br_t rfl (h0 (Or.inr (Or.inl h))))
  · have L : ∀ post : Int32 → Prop, post 1 → wpX_isSecurity post (nI np, nI ns, nI cp, mr, nI rc, nq, nI cy, ca, ho, st, xse, xbu, xsc, xqt, xam, xat, xsy, xsq, xib, xnc, xnh, rm) v2 := fun post hp => by rw [e]; exact xm_sec_t s4 hs hp
    refine L _ (br_f (by decide) ?_)
    by_cases q1 : v3 < 1
    · exact xm_in_f (Or.inl q1) (br_t rfl (h0 (Or.inr (Or.inr (Or.inl q1)))))
    · by_cases q2 : 1000000 < v3
      · exact xm_in_f (Or.inr q2) (br_t rfl (h0 (Or.inr (Or.inr (Or.inr (Or.inl q2))))))
      · refine xm_in_t q1 q2 (br_f (by decide) ?_)
        by_cases q3 : v4 < 0
        · exact xm_in_f (Or.inl q3) (br_t rfl (h0 (Or.inr (Or.inr (Or.inr (Or.inr (Or.inl q3)))))))
        · by_cases q4 : 1000000 < v4
          · exact xm_in_f (Or.inr q4) (br_t rfl (h0 (Or.inr (Or.inr (Or.inr (Or.inr (Or.inr (Or.inl q4))))))))
          · refine xm_in_t q3 q4 (br_f (by decide) (xm_low c64 (fun hn => br_t rfl (h0 (Or.inr (Or.inr (Or.inr (Or.inr (Or.inr (Or.inr hn)))))))) (fun j hj hz hl => br_f (dv_m1 (by omega)) ?_)))
            have vj : vp_in (nI j) 64 := vp_in_nI (by omega) (by omega)
            have h2 := h1 s hs e q1 q2 q3 q4 j hj hz hl
            rw [nI_clamp (n := j) (by omega), dv_r hw, dv_q hw]
            exact ⟨vj, nm_e ⟨dv_16n, vj, nm_e ⟨dv_16n, vj, nm_e ⟨vj, nm_e ⟨vj, nm_e ⟨vj, nm_e ⟨vj, nm_e ⟨vj, nm_e ⟨vj, nm_e (nm_e h2)⟩⟩⟩⟩⟩⟩⟩⟩⟩
theorem ym_sub {post : Int32 → SY → Prop} {w : Nat} {v2 v3 v4 : Int32} (n8 : np ≤ 8) (s4 : ns ≤ 4) (c64 : cp ≤ 64) (hw : w ≤ 255) (ha : w / 16 < np) (hb : w % 16 < np) (hab : w / 16 ≠ w % 16)
    (h0 : (v2 < 0 ∨ nI ns ≤ v2 ∨ v3 < 1 ∨ 1000000 < v3 ∨ v4 < 0 ∨ 1000000 < v4 ∨ (∀ j, j < cp → st j ≠ 0)) → post (-1) (nI np, nI ns, nI cp, mr, nI cy, nI rc, nq, ca, ho, yse, ybu, ysc, yqt, yam, st, yat, ysy, ysq, rm, ync, ynh, yib))
    (h1 : ∀ s, s < ns → v2 = nI s → ¬ v3 < 1 → ¬ 1000000 < v3 → ¬ v4 < 0 → ¬ 1000000 < v4 → ∀ j, j < cp → st j = 0 → (∀ l, l < j → st l ≠ 0) →
      post (nI j) (nI np, nI ns, nI cp, mr, nI cy, nI rc, nq + 1, ca, ho, upd yse j (nI (w / 16)), upd ybu j (nI (w % 16)), upd ysc j v2, upd yqt j v3, upd yam j v4, upd st j 1, upd yat j 0, upd ysy j (-1), vp_updL ysq j nq, rm, ync, ynh, yib)) : wpY_submit post (nI np, nI ns, nI cp, mr, nI cy, nI rc, nq, ca, ho, yse, ybu, ysc, yqt, yam, st, yat, ysy, ysq, rm, ync, ynh, yib) (nI w) v2 v3 v4 := by
  unfold wpY_submit
  refine br_f (nI_pos (by omega)) (br_t (nI_le (b := 255) hw (by omega)) ⟨dv_16n, nm_r (dv_q hw) ⟨dv_16n, nm_r (dv_r hw) (br_f (nI_ge ha (by omega)) (br_f (nI_ge hb (by omega)) (br_f (fun e => hab ((nI_eq (by omega) (by omega)).mp e)) ?_)))⟩⟩)
  refine br_c (fun z => h0 (Or.inl z)) (fun z1 => br_c (fun z2 => br_c (fun z => h0 (Or.inr (Or.inr (Or.inl z)))) (fun z3 => br_c (fun z4 => br_c (fun z => h0 (Or.inr (Or.inr (Or.inr (Or.inr (Or.inl z)))))) (fun z5 => br_c (fun z6 => ?_) (fun z => h0 (Or.inr (Or.inr (Or.inr (Or.inr (Or.inr (Or.inl (Int32.not_le.mp z))))))))))
    (fun z => h0 (Or.inr (Or.inr (Or.inr (Or.inl (Int32.not_le.mp z)))))))) (fun z => h0 (Or.inr (Or.inl (Int32.not_lt.mp z)))))
  obtain ⟨s, hs, e⟩ : ∃ s, s < ns ∧ v2 = nI s := by
    rcases pk_ix v2 (n := ns) (by omega) with h | h | h
    · exact absurd h z1
    · exact absurd z2 (dv_nlt h)
    · exact h
  exact nm_r (e' := nI cp + (-1)) (Int32.sub_eq_add_neg _ _) ⟨cp + 1, ym_low c64 (fun hn => h0 (Or.inr (Or.inr (Or.inr (Or.inr (Or.inr (Or.inr hn))))))) (h1 s hs e z3 (Int32.not_lt.mpr z4) z5 (Int32.not_lt.mpr z6)) cp (-1) (Nat.le_refl _) (dv_lo_e st cp)⟩
end
theorem i_vc_submit {k : Nat} {u : SX} {v : SY} (I : i_Rel k u v) (hk : k + 5 ≤ 2564) (v1 : Int32) (v2 : Int32) (v3 : Int32) (v4 : Int32) : wpX_submit (fun r u' => wpY_submit (fun r' v' => r' = r ∧ i_Rel (k + 5) u' v') v v1 v2 v3 v4) u v1 v2 v3 v4 := by
  obtain ⟨np, ns, cp, cy, rc, mr, nq, ca, ho, st, rm, xse, xbu, xsc, xqt, xam, xat, xsy, xib, xnc, xnh, yse, ybu, ysc, yqt, yam, yat, ysy, yib, ync, ynh, xsq, ysq, rfl, rfl, h1, h2, h3, h4, h5, h6, h7⟩ := I
  have R : i_Rel (k + 5) (nI np, nI ns, nI cp, mr, nI rc, nq, nI cy, ca, ho, st, xse, xbu, xsc, xqt, xam, xat, xsy, xsq, xib, xnc, xnh, rm) (nI np, nI ns, nI cp, mr, nI cy, nI rc, nq, ca, ho, yse, ybu, ysc, yqt, yam, st, yat, ysy, ysq, rm, ync, ynh, yib) := dv_rel (dv_Sz_up h1) h2 h3 h4 h5 h6 h7
  have h1' := h1
  obtain ⟨n2, n8, s1, s4, c8, c64, cyk, r64, cy0⟩ := h1
  rcases pk_ix v1 (n := 256) (by omega) with h | h | ⟨w, hw, rfl⟩
  · unfold wpX_submit wpY_submit
    exact xm_pair_f n8 (Or.inl h) (br_t rfl (br_t h ⟨rfl, R⟩))
  · have h' : (255 : Int32) < v1 := by
      have e : (255 : Int32) < nI 256 := by decide
      exact Int32.lt_of_lt_of_le e h
    unfold wpX_submit wpY_submit
    exact xm_pair_f n8 (Or.inr (Or.inl h')) (br_t rfl (br_c (fun _ => ⟨rfl, R⟩) (fun _ => br_f (Int32.not_le.mpr h') ⟨rfl, R⟩)))
  · have hw' : w ≤ 255 := by omega
    by_cases pa : w / 16 < np ∧ w % 16 < np ∧ w / 16 ≠ w % 16
    · obtain ⟨ha, hb, hab⟩ := pa
      refine xm_sub n8 s4 c64 hw' ha hb hab (fun q => ?_) (fun s hs e q1 q2 q3 q4 j hj hz hl => ?_)
      · refine ym_sub n8 s4 c64 hw' ha hb hab (fun _ => ⟨rfl, R⟩) (fun s hs e q1 q2 q3 q4 j hj hz hl => ?_)
        rcases q with q | q | q | q | q | q | q
        · rw [e] at q; exact absurd q (nI_pos (by omega))
        · rw [e] at q; exact absurd q (nI_ge hs (by omega))
        · exact absurd q q1
        · exact absurd q q2
        · exact absurd q q3
        · exact absurd q q4
        · exact absurd hz (q j hj)
      · refine ym_sub n8 s4 c64 hw' ha hb hab (fun q => ?_) (fun s' hs' e' _ _ _ _ j' hj' hz' hl' => ?_)
        · rcases q with q | q | q | q | q | q | q
          · rw [e] at q; exact absurd q (nI_pos (by omega))
          · rw [e] at q; exact absurd q (nI_ge hs (by omega))
          · exact absurd q q1
          · exact absurd q q2
          · exact absurd q q3
          · exact absurd q q4
          · exact absurd hz (q j hj)
        · obtain rfl : j = j' := by
            by_cases c : j < j'
            · exact absurd hz (hl' j c)
            · by_cases d : j' < j
              · exact absurd hz' (hl j' d)
              · omega
          refine ⟨rfl, ?_⟩
          refine dv_rel (dv_Sz_up h1') h2 h3 h4 (dv_St_upd h5 (Or.inr (Or.inl rfl))) ?_ ?_
          · intro i hi
            by_cases c : i = j
            · subst c
              exact ⟨by rw [pk_us, pk_us], by rw [pk_us, pk_us], by rw [pk_us, pk_us], by rw [pk_us, pk_us], by rw [pk_us, pk_us], by rw [pk_us, pk_us], by rw [pk_us, pk_us], by rw [pk_uLs, pk_uLs]⟩
            · rw [pk_un c] at hi
              obtain ⟨e1, e2, e3, e4, e5, e6, e7, e8⟩ := h6 i hi
              exact ⟨by rw [pk_un c, pk_un c]; exact e1, by rw [pk_un c, pk_un c]; exact e2, by rw [pk_un c, pk_un c]; exact e3, by rw [pk_un c, pk_un c]; exact e4, by rw [pk_un c, pk_un c]; exact e5, by rw [pk_un c, pk_un c]; exact e6, by rw [pk_un c, pk_un c]; exact e7, by rw [pk_uLn c, pk_uLn c]; exact e8⟩
          · intro i hi
            by_cases c : i = j
            · subst c
              exact ⟨w / 16, w % 16, s, ha, hb, hs, hab, pk_us, pk_us, by rw [pk_us]; exact e⟩
            · rw [pk_un c] at hi
              obtain ⟨A, B, C, g1, g2, g3, g4, g5, g6, g7⟩ := h7 i hi
              exact ⟨A, B, C, g1, g2, g3, g4, by rw [pk_un c]; exact g5, by rw [pk_un c]; exact g6, by rw [pk_un c]; exact g7⟩
    · unfold wpX_submit wpY_submit
      refine xm_pair_f n8 (Or.inr (Or.inr ⟨w, hw', rfl, pa⟩)) (br_t rfl (br_f (nI_pos (by omega)) (br_t (nI_le (b := 255) hw' (by omega)) ⟨dv_16n, nm_r (dv_q hw') ⟨dv_16n, nm_r (dv_r hw') (br_c (fun _ => ⟨rfl, R⟩) (fun x => br_c (fun _ => ⟨rfl, R⟩) (fun y => br_c (fun _ => ⟨rfl, R⟩) (fun z => ?_))))⟩⟩)))
      exfalso
      refine pa ⟨?_, ?_, fun e => z (by rw [e])⟩
      · have h9 : ¬ np ≤ w / 16 := fun h => x (nI_le h (by omega))
        omega
      · have h9 : ¬ np ≤ w % 16 := fun h => y (nI_le h (by omega))
        omega
end
