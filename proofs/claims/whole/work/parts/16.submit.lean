theorem dv_16 : (16 : Int32) = nI 16 := by decide +kernel
theorem dv_q {w : Nat} (h : w ≤ 255) : nI w / 16 = nI (w / 16) := by
  rw [dv_16]
  exact pk_div (by omega) (by omega) (by omega)
theorem dv_r {w : Nat} (h : w ≤ 255) : nI w - nI w / 16 * 16 = nI (w % 16) := by
  rw [dv_16]
  exact pk_rem (by omega) (by omega) (by omega)
theorem dv_16n : ¬ (16 : Int32) = 0 := by decide
section
variable {np ns cp cy rc : Nat} {mr : Int32} {nq : Int64} {ca ho st rm xse xbu xsc xqt xam xat xsy xib xnc xnh yse ybu ysc yqt yam yat ysy yib ync ynh : Nat → Int32} {xsq ysq : Nat → Int64}
theorem xm_pair_t {post : Int32 → Prop} {w : Nat} (n8 : np ≤ 8) (hw : w ≤ 255) (ha : w / 16 < np) (hb : w % 16 < np) (hab : w / 16 ≠ w % 16) (h : post 1) : wpX_isPair post (nI np, nI ns, nI cp, mr, nI rc, nq, nI cy, ca, ho, st, xse, xbu, xsc, xqt, xam, xat, xsy, xsq, xib, xnc, xnh, rm) (nI w) := by
  unfold wpX_isPair
  refine xm_in_t (nI_pos (by omega)) (nI_nlt (b := w) (a := 255) hw (by omega)) (br_f (by decide) ⟨dv_16n, nm_r (dv_q hw) ⟨dv_16n, nm_r (dv_r hw) (xm_part_t n8 ha (br_f (by decide) (xm_part_t n8 hb (br_f (by decide) (br_f ?_ h)))))⟩⟩)
  exact fun e => hab ((nI_eq (by omega) (by omega)).mp e)
theorem xm_pair_f {post : Int32 → Prop} {p : Int32} (n8 : np ≤ 8) (hp : p < 0 ∨ 255 < p ∨ ∃ w, w ≤ 255 ∧ p = nI w ∧ ¬ (w / 16 < np ∧ w % 16 < np ∧ w / 16 ≠ w % 16)) (h : post 0) : wpX_isPair post (nI np, nI ns, nI cp, mr, nI rc, nq, nI cy, ca, ho, st, xse, xbu, xsc, xqt, xam, xat, xsy, xsq, xib, xnc, xnh, rm) p := by
  unfold wpX_isPair
  rcases hp with h0 | h0 | ⟨w, hw, rfl, hn⟩
  · exact xm_in_f (Or.inl h0) (br_t rfl h)
  · exact xm_in_f (Or.inr h0) (br_t rfl h)
  · refine xm_in_t (nI_pos (by omega)) (nI_nlt (b := w) (a := 255) hw (by omega)) (br_f (by decide) ⟨dv_16n, nm_r (dv_q hw) ⟨dv_16n, nm_r (dv_r hw) ?_⟩⟩)
    by_cases ha : w / 16 < np
    · refine xm_part_t n8 ha (br_f (by decide) ?_)
      by_cases hb : w % 16 < np
      · refine xm_part_t n8 hb (br_f (by decide) (br_t ?_ h))
        have e : w / 16 = w % 16 := by
          by_cases e : w / 16 = w % 16
          · exact e
          · exact absurd ⟨ha, hb, e⟩ hn
        rw [e]
      · exact xm_part_f (Or.inr (nI_le (by omega) (by omega))) (br_t rfl h)
    · exact xm_part_f (Or.inr (nI_le (by omega) (by omega))) (br_t rfl h)
theorem xm_low {post : Int32 → Prop} (c64 : cp ≤ 64) (h0 : (∀ j, j < cp → st j ≠ 0) → post (-1)) (h1 : ∀ j, j < cp → st j = 0 → (∀ l, l < j → st l ≠ 0) → post (nI j)) : wpX_lowestEmptySlot post (nI np, nI ns, nI cp, mr, nI rc, nq, nI cy, ca, ho, st, xse, xbu, xsc, xqt, xam, xat, xsy, xsq, xib, xnc, xnh, rm) := by
  refine loop_0 (fun n i (_ : Unit) => wX_lowestEmptySlot_2 post (nI np) (nI ns) (nI cp) mr (nI rc) nq (nI cy) ca ho st xse xbu xsc xqt xam xat xsy xsq xib xnc xnh rm n (nI i)) (fun i _ => ∀ l, l < i → st l ≠ 0) cp () (fun l hl => absurd hl (by omega)) ?_ ?_
  · intro n _ hs
    exact br_t (nI_le (Nat.le_refl _) (by omega)) (h0 hs)
  · intro n i _ hi hs ih
    have vi : vp_in (nI i) 64 := vp_in_nI (by omega) (by omega)
    have ei : (nI i).toNatClampNeg = i := nI_clamp (by omega)
    refine br_f (nI_ge hi (by omega)) ⟨vi, br_c (fun z => h1 i hi (by rw [ei] at z; exact z) hs) (fun z => nm_r (nI_1 i) (ih () (fun l hl => ?_)))⟩
    by_cases e : l = i
    · rw [ei] at z
      rw [e]; exact z
    · exact hs l (by omega)
theorem ym_low {post : Int32 → SY → Prop} {x2 x3 x4 x5 x6 : Int32} (c64 : cp ≤ 64) (h0 : (∀ j, j < cp → st j ≠ 0) → post (-1) (nI np, nI ns, nI cp, mr, nI cy, nI rc, nq, ca, ho, yse, ybu, ysc, yqt, yam, st, yat, ysy, ysq, rm, ync, ynh, yib))
    (h1 : ∀ j, j < cp → st j = 0 → (∀ l, l < j → st l ≠ 0) → post (nI j) (nI np, nI ns, nI cp, mr, nI cy, nI rc, nq + 1, ca, ho, upd yse j x5, upd ybu j x6, upd ysc j x2, upd yqt j x3, upd yam j x4, upd st j 1, upd yat j 0, upd ysy j (-1), vp_updL ysq j nq, rm, ync, ynh, yib)) :
    ∀ d x7, d ≤ cp → dv_lo st x7 d cp → wY_submit_104 post x2 x3 x4 x5 x6 (nI np) (nI ns) (nI cp) mr (nI cy) (nI rc) nq ca ho yse ybu ysc yqt yam st yat ysy ysq rm ync ynh yib (d + 1) x7 (nI d + (-1)) := by
  intro d
  induction d with
  | zero =>
    intro x7 _ hl
    refine br_t (by decide) ?_
    rcases hl with ⟨e, hn⟩ | ⟨j, _, hj, e, hz, hl⟩
    · rw [e]
      exact br_f (by decide) (h0 (fun j hj => hn j (by omega) hj))
    · have vj : vp_in (nI j) 64 := vp_in_nI (by omega) (by omega)
      have h2 := h1 j hj hz (fun l h => hl l (by omega) h)
      refine br_t (by rw [e]; exact nI_pos' (by omega)) ?_
      rw [e, nI_clamp (n := j) (by omega)]
      exact ⟨vj, nm_e ⟨vj, nm_e ⟨vj, nm_e ⟨vj, nm_e ⟨vj, nm_e ⟨vj, nm_e ⟨vj, nm_e ⟨vj, nm_e ⟨vj, nm_e (nm_e h2)⟩⟩⟩⟩⟩⟩⟩⟩⟩
  | succ d ih =>
    intro x7 hd hl
    rw [pk_m1]
    have vd : vp_in (nI d) 64 := vp_in_nI (by omega) (by omega)
    have ed : (nI d).toNatClampNeg = d := nI_clamp (by omega)
    refine br_f (nI_pos (by omega)) ⟨vd, br_c (fun z => nm_e (ih (nI d) (by omega) (dv_lo_y (by omega) (by rw [ed] at z; exact z)))) (fun z => nm_e (ih x7 (by omega) (dv_lo_n (by rw [ed] at z; exact z) hl)))⟩
theorem xm_sub {post : Int32 → SX → Prop} {w : Nat} {v2 v3 v4 : Int32} (n8 : np ≤ 8) (s4 : ns ≤ 4) (c64 : cp ≤ 64) (hw : w ≤ 255) (ha : w / 16 < np) (hb : w % 16 < np) (hab : w / 16 ≠ w % 16)
    (h0 : (v2 < 0 ∨ nI ns ≤ v2 ∨ v3 < 1 ∨ 1000000 < v3 ∨ v4 < 0 ∨ 1000000 < v4 ∨ (∀ j, j < cp → st j ≠ 0)) → post (-1) (nI np, nI ns, nI cp, mr, nI rc, nq, nI cy, ca, ho, st, xse, xbu, xsc, xqt, xam, xat, xsy, xsq, xib, xnc, xnh, rm))
    (h1 : ∀ s, s < ns → v2 = nI s → ¬ v3 < 1 → ¬ 1000000 < v3 → ¬ v4 < 0 → ¬ 1000000 < v4 → ∀ j, j < cp → st j = 0 → (∀ l, l < j → st l ≠ 0) →
      post (nI j) (nI np, nI ns, nI cp, mr, nI rc, nq + 1, nI cy, ca, ho, upd st j 1, upd xse j (nI (w / 16)), upd xbu j (nI (w % 16)), upd xsc j v2, upd xqt j v3, upd xam j v4, upd xat j 0, upd xsy j (-1), vp_updL xsq j nq, xib, xnc, xnh, rm)) : wpX_submit post (nI np, nI ns, nI cp, mr, nI rc, nq, nI cy, ca, ho, st, xse, xbu, xsc, xqt, xam, xat, xsy, xsq, xib, xnc, xnh, rm) (nI w) v2 v3 v4 := by
  unfold wpX_submit
  refine xm_pair_t n8 hw ha hb hab (br_f (by decide) ?_)
  rcases pk_ix v2 (n := ns) (by omega) with h | h | ⟨s, hs, e⟩
  · exact xm_sec_f (Or.inl h) (br_t rfl (h0 (Or.inl h)))
  · exact xm_sec_f (Or.inr h) (br_t rfl (h0 (Or.inr (Or.inl h))))
  · have L : ∀ post : Int32 → Prop, post 1 → wpX_isSecurity post (nI np, nI ns, nI cp, mr, nI rc, nq, nI cy, ca, ho, st, xse, xbu, xsc, xqt, xam, xat, xsy, xsq, xib, xnc, xnh, rm) v2 := fun post hp => by rw [e]; exact xm_sec_t s4 hs hp
    refine L _ (br_f (by decide) ?_)
    by_cases q1 : v3 < 1
    · exact xm_in_f (Or.inl q1) (br_t rfl (h0 (Or.inr (Or.inr (Or.inl q1)))))
    · by_cases q2 : 1000000 < v3
      · exact xm_in_f (Or.inr q2) (br_t rfl (h0 (Or.inr (Or.inr (Or.inr (Or.inl q2))))))
      · refine xm_in_t q1 q2 (br_f (by decide) ?_)
        by_cases q3 : v4 < 0
        · exact xm_in_f (Or.inl q3) (br_t rfl (h0 (Or.inr (Or.inr (Or.inr (Or.inr (Or.inl q3)))))))
        · by_cases q4 : 1000000 < v4
          · exact xm_in_f (Or.inr q4) (br_t rfl (h0 (Or.inr (Or.inr (Or.inr (Or.inr (Or.inr (Or.inl q4))))))))
          · refine xm_in_t q3 q4 (br_f (by decide) (xm_low c64 (fun hn => br_t rfl (h0 (Or.inr (Or.inr (Or.inr (Or.inr (Or.inr (Or.inr hn)))))))) (fun j hj hz hl => br_f (dv_m1 (by omega)) ?_)))
            have vj : vp_in (nI j) 64 := vp_in_nI (by omega) (by omega)
            have h2 := h1 s hs e q1 q2 q3 q4 j hj hz hl
            rw [nI_clamp (n := j) (by omega), dv_r hw, dv_q hw]
            exact ⟨vj, nm_e ⟨dv_16n, vj, nm_e ⟨dv_16n, vj, nm_e ⟨vj, nm_e ⟨vj, nm_e ⟨vj, nm_e ⟨vj, nm_e ⟨vj, nm_e ⟨vj, nm_e (nm_e h2)⟩⟩⟩⟩⟩⟩⟩⟩⟩
theorem ym_sub {post : Int32 → SY → Prop} {w : Nat} {v2 v3 v4 : Int32} (n8 : np ≤ 8) (s4 : ns ≤ 4) (c64 : cp ≤ 64) (hw : w ≤ 255) (ha : w / 16 < np) (hb : w % 16 < np) (hab : w / 16 ≠ w % 16)
    (h0 : (v2 < 0 ∨ nI ns ≤ v2 ∨ v3 < 1 ∨ 1000000 < v3 ∨ v4 < 0 ∨ 1000000 < v4 ∨ (∀ j, j < cp → st j ≠ 0)) → post (-1) (nI np, nI ns, nI cp, mr, nI cy, nI rc, nq, ca, ho, yse, ybu, ysc, yqt, yam, st, yat, ysy, ysq, rm, ync, ynh, yib))
    (h1 : ∀ s, s < ns → v2 = nI s → ¬ v3 < 1 → ¬ 1000000 < v3 → ¬ v4 < 0 → ¬ 1000000 < v4 → ∀ j, j < cp → st j = 0 → (∀ l, l < j → st l ≠ 0) →
      post (nI j) (nI np, nI ns, nI cp, mr, nI cy, nI rc, nq + 1, ca, ho, upd yse j (nI (w / 16)), upd ybu j (nI (w % 16)), upd ysc j v2, upd yqt j v3, upd yam j v4, upd st j 1, upd yat j 0, upd ysy j (-1), vp_updL ysq j nq, rm, ync, ynh, yib)) : wpY_submit post (nI np, nI ns, nI cp, mr, nI cy, nI rc, nq, ca, ho, yse, ybu, ysc, yqt, yam, st, yat, ysy, ysq, rm, ync, ynh, yib) (nI w) v2 v3 v4 := by
  unfold wpY_submit
  refine br_f (nI_pos (by omega)) (br_t (nI_le (b := 255) hw (by omega)) ⟨dv_16n, nm_r (dv_q hw) ⟨dv_16n, nm_r (dv_r hw) (br_f (nI_ge ha (by omega)) (br_f (nI_ge hb (by omega)) (br_f (fun e => hab ((nI_eq (by omega) (by omega)).mp e)) ?_)))⟩⟩)
  refine br_c (fun z => h0 (Or.inl z)) (fun z1 => br_c (fun z2 => br_c (fun z => h0 (Or.inr (Or.inr (Or.inl z)))) (fun z3 => br_c (fun z4 => br_c (fun z => h0 (Or.inr (Or.inr (Or.inr (Or.inr (Or.inl z)))))) (fun z5 => br_c (fun z6 => ?_) (fun z => h0 (Or.inr (Or.inr (Or.inr (Or.inr (Or.inr (Or.inl (Int32.not_le.mp z))))))))))
    (fun z => h0 (Or.inr (Or.inr (Or.inr (Or.inl (Int32.not_le.mp z)))))))) (fun z => h0 (Or.inr (Or.inl (Int32.not_lt.mp z)))))
  obtain ⟨s, hs, e⟩ : ∃ s, s < ns ∧ v2 = nI s := by
    rcases pk_ix v2 (n := ns) (by omega) with h | h | h
    · exact absurd h z1
    · exact absurd z2 (dv_nlt h)
    · exact h
  exact nm_r (e' := nI cp + (-1)) (Int32.sub_eq_add_neg _ _) ⟨cp + 1, ym_low c64 (fun hn => h0 (Or.inr (Or.inr (Or.inr (Or.inr (Or.inr (Or.inr hn))))))) (h1 s hs e z3 (Int32.not_lt.mpr z4) z5 (Int32.not_lt.mpr z6)) cp (-1) (Nat.le_refl _) (dv_lo_e st cp)⟩
end
theorem i_vc_submit {k : Nat} {u : SX} {v : SY} (I : i_Rel k u v) (hk : k + 5 ≤ 2564) (v1 : Int32) (v2 : Int32) (v3 : Int32) (v4 : Int32) : wpX_submit (fun r u' => wpY_submit (fun r' v' => r' = r ∧ i_Rel (k + 5) u' v') v v1 v2 v3 v4) u v1 v2 v3 v4 := by
  obtain ⟨np, ns, cp, cy, rc, mr, nq, ca, ho, st, rm, xse, xbu, xsc, xqt, xam, xat, xsy, xib, xnc, xnh, yse, ybu, ysc, yqt, yam, yat, ysy, yib, ync, ynh, xsq, ysq, rfl, rfl, h1, h2, h3, h4, h5, h6, h7⟩ := I
  have R : i_Rel (k + 5) (nI np, nI ns, nI cp, mr, nI rc, nq, nI cy, ca, ho, st, xse, xbu, xsc, xqt, xam, xat, xsy, xsq, xib, xnc, xnh, rm) (nI np, nI ns, nI cp, mr, nI cy, nI rc, nq, ca, ho, yse, ybu, ysc, yqt, yam, st, yat, ysy, ysq, rm, ync, ynh, yib) := dv_rel (dv_Sz_up h1) h2 h3 h4 h5 h6 h7
  have h1' := h1
  obtain ⟨n2, n8, s1, s4, c8, c64, cyk, r64, cy0⟩ := h1
  rcases pk_ix v1 (n := 256) (by omega) with h | h | ⟨w, hw, rfl⟩
  · unfold wpX_submit wpY_submit
    exact xm_pair_f n8 (Or.inl h) (br_t rfl (br_t h ⟨rfl, R⟩))
  · have h' : (255 : Int32) < v1 := by
      have e : (255 : Int32) < nI 256 := by decide
      exact Int32.lt_of_lt_of_le e h
    unfold wpX_submit wpY_submit
    exact xm_pair_f n8 (Or.inr (Or.inl h')) (br_t rfl (br_c (fun _ => ⟨rfl, R⟩) (fun _ => br_f (Int32.not_le.mpr h') ⟨rfl, R⟩)))
  · have hw' : w ≤ 255 := by omega
    by_cases pa : w / 16 < np ∧ w % 16 < np ∧ w / 16 ≠ w % 16
    · obtain ⟨ha, hb, hab⟩ := pa
      refine xm_sub n8 s4 c64 hw' ha hb hab (fun q => ?_) (fun s hs e q1 q2 q3 q4 j hj hz hl => ?_)
      · refine ym_sub n8 s4 c64 hw' ha hb hab (fun _ => ⟨rfl, R⟩) (fun s hs e q1 q2 q3 q4 j hj hz hl => ?_)
        rcases q with q | q | q | q | q | q | q
        · rw [e] at q; exact absurd q (nI_pos (by omega))
        · rw [e] at q; exact absurd q (nI_ge hs (by omega))
        · exact absurd q q1
        · exact absurd q q2
        · exact absurd q q3
        · exact absurd q q4
        · exact absurd hz (q j hj)
      · refine ym_sub n8 s4 c64 hw' ha hb hab (fun q => ?_) (fun s' hs' e' _ _ _ _ j' hj' hz' hl' => ?_)
        · rcases q with q | q | q | q | q | q | q
          · rw [e] at q; exact absurd q (nI_pos (by omega))
          · rw [e] at q; exact absurd q (nI_ge hs (by omega))
          · exact absurd q q1
          · exact absurd q q2
          · exact absurd q q3
          · exact absurd q q4
          · exact absurd hz (q j hj)
        · obtain rfl : j = j' := by
            by_cases c : j < j'
            · exact absurd hz (hl' j c)
            · by_cases d : j' < j
              · exact absurd hz' (hl j' d)
              · omega
          refine ⟨rfl, ?_⟩
          refine dv_rel (dv_Sz_up h1') h2 h3 h4 (dv_St_upd h5 (Or.inr (Or.inl rfl))) ?_ ?_
          · intro i hi
            by_cases c : i = j
            · subst c
              exact ⟨by rw [pk_us, pk_us], by rw [pk_us, pk_us], by rw [pk_us, pk_us], by rw [pk_us, pk_us], by rw [pk_us, pk_us], by rw [pk_us, pk_us], by rw [pk_us, pk_us], by rw [pk_uLs, pk_uLs]⟩
            · rw [pk_un c] at hi
              obtain ⟨e1, e2, e3, e4, e5, e6, e7, e8⟩ := h6 i hi
              exact ⟨by rw [pk_un c, pk_un c]; exact e1, by rw [pk_un c, pk_un c]; exact e2, by rw [pk_un c, pk_un c]; exact e3, by rw [pk_un c, pk_un c]; exact e4, by rw [pk_un c, pk_un c]; exact e5, by rw [pk_un c, pk_un c]; exact e6, by rw [pk_un c, pk_un c]; exact e7, by rw [pk_uLn c, pk_uLn c]; exact e8⟩
          · intro i hi
            by_cases c : i = j
            · subst c
              exact ⟨w / 16, w % 16, s, ha, hb, hs, hab, pk_us, pk_us, by rw [pk_us]; exact e⟩
            · rw [pk_un c] at hi
              obtain ⟨A, B, C, g1, g2, g3, g4, g5, g6, g7⟩ := h7 i hi
              exact ⟨A, B, C, g1, g2, g3, g4, by rw [pk_un c]; exact g5, by rw [pk_un c]; exact g6, by rw [pk_un c]; exact g7⟩
    · unfold wpX_submit wpY_submit
      refine xm_pair_f n8 (Or.inr (Or.inr ⟨w, hw', rfl, pa⟩)) (br_t rfl (br_f (nI_pos (by omega)) (br_t (nI_le (b := 255) hw' (by omega)) ⟨dv_16n, nm_r (dv_q hw') ⟨dv_16n, nm_r (dv_r hw') (br_c (fun _ => ⟨rfl, R⟩) (fun x => br_c (fun _ => ⟨rfl, R⟩) (fun y => br_c (fun _ => ⟨rfl, R⟩) (fun z => ?_))))⟩⟩)))
      exfalso
      refine pa ⟨?_, ?_, fun e => z (by rw [e])⟩
      · have h9 : ¬ np ≤ w / 16 := fun h => x (nI_le h (by omega))
        omega
      · have h9 : ¬ np ≤ w % 16 := fun h => y (nI_le h (by omega))
        omega
