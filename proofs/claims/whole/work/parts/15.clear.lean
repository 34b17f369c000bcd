section
variable {np ns cp cy rc : Nat} {mr : Int32} {nq : Int64} {ca ho st rm xse xbu xsc xqt xam xat xsy xib xnc xnh yse ybu ysc yqt yam yat ysy yib ync ynh : Nat → Int32} {xsq ysq : Nat → Int64}
theorem xm_clear {post : Int32 → SX → Prop} (c64 : cp ≤ 64) (h : post (nI (dv_cn (dv_dn st) cp)) (nI np, nI ns, nI cp, mr, nI rc, nq, nI cy, ca, ho, dv_mk (dv_dn st) st 0 cp, xse, xbu, xsc, xqt, xam, xat, xsy, xsq, xib, xnc, xnh, rm)) : wpX_clearDone post (nI np, nI ns, nI cp, mr, nI rc, nq, nI cy, ca, ho, st, xse, xbu, xsc, xqt, xam, xat, xsy, xsq, xib, xnc, xnh, rm) := by
  refine loop_0 (fun n i (s : Int32 × (Nat → Int32)) => wX_clearDone_4 post (nI np) (nI ns) (nI cp) mr (nI rc) nq (nI cy) n s.1 (nI i) ca ho s.2 xse xbu xsc xqt xam xat xsy xsq xib xnc xnh rm) (fun i s => s = (nI (dv_cn (dv_dn st) i), dv_mk (dv_dn st) st 0 i)) cp (0, st) (by rw [dv_mk_0]; rfl) ?_ ?_
  · intro n s hs
    exact br_t (nI_le (Nat.le_refl _) (by omega)) (by rw [hs]; exact h)
  · intro n i s hi hs ih
    have vi : vp_in (nI i) 64 := vp_in_nI (by omega) (by omega)
    have ei : (nI i).toNatClampNeg = i := nI_clamp (by omega)
    have es : s.2 (nI i).toNatClampNeg = st i := by rw [hs, ei]; exact dv_mk_at _ _ _ _
    refine br_f (nI_ge hi (by omega)) ⟨vi, br_c (fun z => nm_r (nI_1 i) (ih s ?_)) (fun z => ⟨vi, br_c (fun y => nm_r (nI_1 i) (ih s ?_)) (fun y => ⟨vi, nm_r (e' := dv_mk (dv_dn st) st 0 (i + 1)) ?_ (nm_r (e' := nI (dv_cn (dv_dn st) (i + 1))) ?_ (nm_r (nI_1 i) (ih (_, _) rfl)))⟩)⟩)⟩
    · have d : dv_dn st i = 0 := dv_dn_n (Or.inl (es.symm.trans z))
      rw [dv_cn_s0 d, dv_mk_n d]; exact hs
    · have d : dv_dn st i = 0 := dv_dn_n (Or.inr (es.symm.trans y))
      rw [dv_cn_s0 d, dv_mk_n d]; exact hs
    · have d : dv_dn st i ≠ 0 := dv_dn_y (fun e => z (es.trans e)) (fun e => y (es.trans e))
      rw [hs, ei]; exact dv_mk_y d
    · have d : dv_dn st i ≠ 0 := dv_dn_y (fun e => z (es.trans e)) (fun e => y (es.trans e))
      rw [hs, dv_cn_s1 d]; exact nI_1 _
theorem ym_cd42 {post : Int32 → SY → Prop} {J : Int32 → Int32 → (Nat → Int32) → (Nat → Int32) → (Nat → Int32) → (Nat → Int32) → (Nat → Int32) → (Nat → Int32) → (Nat → Int32) → (Nat → Int32) → (Nat → Int32) → (Nat → Int32) → (Nat → Int64) → (Nat → Int32) → (Nat → Int32) → (Nat → Int32) → (Nat → Int32) → Prop} {t : Int32} {i : Nat} (hi : i < 64) (h : J (t + 1) (nI (i + 1)) ca ho (upd yse i 0) (upd ybu i 0) (upd ysc i 0) (upd yqt i 0) (upd yam i 0) (upd st i 0) (upd yat i 0) (upd ysy i (-1)) (vp_updL ysq i 0) rm ync ynh yib) : wY_clearDone_42 post J t (nI i) (nI np) (nI ns) (nI cp) mr (nI cy) (nI rc) nq ca ho yse ybu ysc yqt yam st yat ysy ysq rm ync ynh yib := by
  have vi : vp_in (nI i) 64 := vp_in_nI hi (by omega)
  unfold wY_clearDone_42
  rw [nI_clamp (n := i) (by omega)]
  exact ⟨vi, nm_e ⟨vi, nm_e ⟨vi, nm_e ⟨vi, nm_e ⟨vi, nm_e ⟨vi, nm_e ⟨vi, nm_e ⟨vi, nm_e ⟨vi, nm_e (nm_e (nm_r (nI_1 i) h))⟩⟩⟩⟩⟩⟩⟩⟩⟩
theorem ym_clear {post : Int32 → SY → Prop} (c64 : cp ≤ 64) (h5 : dv_St st) (h : post (nI (dv_cn (dv_dn st) cp)) (nI np, nI ns, nI cp, mr, nI cy, nI rc, nq, ca, ho, dv_mk (dv_dn st) yse 0 cp, dv_mk (dv_dn st) ybu 0 cp, dv_mk (dv_dn st) ysc 0 cp, dv_mk (dv_dn st) yqt 0 cp, dv_mk (dv_dn st) yam 0 cp, dv_mk (dv_dn st) st 0 cp, dv_mk (dv_dn st) yat 0 cp, dv_mk (dv_dn st) ysy (-1) cp, dv_mkL (dv_dn st) ysq 0 cp, rm, ync, ynh, yib)) : wpY_clearDone post (nI np, nI ns, nI cp, mr, nI cy, nI rc, nq, ca, ho, yse, ybu, ysc, yqt, yam, st, yat, ysy, ysq, rm, ync, ynh, yib) := by
  refine loop_0 (fun n i (s : Int32 × (Nat → Int32) × (Nat → Int32) × (Nat → Int32) × (Nat → Int32) × (Nat → Int32) × (Nat → Int32) × (Nat → Int32) × (Nat → Int32) × (Nat → Int64)) => wY_clearDone_4 post (nI np) (nI ns) (nI cp) mr (nI cy) (nI rc) nq n s.1 (nI i) ca ho s.2.1 s.2.2.1 s.2.2.2.1 s.2.2.2.2.1 s.2.2.2.2.2.1 s.2.2.2.2.2.2.1 s.2.2.2.2.2.2.2.1 s.2.2.2.2.2.2.2.2.1 s.2.2.2.2.2.2.2.2.2 rm ync ynh yib) (fun i s => s = (nI (dv_cn (dv_dn st) i), dv_mk (dv_dn st) yse 0 i, dv_mk (dv_dn st) ybu 0 i, dv_mk (dv_dn st) ysc 0 i, dv_mk (dv_dn st) yqt 0 i, dv_mk (dv_dn st) yam 0 i, dv_mk (dv_dn st) st 0 i, dv_mk (dv_dn st) yat 0 i, dv_mk (dv_dn st) ysy (-1) i, dv_mkL (dv_dn st) ysq 0 i)) cp (0, yse, ybu, ysc, yqt, yam, st, yat, ysy, ysq) (by rw [dv_mk_0, dv_mk_0, dv_mk_0, dv_mk_0, dv_mk_0, dv_mk_0, dv_mk_0, dv_mk_0, dv_mkL_0]; rfl) ?_ ?_
  · intro n s hs
    exact br_t (nI_le (Nat.le_refl _) (by omega)) (by rw [hs]; exact h)
  · intro n i s hi hs ih
    subst hs
    have vi : vp_in (nI i) 64 := vp_in_nI (by omega) (by omega)
    have ei : (nI i).toNatClampNeg = i := nI_clamp (by omega)
    have es : dv_mk (dv_dn st) st 0 i (nI i).toNatClampNeg = st i := by rw [ei]; exact dv_mk_at _ _ _ _
    have go : dv_dn st i ≠ 0 → wY_clearDone_42 post (wY_clearDone_4 post (nI np) (nI ns) (nI cp) mr (nI cy) (nI rc) nq n) (nI (dv_cn (dv_dn st) i)) (nI i) (nI np) (nI ns) (nI cp) mr (nI cy) (nI rc) nq ca ho (dv_mk (dv_dn st) yse 0 i) (dv_mk (dv_dn st) ybu 0 i) (dv_mk (dv_dn st) ysc 0 i) (dv_mk (dv_dn st) yqt 0 i) (dv_mk (dv_dn st) yam 0 i) (dv_mk (dv_dn st) st 0 i) (dv_mk (dv_dn st) yat 0 i) (dv_mk (dv_dn st) ysy (-1) i) (dv_mkL (dv_dn st) ysq 0 i) rm ync ynh yib := by
      intro d
      refine ym_cd42 (by omega) ?_
      rw [dv_mk_y d, dv_mk_y d, dv_mk_y d, dv_mk_y d, dv_mk_y d, dv_mk_y d, dv_mk_y d, dv_mk_y d, dv_mkL_y d, nI_1, ← dv_cn_s1 d]
      exact ih (nI (dv_cn (dv_dn st) (i + 1)), dv_mk (dv_dn st) yse 0 (i + 1), dv_mk (dv_dn st) ybu 0 (i + 1), dv_mk (dv_dn st) ysc 0 (i + 1), dv_mk (dv_dn st) yqt 0 (i + 1), dv_mk (dv_dn st) yam 0 (i + 1), dv_mk (dv_dn st) st 0 (i + 1), dv_mk (dv_dn st) yat 0 (i + 1), dv_mk (dv_dn st) ysy (-1) (i + 1), dv_mkL (dv_dn st) ysq 0 (i + 1)) rfl
    have d1 : ∀ c : Int32, c ≠ 0 → c ≠ 1 → st i = c → dv_dn st i ≠ 0 := fun c c0 c1 e => dv_dn_y (by rw [e]; exact c0) (by rw [e]; exact c1)
    refine br_f (nI_ge hi (by omega)) ⟨vi, br_c (fun z => go (d1 2 (by decide) (by decide) (es.symm.trans z))) (fun z2 => ⟨vi, br_c (fun z => go (d1 3 (by decide) (by decide) (es.symm.trans z))) (fun z3 => ⟨vi, br_c (fun z => go (d1 4 (by decide) (by decide) (es.symm.trans z))) (fun z4 => nm_r (nI_1 i) (ih _ ?_))⟩)⟩)⟩
    have d : dv_dn st i = 0 := by
      rcases h5 i with e | e | e | e | e
      · exact dv_dn_n (Or.inl e)
      · exact dv_dn_n (Or.inr e)
      · exact absurd (es.trans e) z2
      · exact absurd (es.trans e) z3
      · exact absurd (es.trans e) z4
    rw [dv_cn_s0 d, dv_mk_n d, dv_mk_n d, dv_mk_n d, dv_mk_n d, dv_mk_n d, dv_mk_n d, dv_mk_n d, dv_mk_n d, dv_mkL_n d]
end
theorem i_vc_clearDone {k : Nat} {u : SX} {v : SY} (I : i_Rel k u v) (hk : k + 5 ≤ 2564) : wpX_clearDone (fun r u' => wpY_clearDone (fun r' v' => r' = r ∧ i_Rel (k + 5) u' v') v) u := by
  obtain ⟨np, ns, cp, cy, rc, mr, nq, ca, ho, st, rm, xse, xbu, xsc, xqt, xam, xat, xsy, xib, xnc, xnh, yse, ybu, ysc, yqt, yam, yat, ysy, yib, ync, ynh, xsq, ysq, rfl, rfl, h1, h2, h3, h4, h5, h6, h7⟩ := I
  have h1' := h1
  obtain ⟨n2, n8, s1, s4, c8, c64, cyk, r64, cy0⟩ := h1
  refine xm_clear c64 (ym_clear c64 h5 ⟨rfl, ?_⟩)
  have hst : ∀ j, dv_mk (dv_dn st) st 0 cp j ≠ 0 → ¬ (j < cp ∧ dv_dn st j ≠ 0) := fun j hj c => hj (dv_mk_ye c)
  have hst2 : ∀ j, dv_mk (dv_dn st) st 0 cp j ≠ 0 → st j ≠ 0 := by
    intro j hj
    have c := hst j hj
    rw [dv_mk_no c] at hj; exact hj
  refine dv_rel (dv_Sz_up h1') h2 h3 h4 ?_ ?_ (dv_Val_st h7 hst2)
  · intro j
    by_cases c : j < cp ∧ dv_dn st j ≠ 0
    · rw [dv_mk_ye c]; exact Or.inl rfl
    · rw [dv_mk_no c]; exact h5 j
  · intro j hj
    have c := hst j hj
    rw [dv_mk_no c, dv_mk_no c, dv_mk_no c, dv_mk_no c, dv_mk_no c, dv_mk_no c, dv_mk_no c, dv_mkL_no c]
    exact h6 j (hst2 j hj)
