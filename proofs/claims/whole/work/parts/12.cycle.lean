section
variable {np ns cp cy rc : Nat} {mr : Int32} {nq : Int64} {ca ho st rm xse xbu xsc xqt xam xat xsy xib xnc xnh yse ybu ysc yqt yam yat ysy yib ync ynh : Nat → Int32} {xsq ysq : Nat → Int64}
theorem dv_run {k : Nat} (h1 : dv_Sz k np ns cp cy rc) (h6 : dv_Ag st xse xbu xsc xqt xam xat xsy xsq yse ybu ysc yqt yam yat ysy ysq) (h7 : dv_Val np ns st xse xbu xsc) :
    ∃ (b' : Nat → Int32) (rc' : Nat) (rm' : Nat → Int32), dv_V cp st b' ∧ rc' ≤ 64 ∧ (∀ k, k < rc' → ∃ j, j < cp ∧ rm' k = nI j ∧ st j = 1) ∧
      (∀ post : SX → Prop, (∀ nc nh, dv_Sp cp ca ho xse xbu xsc xqt xam b' nc nh → post (nI np, nI ns, nI cp, mr, nI rc', nq, nI (cy + 1), ca, ho, st, xse, xbu, xsc, xqt, xam, xat, xsy, xsq, b', nc, nh, rm')) → wpX_removeUntilCovered post (nI np, nI ns, nI cp, mr, nI 0, nq, nI (cy + 1), ca, ho, st, xse, xbu, xsc, xqt, xam, xat, xsy, xsq, dv_bt st cp, xnc, xnh, rm)) ∧
      (∀ post : Int32 → SY → Prop, (∃ n, wY_cycle_184 post (nI (cy + 1)) (nI np) (nI ns) (nI cp) mr (nI (cy + 1)) (nI rc') nq n 0 ca ho yse ybu ysc yqt yam st yat ysy ysq rm' ync ynh b') → ∃ n, wY_cycle_65 post (nI (cy + 1)) (nI np) (nI ns) (nI cp) mr (nI (cy + 1)) nq n 0 (nI 0) ca ho yse ybu ysc yqt yam st yat ysy ysq rm ync ynh (dv_bt st cp)) := by
  obtain ⟨n2, n8, s1, s4, c8, c64, cyk, r64, cy0⟩ := h1
  have hcn : dv_cn (dv_bt st cp) cp ≤ cp := dv_cn_le _ _
  obtain ⟨b', rc', rm', g1, g2, g3, gX, gY⟩ := dv_lock (ι := SX → Prop) (κ := Int32 → SY → Prop) cp c64
    (fun b => dv_D np ns cp ca ho xse xbu xsc xqt xam b)
    (fun b => dv_P cp ca ho xse xbu xsc xqt xam xsq (dv_D np ns cp ca ho xse xbu xsc xqt xam b) b)
    (fun b nc nh => dv_Sp cp ca ho xse xbu xsc xqt xam b nc nh)
    (fun post n i b rc rm nc nh => wX_removeUntilCovered_2 post n (nI i) (nI np) (nI ns) (nI cp) mr (nI rc) nq (nI (cy + 1)) ca ho st xse xbu xsc xqt xam xat xsy xsq b nc nh rm)
    (fun post b rc rm nc nh => post (nI np, nI ns, nI cp, mr, nI rc, nq, nI (cy + 1), ca, ho, st, xse, xbu, xsc, xqt, xam, xat, xsy, xsq, b, nc, nh, rm))
    (fun post n i b rc rm => wY_cycle_65 post (nI (cy + 1)) (nI np) (nI ns) (nI cp) mr (nI (cy + 1)) nq n (nI i) (nI rc) ca ho yse ybu ysc yqt yam st yat ysy ysq rm ync ynh b)
    (fun post b rc rm => ∃ n, wY_cycle_184 post (nI (cy + 1)) (nI np) (nI ns) (nI cp) mr (nI (cy + 1)) (nI rc) nq n 0 ca ho yse ybu ysc yqt yam st yat ysy ysq rm ync ynh b)
    (dv_V cp st) (fun j => st j = 1)
    (fun b j h => dv_V_upd j h) (fun b j h hj => (h j hj).2) (fun b _ => dv_pk_in b _ _ cp)
    (fun q n b rc rm nc nh h => xm_round_e c64 h)
    (fun q n i b rc rm nc nh hV hi hr H => xm_round n8 s4 c64 hr hi (dv_V_val hV h7) H)
    (fun q n i b rc rm hV hi hr hs hg => by
      have A : ∀ j, b j ≠ 0 → xse j = yse j ∧ xbu j = ybu j ∧ xsc j = ysc j ∧ xqt j = yqt j ∧ xam j = yam j ∧ xsq j = ysq j := by
        intro j hj
        obtain ⟨e1, e2, e3, e4, e5, _, _, e8⟩ := h6 j (dv_V_st hV hj)
        exact ⟨e1, e2, e3, e4, e5, e8⟩
      have eD : dv_D np ns cp ca ho xse xbu xsc xqt xam b = dv_D np ns cp ca ho yse ybu ysc yqt yam b := dv_D_congr (fun j hj => ⟨(A j hj).1, (A j hj).2.1, (A j hj).2.2.1, (A j hj).2.2.2.1, (A j hj).2.2.2.2.1⟩)
      have eP : ∀ d, dv_P cp ca ho xse xbu xsc xqt xam xsq d b = dv_P cp ca ho yse ybu ysc yqt yam ysq d b := fun d => dv_P_congr (by omega) A
      rw [eP, eD] at hs hg
      exact ym_round n8 s4 c64 hr hi (dv_V_val hV (dv_Val_y h6 h7)) hs hg)
    65 (dv_bt st cp) 0 rm dv_V_bt (by omega) (fun k hk => absurd hk (by omega)) (by omega)
  refine ⟨b', rc', rm', g1, g2, g3, ?_, ?_⟩
  · intro post H
    exact ⟨cp + 2, gX post 0 (cp + 2) xnc xnh (by omega) (by omega) H⟩
  · intro post H
    exact ⟨67, gY post 0 67 (by omega) (by omega) H⟩
end
theorem i_vc_cycle {k : Nat} {u : SX} {v : SY} (I : i_Rel k u v) (hk : k + 5 ≤ 2564) : wpX_cycle (fun r u' => wpY_cycle (fun r' v' => r' = r ∧ i_Rel (k + 5) u' v') v) u := by
  obtain ⟨np, ns, cp, cy, rc, mr, nq, ca, ho, st, rm, xse, xbu, xsc, xqt, xam, xat, xsy, xib, xnc, xnh, yse, ybu, ysc, yqt, yam, yat, ysy, yib, ync, ynh, xsq, ysq, rfl, rfl, h1, h2, h3, h4, h5, h6, h7⟩ := I
  have h1' := h1
  obtain ⟨n2, n8, s1, s4, c8, c64, cyk, r64, cy0⟩ := h1
  obtain ⟨b', rc', rm', hV, h64, hR, gX, gY⟩ := dv_run (mr := mr) (nq := nq) (ca := ca) (ho := ho) (rm := rm) (xnc := xnc) (xnh := xnh) (ync := ync) (ynh := ynh) h1' h6 h7
  have hR' : ∀ k, k < rc' → ∃ j, j < 64 ∧ rm' k = nI j := by
    intro i hi
    obtain ⟨j, hj, e, _⟩ := hR i hi
    exact ⟨j, by omega, e⟩
  have hVy : dv_Val np ns b' yse ybu ysc := dv_V_val hV (dv_Val_y h6 h7)
  unfold wpX_cycle wpY_cycle
  refine nm_r (nI_1 cy) (xm_gather (rc := 0) c64 h4.1 (gX _ (fun nc nh hS => xm_take (xm_mark c64 (xm_recycle h64 hR' ?_)))))
  refine nm_r (nI_1 cy) (ym_c22 (rc := 0) c64 h4.2 (gY _ (ym_c184 n8 s4 c64 hVy (fun nc2 nh2 hN hH => ym_c243 (ym_c289 c64 (ym_c338 h64 hR' ⟨rfl, ?_⟩))))))
  exact dv_fin h1' h2 h3 h5 h6 h7 hV h64 hR hS hN hH
