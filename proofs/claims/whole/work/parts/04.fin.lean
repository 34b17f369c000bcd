/-! the relation after a cycle -/
section
variable {k np ns cp cy rc : Nat} {mr : Int32} {nq : Int64} {ca ho st rm xse xbu xsc xqt xam xat xsy xib xnc xnh yse ybu ysc yqt yam yat ysy yib ync ynh : Nat → Int32} {xsq ysq : Nat → Int64}
/-- a batch holds queued slots alone -/
def dv_V (cp : Nat) (st b : Nat → Int32) : Prop := ∀ j, b j ≠ 0 → j < cp ∧ st j = 1
theorem dv_1 : (1 : Int32) ≠ 0 := by decide
theorem dv_V_upd {b : Nat → Int32} (j : Nat) (h : dv_V cp st b) : dv_V cp st (upd b j 0) := by
  intro i hi
  by_cases e : i = j
  · rw [e, pk_us] at hi; exact absurd rfl hi
  · rw [pk_un e] at hi; exact h i hi
theorem dv_V_bt : dv_V cp st (dv_bt st cp) := by
  intro j hj
  by_cases c : j < cp ∧ st j = 1
  · exact c
  · exact absurd (if_neg c) hj
theorem dv_V_st {b : Nat → Int32} (h : dv_V cp st b) {j : Nat} (hj : b j ≠ 0) : st j ≠ 0 := by
  rw [(h j hj).2]; exact dv_1
theorem dv_V_val {b : Nat → Int32} (h : dv_V cp st b) (h7 : dv_Val np ns st xse xbu xsc) : dv_Val np ns b xse xbu xsc := fun j hj => h7 j (dv_V_st h hj)
theorem dv_Val_y (h6 : dv_Ag st xse xbu xsc xqt xam xat xsy xsq yse ybu ysc yqt yam yat ysy ysq) (h7 : dv_Val np ns st xse xbu xsc) : dv_Val np ns st yse ybu ysc := by
  intro j hj
  obtain ⟨A, B, C, g1, g2, g3, g4, g5, g6, g7⟩ := h7 j hj
  obtain ⟨e1, e2, e3, _⟩ := h6 j hj
  exact ⟨A, B, C, g1, g2, g3, g4, e1.symm.trans g5, e2.symm.trans g6, e3.symm.trans g7⟩
/-- nets over a batch -/
def dv_Sp (cp : Nat) (ca ho se bu sc qt am b nc nh : Nat → Int32) : Prop := (∀ p, p < 8 → nc p = dv_nc ca b se bu am p cp) ∧ (∀ p s, p < 8 → s < 4 → nh (p * 4 + s) = dv_nh ho b se bu sc qt p s cp)
theorem dv_fin_st {b' rm' f : Nat → Int32} {rc' : Nat} (hV : dv_V cp st b') (hR : ∀ k, k < rc' → ∃ j, j < cp ∧ rm' k = nI j ∧ st j = 1) (hcp : cp ≤ 64) :
    ∀ j, dv_fs rm' f (dv_mk b' st 2 cp) mr rc' j ≠ 0 → st j ≠ 0 := by
  intro j hj
  rcases dv_fs_or rm' f (dv_mk b' st 2 cp) mr j rc' with e | ⟨_, i, hi, e⟩
  · rw [e] at hj
    by_cases c : j < cp ∧ b' j ≠ 0
    · exact dv_V_st hV c.2
    · rw [dv_mk_no c] at hj; exact hj
  · obtain ⟨l, hl, e2, e3⟩ := hR i hi
    rw [e2, nI_clamp (by omega)] at e
    rw [e, e3]; exact dv_1
theorem dv_fin_St {b' rm' f : Nat → Int32} {rc' : Nat} (h5 : dv_St st) : dv_St (dv_fs rm' f (dv_mk b' st 2 cp) mr rc') := by
  intro j
  rcases dv_fs_or rm' f (dv_mk b' st 2 cp) mr j rc' with e | ⟨e, _⟩
  · rw [e]
    by_cases c : j < cp ∧ b' j ≠ 0
    · rw [dv_mk_ye c]; exact Or.inr (Or.inr (Or.inl rfl))
    · rw [dv_mk_no c]; exact h5 j
  · rw [e]; exact Or.inr (Or.inr (Or.inr (Or.inr rfl)))
theorem dv_fin_ca {b' nc nh nc2 : Nat → Int32} (n8 : np ≤ 8) (h2 : dv_Z np ns ca ho) (h3 : dv_Z np ns ync ynh) (h6 : ∀ j, b' j ≠ 0 → xse j = yse j ∧ xbu j = ybu j ∧ xam j = yam j) (h7 : dv_Val np ns b' xse xbu xsc)
    (hS : dv_Sp cp ca ho xse xbu xsc xqt xam b' nc nh) (hN : nc2 = dv_cpy (fun p => dv_nc ca b' yse ybu yam p cp) ync np) : dv_cpy nc2 ca 8 = dv_cpy nc ca 8 := by
  funext j
  by_cases c : j < 8
  · rw [dv_cpy_lt c, dv_cpy_lt c, hS.1 j c, hN]
    by_cases d : j < np
    · rw [dv_cpy_lt d]
      exact (dv_nc_congr h6 j cp).symm
    · rw [dv_cpy_ge d, h3.1 j (by omega), dv_nc_out n8 h7 (by omega) c cp, h2.1 j (by omega)]
  · rw [dv_cpy_ge c, dv_cpy_ge c]
theorem dv_fin_ho {b' nc nh nh2 : Nat → Int32} (n8 : np ≤ 8) (s4 : ns ≤ 4) (h2 : dv_Z np ns ca ho) (h3 : dv_Z np ns ync ynh) (h6 : ∀ j, b' j ≠ 0 → xse j = yse j ∧ xbu j = ybu j ∧ xsc j = ysc j ∧ xqt j = yqt j) (h7 : dv_Val np ns b' xse xbu xsc)
    (hS : dv_Sp cp ca ho xse xbu xsc xqt xam b' nc nh) (hN : dv_Hs (fun p s => dv_nh ho b' yse ybu ysc yqt p s cp) ynh ns np 0 nh2) : dv_cpy nh2 ho 32 = dv_cpy nh ho 32 := by
  funext j
  by_cases c : j < 32
  · obtain ⟨p, s, hs, rfl⟩ : ∃ p s, s < 4 ∧ j = p * 4 + s := ⟨j / 4, j % 4, by omega, by omega⟩
    have hp : p < 8 := by omega
    rw [dv_cpy_lt c, dv_cpy_lt c, hS.2 p s hp hs, hN p s hs]
    by_cases d : p < np ∧ s < ns
    · rw [if_pos (by omega)]
      exact (dv_nh_congr h6 p s cp).symm
    · rw [if_neg (by omega), h3.2 p s hs (by omega), dv_nh_out n8 s4 h7 (by omega) hp hs cp, h2.2 p s hs (by omega)]
  · rw [dv_cpy_ge c, dv_cpy_ge c]
theorem dv_fin_Z {b' nc nh : Nat → Int32} (n8 : np ≤ 8) (s4 : ns ≤ 4) (h2 : dv_Z np ns ca ho) (h7 : dv_Val np ns b' xse xbu xsc) (hS : dv_Sp cp ca ho xse xbu xsc xqt xam b' nc nh) : dv_Z np ns (dv_cpy nc ca 8) (dv_cpy nh ho 32) := by
  constructor
  · intro p hp
    by_cases c : p < 8
    · rw [dv_cpy_lt c, hS.1 p c, dv_nc_out n8 h7 hp c cp, h2.1 p hp]
    · rw [dv_cpy_ge c, h2.1 p hp]
  · intro p s hs hp
    by_cases c : p < 8
    · rw [dv_cpy_lt (by omega), hS.2 p s c hs, dv_nh_out n8 s4 h7 hp c hs cp, h2.2 p s hs hp]
    · rw [dv_cpy_ge (by omega), h2.2 p s hs hp]
theorem dv_fin_Z2 {N nc2 nh2 : Nat → Int32} {NH : Nat → Nat → Int32} (h3 : dv_Z np ns ync ynh) (hN : nc2 = dv_cpy N ync np) (hH : dv_Hs NH ynh ns np 0 nh2) : dv_Z np ns nc2 nh2 := by
  constructor
  · intro p hp
    rw [hN, dv_cpy_ge (by omega), h3.1 p hp]
  · intro p s hs hp
    rw [hH p s hs, if_neg (by omega), h3.2 p s hs hp]
theorem dv_fin {b' rm' nc nh nc2 nh2 : Nat → Int32} {rc' : Nat} (h1 : dv_Sz k np ns cp cy rc) (h2 : dv_Z np ns ca ho) (h3 : dv_Z np ns ync ynh) (h5 : dv_St st)
    (h6 : dv_Ag st xse xbu xsc xqt xam xat xsy xsq yse ybu ysc yqt yam yat ysy ysq) (h7 : dv_Val np ns st xse xbu xsc)
    (hV : dv_V cp st b') (h64 : rc' ≤ 64) (hR : ∀ k, k < rc' → ∃ j, j < cp ∧ rm' k = nI j ∧ st j = 1)
    (hS : dv_Sp cp ca ho xse xbu xsc xqt xam b' nc nh) (hN : nc2 = dv_cpy (fun p => dv_nc ca b' yse ybu yam p cp) ync np)
    (hH : dv_Hs (fun p s => dv_nh ho b' yse ybu ysc yqt p s cp) ynh ns np 0 nh2) :
    i_Rel (k + 5) (nI np, nI ns, nI cp, mr, nI rc', nq, nI (cy + 1), dv_cpy nc ca 8, dv_cpy nh ho 32, dv_fs rm' xat (dv_mk b' st 2 cp) mr rc', xse, xbu, xsc, xqt, xam, dv_at rm' xat rc', dv_mk b' xsy (nI (cy + 1)) cp, xsq, b', nc, nh, rm')
      (nI np, nI ns, nI cp, mr, nI (cy + 1), nI rc', nq, dv_cpy nc2 ca 8, dv_cpy nh2 ho 32, yse, ybu, ysc, yqt, yam, dv_fs rm' yat (dv_mk b' st 2 cp) mr rc', dv_at rm' yat rc', dv_mk b' ysy (nI (cy + 1)) cp, ysq, rm', nc2, nh2, dv_mk b' b' 0 cp) := by
  obtain ⟨n2, n8, s1, s4, c8, c64, cyk, r64, cy0⟩ := h1
  have hVv := dv_V_val hV h7
  have A : ∀ j, b' j ≠ 0 → xse j = yse j ∧ xbu j = ybu j ∧ xsc j = ysc j ∧ xqt j = yqt j ∧ xam j = yam j := by
    intro j hj
    obtain ⟨e1, e2, e3, e4, e5, _⟩ := h6 j (dv_V_st hV hj)
    exact ⟨e1, e2, e3, e4, e5⟩
  have eC : dv_cpy nc2 ca 8 = dv_cpy nc ca 8 := dv_fin_ca n8 h2 h3 (fun j hj => ⟨(A j hj).1, (A j hj).2.1, (A j hj).2.2.2.2⟩) hVv hS hN
  have eH : dv_cpy nh2 ho 32 = dv_cpy nh ho 32 := dv_fin_ho n8 s4 h2 h3 (fun j hj => ⟨(A j hj).1, (A j hj).2.1, (A j hj).2.2.1, (A j hj).2.2.2.1⟩) hVv hS hH
  have eS : dv_fs rm' yat (dv_mk b' st 2 cp) mr rc' = dv_fs rm' xat (dv_mk b' st 2 cp) mr rc' := by
    refine dv_fs_congr (fun i hi => ?_)
    obtain ⟨l, hl, e2, e3⟩ := hR i hi
    rw [e2, nI_clamp (by omega)]
    exact (h6 l (by rw [e3]; exact dv_1)).2.2.2.2.2.1.symm
  rw [eC, eH, eS]
  have hst : ∀ j, dv_fs rm' xat (dv_mk b' st 2 cp) mr rc' j ≠ 0 → st j ≠ 0 := dv_fin_st hV hR c64
  refine dv_rel ⟨n2, n8, s1, s4, c8, c64, by omega, h64, fun h => by omega⟩ (dv_fin_Z n8 s4 h2 hVv hS) (dv_fin_Z2 h3 hN hH) ⟨?_, ?_⟩ (dv_fin_St h5) ?_ (dv_Val_st h7 hst)
  · intro j hj
    by_cases c : b' j = 0
    · exact c
    · have := (hV j c).1
      omega
  · intro j hj
    rw [dv_mk_no (by omega)]
    by_cases c : b' j = 0
    · exact c
    · have := (hV j c).1
      omega
  · intro j hj
    obtain ⟨e1, e2, e3, e4, e5, e6, e7, e8⟩ := h6 j (hst j hj)
    refine ⟨e1, e2, e3, e4, e5, dv_at_congr e6 rc', ?_, e8⟩
    by_cases c : j < cp ∧ b' j ≠ 0
    · rw [dv_mk_ye c, dv_mk_ye c]
    · rw [dv_mk_no c, dv_mk_no c]; exact e7
end
