section
variable {np ns cp cy rc : Nat} {mr : Int32} {nq : Int64} {ca ho st rm xse xbu xsc xqt xam xat xsy xib xnc xnh yse ybu ysc yqt yam yat ysy yib ync ynh : Nat → Int32} {xsq ysq : Nat → Int64}
theorem ym_c338 {post : Int32 → SY → Prop} {x2 : Int32} (r64 : rc ≤ 64) (hR : ∀ k, k < rc → ∃ j, j < 64 ∧ rm k = nI j) (h : post x2 (nI np, nI ns, nI cp, mr, nI cy, nI rc, nq, ca, ho, yse, ybu, ysc, yqt, yam, dv_fs rm yat st mr rc, dv_at rm yat rc, ysy, ysq, rm, ync, ynh, yib)) : ∃ n, wY_cycle_338 post x2 (nI np) (nI ns) (nI cp) mr (nI cy) (nI rc) nq n 0 ca ho yse ybu ysc yqt yam st yat ysy ysq rm ync ynh yib := by
  refine loop_0 (fun n i (s : (Nat → Int32) × (Nat → Int32)) => wY_cycle_338 post x2 (nI np) (nI ns) (nI cp) mr (nI cy) (nI rc) nq n (nI i) ca ho yse ybu ysc yqt yam s.1 s.2 ysy ysq rm ync ynh yib) (fun i s => s = (dv_fs rm yat st mr i, dv_at rm yat i)) rc (st, yat) rfl ?_ ?_
  · intro n s hs
    exact br_t (nI_le (Nat.le_refl _) (by omega)) (by rw [hs]; exact h)
  · intro n i s hi hs ih
    subst hs
    have vi : vp_in (nI i) 64 := vp_in_nI (by omega) (by omega)
    have ei : (nI i).toNatClampNeg = i := nI_clamp (by omega)
    obtain ⟨j, hj, ej⟩ := hR i hi
    have vj : vp_in (rm i) 64 := by rw [ej]; exact vp_in_nI hj (by omega)
    refine br_f (nI_ge hi (by omega)) ⟨vi, nm_r (e' := rm i) (by rw [ei]) ⟨vj, vj, nm_r (e' := dv_at rm yat (i + 1)) rfl ⟨vj, br_c (fun z => nm_r (nI_1 i) (ih (dv_fs rm yat st mr i, dv_at rm yat (i + 1)) ?_)) (fun z => ⟨vj, nm_r (e' := dv_fs rm yat st mr (i + 1)) ?_ (nm_r (nI_1 i) (ih _ rfl))⟩)⟩⟩⟩
    · have e : dv_fs rm yat st mr (i + 1) = dv_fs rm yat st mr i := if_pos z
      rw [e]
    · exact (if_neg z).symm
theorem ym_c289 {post : Int32 → SY → Prop} {x1 : Int32} (c64 : cp ≤ 64)
    (h : ∃ n, wY_cycle_338 post (nI (dv_cn yib cp)) (nI np) (nI ns) (nI cp) mr (nI cy) (nI rc) nq n 0 ca ho yse ybu ysc yqt yam (dv_mk yib st 2 cp) yat (dv_mk yib ysy x1 cp) ysq rm ync ynh (dv_mk yib yib 0 cp)) : ∃ n, wY_cycle_289 post x1 (nI np) (nI ns) (nI cp) mr (nI cy) (nI rc) nq n 0 0 ca ho yse ybu ysc yqt yam st yat ysy ysq rm ync ynh yib := by
  refine loop_0 (fun n i (s : Int32 × (Nat → Int32) × (Nat → Int32) × (Nat → Int32)) => wY_cycle_289 post x1 (nI np) (nI ns) (nI cp) mr (nI cy) (nI rc) nq n s.1 (nI i) ca ho yse ybu ysc yqt yam s.2.1 yat s.2.2.1 ysq rm ync ynh s.2.2.2) (fun i s => s = (nI (dv_cn yib i), dv_mk yib st 2 i, dv_mk yib ysy x1 i, dv_mk yib yib 0 i)) cp (0, st, ysy, yib) (by rw [dv_mk_0, dv_mk_0, dv_mk_0]; rfl) ?_ ?_
  · intro n s hs
    exact br_t (nI_le (Nat.le_refl _) (by omega)) (by rw [hs]; exact h)
  · intro n i s hi hs ih
    subst hs
    have vi : vp_in (nI i) 64 := vp_in_nI (by omega) (by omega)
    have ei : (nI i).toNatClampNeg = i := nI_clamp (by omega)
    refine br_f (nI_ge hi (by omega)) ⟨vi, br_c (fun z => nm_r (nI_1 i) (ih _ ?_)) (fun z => ⟨vi, nm_r (e' := dv_mk yib st 2 (i + 1)) ?_ ⟨vi, nm_r (e' := dv_mk yib ysy x1 (i + 1)) ?_ (nm_r (e' := nI (dv_cn yib (i + 1))) ?_ ⟨vi, nm_r (e' := dv_mk yib yib 0 (i + 1)) ?_ (nm_r (nI_1 i) (ih _ rfl))⟩)⟩⟩)⟩
    · have z' : yib i = 0 := by rw [ei] at z; exact (dv_mk_at yib yib 0 i).symm.trans z
      rw [dv_cn_s0 z', dv_mk_n z', dv_mk_n z', dv_mk_n z']
    · have z' : yib i ≠ 0 := by rw [ei] at z; exact fun e => z ((dv_mk_at yib yib 0 i).trans e)
      rw [ei]; exact dv_mk_y z'
    · have z' : yib i ≠ 0 := by rw [ei] at z; exact fun e => z ((dv_mk_at yib yib 0 i).trans e)
      rw [ei]; exact dv_mk_y z'
    · have z' : yib i ≠ 0 := by rw [ei] at z; exact fun e => z ((dv_mk_at yib yib 0 i).trans e)
      rw [dv_cn_s1 z']; exact nI_1 _
    · have z' : yib i ≠ 0 := by rw [ei] at z; exact fun e => z ((dv_mk_at yib yib 0 i).trans e)
      rw [ei, dv_nb0]; exact dv_mk_y z'
theorem ym_c267 {post : Int32 → SY → Prop} {J : Int32 → (Nat → Int32) → (Nat → Int32) → (Nat → Int32) → (Nat → Int32) → (Nat → Int32) → (Nat → Int32) → (Nat → Int32) → (Nat → Int32) → (Nat → Int32) → (Nat → Int32) → (Nat → Int64) → (Nat → Int32) → (Nat → Int32) → (Nat → Int32) → (Nat → Int32) → Prop} {x1 : Int32} {i : Nat} (hi : i < 32)
    (h : J (nI (i + 1)) ca (upd ho i (ynh i)) yse ybu ysc yqt yam st yat ysy ysq rm ync ynh yib) : wY_cycle_267 post J x1 (nI i) (nI np) (nI ns) (nI cp) mr (nI cy) (nI rc) nq ca ho yse ybu ysc yqt yam st yat ysy ysq rm ync ynh yib := by
  have vi : vp_in (nI i) 32 := vp_in_nI hi (by omega)
  unfold wY_cycle_267
  rw [nI_clamp (n := i) (by omega)]
  exact ⟨vi, vi, nm_e (nm_r (nI_1 i) h)⟩
theorem ym_c243 {post : Int32 → SY → Prop} {x1 : Int32} (h : ∃ n, wY_cycle_289 post x1 (nI np) (nI ns) (nI cp) mr (nI cy) (nI rc) nq n 0 0 (dv_cpy ync ca 8) (dv_cpy ynh ho 32) yse ybu ysc yqt yam st yat ysy ysq rm ync ynh yib) : ∃ n, wY_cycle_243 post x1 (nI np) (nI ns) (nI cp) mr (nI cy) (nI rc) nq n 0 ca ho yse ybu ysc yqt yam st yat ysy ysq rm ync ynh yib := by
  refine loop_0 (fun n i (s : (Nat → Int32) × (Nat → Int32)) => wY_cycle_243 post x1 (nI np) (nI ns) (nI cp) mr (nI cy) (nI rc) nq n (nI i) s.1 s.2 yse ybu ysc yqt yam st yat ysy ysq rm ync ynh yib) (fun i s => s = (dv_cpy ync ca (if i < 8 then i else 8), dv_cpy ynh ho i)) 32 (ca, ho) (by rw [if_pos (by omega), dv_cpy_0, dv_cpy_0]) ?_ ?_
  · intro n s hs
    exact br_t (nI_le (a := 32) (Nat.le_refl _) (by omega)) (by rw [hs, if_neg (by omega)]; exact h)
  · intro n i s hi hs ih
    have ei : (nI i).toNatClampNeg = i := nI_clamp (by omega)
    refine br_f (nI_ge (b := 32) hi (by omega)) (br_c (fun z => ym_c267 hi (ih (s.1, upd s.2 i (ynh i)) ?_)) (fun z => ?_))
    · have h8 : 8 ≤ i := (nI_leI (a := 8) (b := i) (by omega) (by omega)).mp z
      rw [hs, if_neg (by omega), if_neg (by omega)]
      exact congrArg (fun x => (dv_cpy ync ca 8, x)) (dv_cpy_s ynh ho i)
    · have h8 : i < 8 := by
        have h9 : ¬ 8 ≤ i := fun h => z ((nI_leI (a := 8) (b := i) (by omega) (by omega)).mpr h)
        omega
      have vi : vp_in (nI i) 8 := vp_in_nI h8 (by omega)
      refine ⟨vi, vi, nm_r (e' := dv_cpy ync ca (i + 1)) ?_ (ym_c267 hi (ih (dv_cpy ync ca (i + 1), upd s.2 i (ynh i)) ?_))⟩
      · rw [hs, ei, if_pos h8, ← dv_cpy_s]
      · rw [hs]
        have e : (if i + 1 < 8 then i + 1 else 8) = i + 1 := by
          by_cases c : i + 1 < 8
          · rw [if_pos c]
          · rw [if_neg c]; omega
        rw [e]
        exact congrArg (fun x => (dv_cpy ync ca (i + 1), x)) (dv_cpy_s ynh ho i)
theorem ym_c205 {post : Int32 → SY → Prop} {J : Int32 → (Nat → Int32) → (Nat → Int32) → (Nat → Int32) → (Nat → Int32) → (Nat → Int32) → (Nat → Int32) → (Nat → Int32) → (Nat → Int32) → (Nat → Int32) → (Nat → Int32) → (Nat → Int64) → (Nat → Int32) → (Nat → Int32) → (Nat → Int32) → (Nat → Int32) → Prop} {x1 : Int32} {p : Nat} {y0 : Nat → Int32}
    (n8 : np ≤ 8) (s4 : ns ≤ 4) (c64 : cp ≤ 64) (hp : p < 8) (hV : dv_Val np ns yib yse ybu ysc) (h0 : dv_Hs (fun p s => dv_nh ho yib yse ybu ysc yqt p s cp) y0 ns p 0 ynh)
    (h : ∀ nh, dv_Hs (fun p s => dv_nh ho yib yse ybu ysc yqt p s cp) y0 ns (p + 1) 0 nh → J (nI (p + 1)) ca ho yse ybu ysc yqt yam st yat ysy ysq rm ync nh yib) : ∃ n, wY_cycle_205 post J x1 (nI p) (nI np) (nI ns) (nI cp) mr (nI cy) (nI rc) nq n 0 ca ho yse ybu ysc yqt yam st yat ysy ysq rm ync ynh yib := by
  refine loop_0 (fun n i (b : Nat → Int32) => wY_cycle_205 post J x1 (nI p) (nI np) (nI ns) (nI cp) mr (nI cy) (nI rc) nq n (nI i) ca ho yse ybu ysc yqt yam st yat ysy ysq rm ync b yib) (fun i b => dv_Hs (fun p s => dv_nh ho yib yse ybu ysc yqt p s cp) y0 ns p i b) ns ynh h0 ?_ ?_
  · intro n b hb
    exact br_t (nI_le (Nat.le_refl _) (by omega)) (nm_r (nI_1 p) (h b (dv_Hs_n hb)))
  · intro n i b hi hb ih
    refine br_f (nI_ge hi (by omega)) (ym_nh n8 c64 hp (by omega) hV ⟨by rw [dv_hx]; exact vp_in_nI (by omega) (by omega), nm_r (e' := upd b (p * 4 + i) (dv_nh ho yib yse ybu ysc yqt p i cp)) (by rw [dv_hx, nI_clamp (by omega)]) (nm_r (nI_1 i) (ih _ (dv_Hs_s hi s4 hb)))⟩)
theorem ym_c184 {post : Int32 → SY → Prop} {x1 : Int32} (n8 : np ≤ 8) (s4 : ns ≤ 4) (c64 : cp ≤ 64) (hV : dv_Val np ns yib yse ybu ysc)
    (h : ∀ nc nh, nc = dv_cpy (fun p => dv_nc ca yib yse ybu yam p cp) ync np → dv_Hs (fun p s => dv_nh ho yib yse ybu ysc yqt p s cp) ynh ns np 0 nh → ∃ n, wY_cycle_243 post x1 (nI np) (nI ns) (nI cp) mr (nI cy) (nI rc) nq n 0 ca ho yse ybu ysc yqt yam st yat ysy ysq rm nc nh yib) : ∃ n, wY_cycle_184 post x1 (nI np) (nI ns) (nI cp) mr (nI cy) (nI rc) nq n 0 ca ho yse ybu ysc yqt yam st yat ysy ysq rm ync ynh yib := by
  refine loop_0 (fun n i (s : (Nat → Int32) × (Nat → Int32)) => wY_cycle_184 post x1 (nI np) (nI ns) (nI cp) mr (nI cy) (nI rc) nq n (nI i) ca ho yse ybu ysc yqt yam st yat ysy ysq rm s.1 s.2 yib) (fun i s => s.1 = dv_cpy (fun p => dv_nc ca yib yse ybu yam p cp) ync i ∧ dv_Hs (fun p s => dv_nh ho yib yse ybu ysc yqt p s cp) ynh ns i 0 s.2) np (ync, ynh) ⟨(dv_cpy_0 _ _).symm, dv_Hs_0 _ _ _⟩ ?_ ?_
  · intro n s hs
    exact br_t (nI_le (Nat.le_refl _) (by omega)) (h s.1 s.2 hs.1 hs.2)
  · intro n i s hi hs ih
    refine br_f (nI_ge hi (by omega)) (ym_nc n8 c64 (by omega) hV ⟨vp_in_nI (by omega) (by omega), nm_r (e' := dv_cpy (fun p => dv_nc ca yib yse ybu yam p cp) ync (i + 1)) ?_ (ym_c205 n8 s4 c64 (by omega) hV hs.2 (fun nh hn => ih (_, nh) ⟨rfl, hn⟩))⟩)
    rw [hs.1, nI_clamp (by omega)]
    exact dv_cpy_s (fun p => dv_nc ca yib yse ybu yam p cp) ync i
/-- one round of the reference -/
theorem ym_round {post : Int32 → SY → Prop} {x1 : Int32} {n i : Nat} (n8 : np ≤ 8) (s4 : ns ≤ 4) (c64 : cp ≤ 64) (r64 : rc ≤ 64) (hi : i < 66) (hV : dv_Val np ns yib yse ybu ysc)
    (h1 : (dv_D np ns cp ca ho yse ybu ysc yqt yam yib = -1 ∨ dv_P cp ca ho yse ybu ysc yqt yam ysq (dv_D np ns cp ca ho yse ybu ysc yqt yam yib) yib = -1 ∨ 64 ≤ rc) → ∃ n, wY_cycle_184 post x1 (nI np) (nI ns) (nI cp) mr (nI cy) (nI rc) nq n 0 ca ho yse ybu ysc yqt yam st yat ysy ysq rm ync ynh yib)
    (h2 : dv_D np ns cp ca ho yse ybu ysc yqt yam yib ≠ -1 → rc < 64 → ∀ j, j < cp → dv_P cp ca ho yse ybu ysc yqt yam ysq (dv_D np ns cp ca ho yse ybu ysc yqt yam yib) yib = nI j →
      wY_cycle_65 post x1 (nI np) (nI ns) (nI cp) mr (nI cy) nq n (nI (i + 1)) (nI (rc + 1)) ca ho yse ybu ysc yqt yam st yat ysy ysq (upd rm rc (nI j)) ync ynh (upd yib j 0)) :
    wY_cycle_65 post x1 (nI np) (nI ns) (nI cp) mr (nI cy) nq (n + 1) (nI i) (nI rc) ca ho yse ybu ysc yqt yam st yat ysy ysq rm ync ynh yib := by
  refine br_f (nI_ge (b := 66) hi (by omega)) ?_
  refine loop_0 (fun m q (s : Int32 × Int32) => wY_cycle_79 post (wY_cycle_65 post x1 (nI np) (nI ns) (nI cp) mr (nI cy) nq n) x1 (nI i) (nI np) (nI ns) (nI cp) mr (nI cy) (nI rc) nq ca ho yse ybu ysc yqt yam st yat ysy ysq rm ync ynh yib m s.1 s.2 (nI q)) (fun q s => s = dv_db (fun p => dv_df (dv_nc ca yib yse ybu yam p cp) (fun s => dv_nh ho yib yse ybu ysc yqt p s cp) ns) q) np (-1, 0) rfl ?_ ?_
  · intro m s hs
    have eD : s.1 = dv_D np ns cp ca ho yse ybu ysc yqt yam yib := by rw [hs]; rfl
    refine br_t (nI_le (Nat.le_refl _) (by omega)) ?_
    rw [eD]
    have hin := dv_db_in (fun p => dv_df (dv_nc ca yib yse ybu yam p cp) (fun s => dv_nh ho yib yse ybu ysc yqt p s cp) ns) np
    refine br_c (fun z => ?_) (fun z => h1 (Or.inl ?_))
    · obtain ⟨D, hD, eD2⟩ : ∃ D, D < 8 ∧ dv_D np ns cp ca ho yse ybu ysc yqt yam yib = nI D := by
        rcases hin with e | ⟨j, hj, e⟩
        · have e' : dv_D np ns cp ca ho yse ybu ysc yqt yam yib = -1 := e
          rw [e'] at z
          exact absurd z (by decide)
        · exact ⟨j, by omega, e⟩
      have zn : dv_D np ns cp ca ho yse ybu ysc yqt yam yib ≠ -1 := by rw [eD2]; exact dv_m1 (by omega)
      rw [eD2] at h1 h2 zn ⊢
      refine ym_pick n8 s4 c64 hD hV ?_
      have hpin : dv_P cp ca ho yse ybu ysc yqt yam ysq (nI D) yib = -1 ∨ ∃ j, j < cp ∧ dv_P cp ca ho yse ybu ysc yqt yam ysq (nI D) yib = nI j := by
        rcases dv_pk_in yib (dv_ok (nI D) (dv_nc ca yib yse ybu yam (nI D).toNatClampNeg cp) (fun s => dv_nh ho yib yse ybu ysc yqt (nI D).toNatClampNeg s cp) yse ybu ysc yam) ysq cp with e | ⟨j, hj, e, _⟩
        · exact Or.inl e
        · exact Or.inr ⟨j, hj, e⟩
      rcases hpin with e | ⟨j, hj, e⟩
      · have hh := h1 (Or.inr (Or.inl e))
        rw [e]
        exact br_t (by decide) hh
      · by_cases hr : rc < 64
        · have hh := h2 zn hr j hj e
          rw [e]
          exact br_f (nI_pos (by omega)) (br_t (nI_lt (b := 64) hr (by omega)) ⟨vp_in_nI (by omega) (by omega), nm_r (e' := upd yib j 0) (by rw [nI_clamp (by omega), dv_nb0]) ⟨vp_in_nI hr (by omega), nm_r (e' := upd rm rc (nI j)) (by rw [nI_clamp (by omega)]) (nm_r (nI_1 rc) (nm_r (nI_1 i) hh))⟩⟩)
        · have hh := h1 (Or.inr (Or.inr (by omega)))
          rw [e]
          exact br_f (nI_pos (by omega)) (br_f (nI_nlt (b := 64) (by omega) (by omega)) hh)
    · rcases hin with e | ⟨j, hj, e⟩
      · exact e
      · have e' : dv_D np ns cp ca ho yse ybu ysc yqt yam yib = nI j := e
        rw [e'] at z
        exact absurd (nI_pos' (by omega)) z
  · intro m q s hq hs ih
    refine br_f (nI_ge hq (by omega)) (ym_def n8 s4 c64 (by omega) hV (br_c (fun z => nm_r (nI_1 q) (ih s ?_)) (fun z => nm_r (nI_1 q) (ih (nI q, _) ?_))))
    · rw [hs] at z ⊢
      exact (if_pos z).symm
    · rw [hs] at z
      exact (if_neg z).symm
theorem ym_c22 {post : Int32 → SY → Prop} {x1 : Int32} (c64 : cp ≤ 64) (hz : ∀ j, 64 ≤ j → yib j = 0)
    (h : ∃ n, wY_cycle_65 post x1 (nI np) (nI ns) (nI cp) mr (nI cy) nq n 0 (nI rc) ca ho yse ybu ysc yqt yam st yat ysy ysq rm ync ynh (dv_bt st cp)) : ∃ n, wY_cycle_22 post x1 (nI np) (nI ns) (nI cp) mr (nI cy) (nI rc) nq n 0 ca ho yse ybu ysc yqt yam st yat ysy ysq rm ync ynh yib := by
  refine loop_0 (fun n i (b : Nat → Int32) => wY_cycle_22 post x1 (nI np) (nI ns) (nI cp) mr (nI cy) (nI rc) nq n (nI i) ca ho yse ybu ysc yqt yam st yat ysy ysq rm ync ynh b) (fun i b => b = dv_cpy (dv_bt st cp) yib i) 64 yib (dv_cpy_0 _ _).symm ?_ ?_
  · intro n b hb
    exact br_t (nI_le (a := 64) (Nat.le_refl _) (by omega)) (by rw [hb, dv_bt_x c64 hz]; exact h)
  · intro n i b hi hb ih
    have vi : vp_in (nI i) 64 := vp_in_nI (by omega) (by omega)
    have ei : (nI i).toNatClampNeg = i := nI_clamp (by omega)
    refine br_f (nI_ge (b := 64) hi (by omega)) (br_c (fun y => ⟨vi, nm_r (e' := dv_cpy (dv_bt st cp) yib (i + 1)) ?_ (nm_r (nI_1 i) (ih _ rfl))⟩) (fun y => ⟨vi, br_c (fun z => ⟨vi, nm_r (e' := dv_cpy (dv_bt st cp) yib (i + 1)) ?_ (nm_r (nI_1 i) (ih _ rfl))⟩) (fun z => ⟨vi, nm_r (e' := dv_cpy (dv_bt st cp) yib (i + 1)) ?_ (nm_r (nI_1 i) (ih _ rfl))⟩)⟩))
    · have y' : cp ≤ i := (nI_leI (by omega) (by omega)).mp y
      rw [hb, ei, dv_nb0, ← dv_cpy_s, dv_bt_0 (fun d => by omega)]
    · have y' : i < cp := by
        have h9 : ¬ cp ≤ i := fun h => y ((nI_leI (by omega) (by omega)).mpr h)
        omega
      rw [ei] at z
      rw [hb, ei, dv_nb1, ← dv_cpy_s, dv_bt_1 y' z]
    · rw [ei] at z
      rw [hb, ei, dv_nb0, ← dv_cpy_s, dv_bt_0 (fun d => z d.2)]
end
