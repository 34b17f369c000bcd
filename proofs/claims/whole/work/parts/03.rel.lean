/-! the relation -/
/-- sizes and counters -/
def dv_Sz (k np ns cp cy rc : Nat) : Prop := 2 ≤ np ∧ np ≤ 8 ∧ 1 ≤ ns ∧ ns ≤ 4 ∧ 8 ≤ cp ∧ cp ≤ 64 ∧ cy ≤ k ∧ rc ≤ 64 ∧ (cy = 0 → rc = 0)
/-- what lies beyond the participants and securities is nought -/
def dv_Z (np ns : Nat) (ca ho : Nat → Int32) : Prop := (∀ p, np ≤ p → ca p = 0) ∧ (∀ p s, s < 4 → (np ≤ p ∨ ns ≤ s) → ho (p * 4 + s) = 0)
/-- the working flags beyond the slots are nought -/
def dv_Bt (cp : Nat) (xib yib : Nat → Int32) : Prop := (∀ j, cp ≤ j → xib j = 0) ∧ (∀ j, 64 ≤ j → yib j = 0)
def dv_St (st : Nat → Int32) : Prop := ∀ j, st j = 0 ∨ st j = 1 ∨ st j = 2 ∨ st j = 3 ∨ st j = 4
/-- both sides hold the same of every slot in use -/
def dv_Ag (st xse xbu xsc xqt xam xat xsy : Nat → Int32) (xsq : Nat → Int64) (yse ybu ysc yqt yam yat ysy : Nat → Int32) (ysq : Nat → Int64) : Prop :=
  ∀ j, st j ≠ 0 → xse j = yse j ∧ xbu j = ybu j ∧ xsc j = ysc j ∧ xqt j = yqt j ∧ xam j = yam j ∧ xat j = yat j ∧ xsy j = ysy j ∧ xsq j = ysq j
def i_Rel (k : Nat) (u : SX) (v : SY) : Prop :=
  ∃ (np ns cp cy rc : Nat) (mr : Int32) (nq : Int64) (ca ho st rm xse xbu xsc xqt xam xat xsy xib xnc xnh yse ybu ysc yqt yam yat ysy yib ync ynh : Nat → Int32) (xsq ysq : Nat → Int64),
    u = (nI np, nI ns, nI cp, mr, nI rc, nq, nI cy, ca, ho, st, xse, xbu, xsc, xqt, xam, xat, xsy, xsq, xib, xnc, xnh, rm) ∧ v = (nI np, nI ns, nI cp, mr, nI cy, nI rc, nq, ca, ho, yse, ybu, ysc, yqt, yam, st, yat, ysy, ysq, rm, ync, ynh, yib) ∧
    dv_Sz k np ns cp cy rc ∧ dv_Z np ns ca ho ∧ dv_Z np ns ync ynh ∧ dv_Bt cp xib yib ∧ dv_St st ∧ dv_Ag st xse xbu xsc xqt xam xat xsy xsq yse ybu ysc yqt yam yat ysy ysq ∧ dv_Val np ns st xse xbu xsc
section
variable {k np ns cp cy rc : Nat} {mr : Int32} {nq : Int64} {ca ho st rm xse xbu xsc xqt xam xat xsy xib xnc xnh yse ybu ysc yqt yam yat ysy yib ync ynh : Nat → Int32} {xsq ysq : Nat → Int64}
theorem dv_rel (h1 : dv_Sz k np ns cp cy rc) (h2 : dv_Z np ns ca ho) (h3 : dv_Z np ns ync ynh) (h4 : dv_Bt cp xib yib) (h5 : dv_St st) (h6 : dv_Ag st xse xbu xsc xqt xam xat xsy xsq yse ybu ysc yqt yam yat ysy ysq) (h7 : dv_Val np ns st xse xbu xsc) : i_Rel k (nI np, nI ns, nI cp, mr, nI rc, nq, nI cy, ca, ho, st, xse, xbu, xsc, xqt, xam, xat, xsy, xsq, xib, xnc, xnh, rm) (nI np, nI ns, nI cp, mr, nI cy, nI rc, nq, ca, ho, yse, ybu, ysc, yqt, yam, st, yat, ysy, ysq, rm, ync, ynh, yib) :=
  ⟨np, ns, cp, cy, rc, mr, nq, ca, ho, st, rm, xse, xbu, xsc, xqt, xam, xat, xsy, xib, xnc, xnh, yse, ybu, ysc, yqt, yam, yat, ysy, yib, ync, ynh, xsq, ysq, rfl, rfl, h1, h2, h3, h4, h5, h6, h7⟩
theorem dv_Sz_up (h : dv_Sz k np ns cp cy rc) : dv_Sz (k + 5) np ns cp cy rc := by
  obtain ⟨h1, h2, h3, h4, h5, h6, h7, h8, h9⟩ := h
  exact ⟨h1, h2, h3, h4, h5, h6, by omega, h8, h9⟩
theorem dv_Ag_st {st' : Nat → Int32} (h : dv_Ag st xse xbu xsc xqt xam xat xsy xsq yse ybu ysc yqt yam yat ysy ysq) (hs : ∀ j, st' j ≠ 0 → st j ≠ 0) : dv_Ag st' xse xbu xsc xqt xam xat xsy xsq yse ybu ysc yqt yam yat ysy ysq := fun j hj => h j (hs j hj)
theorem dv_Val_st {st' : Nat → Int32} (h : dv_Val np ns st xse xbu xsc) (hs : ∀ j, st' j ≠ 0 → st j ≠ 0) : dv_Val np ns st' xse xbu xsc := fun j hj => h j (hs j hj)
theorem dv_St_upd {j : Nat} {x : Int32} (h : dv_St st) (hx : x = 0 ∨ x = 1 ∨ x = 2 ∨ x = 3 ∨ x = 4) : dv_St (upd st j x) := by
  intro i
  by_cases e : i = j
  · rw [e, pk_us]; exact hx
  · rw [pk_un e]; exact h i
theorem dv_st_upd {j : Nat} {x : Int32} (h : st j ≠ 0) : ∀ i, upd st j x i ≠ 0 → st i ≠ 0 := by
  intro i hi
  by_cases e : i = j
  · rw [e]; exact h
  · rw [pk_un e] at hi; exact hi
end
theorem i_up {k : Nat} {u : SX} {v : SY} (h : i_Rel k u v) : i_Rel (k + 5) u v := by
  obtain ⟨np, ns, cp, cy, rc, mr, nq, ca, ho, st, rm, xse, xbu, xsc, xqt, xam, xat, xsy, xib, xnc, xnh, yse, ybu, ysc, yqt, yam, yat, ysy, yib, ync, ynh, xsq, ysq, rfl, rfl, h1, h2, h3, h4, h5, h6, h7⟩ := h
  exact dv_rel (dv_Sz_up h1) h2 h3 h4 h5 h6 h7
