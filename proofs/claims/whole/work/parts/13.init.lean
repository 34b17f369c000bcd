/-! the constructors -/
theorem dv_clamp (v : Int32) (lo hi : Nat) (h : lo ≤ hi) (hh : hi < 2 ^ 31) : ∃ n, lo ≤ n ∧ n ≤ hi ∧ ∀ post : Int32 → Prop, post (nI n) → ((nI lo ≤ v → ((v ≤ nI hi → post v) ∧ (¬ v ≤ nI hi → post (nI hi)))) ∧ (¬ nI lo ≤ v → post (nI lo))) := by
  by_cases a : nI lo ≤ v
  · by_cases b : v ≤ nI hi
    · have a0 : ¬ v < 0 := fun c => nI_pos (n := lo) (by omega) (Int32.lt_of_le_of_lt a c)
      obtain ⟨j, hj, rfl⟩ := nI_of a0
      rw [nI_leI (by omega) hj] at a
      rw [nI_leI hj hh] at b
      exact ⟨j, a, b, fun post hp => br_t (nI_le a hj) (br_t (nI_le b hh) hp)⟩
    · exact ⟨hi, h, Nat.le_refl _, fun post hp => br_t a (br_f b hp)⟩
  · exact ⟨lo, Nat.le_refl _, h, fun post hp => br_f a hp⟩
theorem dv_cl2 (v : Int32) (lo hi : Nat) (h : lo ≤ hi) (hh : hi < 2 ^ 31) : ∃ n, lo ≤ n ∧ n ≤ hi ∧ (∀ post : Int32 → Prop, post (nI n) → wpX_clamp post v (nI lo) (nI hi)) ∧ (∀ (post : Int32 → Prop) (u : SY), post (nI n) → wpY_clamp post u v (nI lo) (nI hi)) := by
  obtain ⟨n, h1, h2, h3⟩ := dv_clamp v lo hi h hh
  exact ⟨n, h1, h2, h3, fun post u hp => h3 post hp⟩
theorem i_vc0 (k0 : Int32) (k1 : Int32) (k2 : Int32) (k3 : Int32) : wpX_init (fun u => wpY_init (fun v => i_Rel 4 u v) k0 k1 k2 k3) k0 k1 k2 k3 := by
  obtain ⟨np, a1, a2, ha, ya⟩ := dv_cl2 k0 2 8 (by omega) (by omega)
  obtain ⟨ns, b1, b2, hb, yb⟩ := dv_cl2 k1 1 4 (by omega) (by omega)
  obtain ⟨cp, c1, c2, hc, yc⟩ := dv_cl2 k2 8 64 (by omega) (by omega)
  obtain ⟨mr, d1, d2, hd, yd⟩ := dv_cl2 k3 1 8 (by omega) (by omega)
  unfold wpX_init wpY_init
  refine ha _ (hb _ (hc _ (hd _ (ya _ _ (yb _ _ (yc _ _ (yd _ _ ?_)))))))
  refine dv_rel (cy := 0) (rc := 0) (np := np) (ns := ns) (cp := cp) ⟨a1, a2, b1, b2, c1, c2, by omega, by omega, fun _ => rfl⟩ ⟨fun _ _ => rfl, fun _ _ _ _ => rfl⟩ ⟨fun _ _ => rfl, fun _ _ _ _ => rfl⟩ ⟨fun _ _ => rfl, fun _ _ => rfl⟩ (fun _ => Or.inl rfl) (fun _ h => absurd rfl h) (fun _ h => absurd rfl h)
