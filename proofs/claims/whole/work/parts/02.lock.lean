theorem dv_m1 {j : Nat} (h : j < 2 ^ 31) : nI j ≠ -1 := by
  intro e
  have h1 : ¬ nI j < 0 := nI_pos h
  rw [e] at h1
  exact h1 (by decide)
/-- the two round loops in lockstep: whatever both ask at the common end, they ask at the start -/
theorem dv_lock {ι κ : Type} (cp : Nat) (h64 : cp ≤ 64) (D P : (Nat → Int32) → Int32) (Spec : (Nat → Int32) → (Nat → Int32) → (Nat → Int32) → Prop)
    (WX : ι → Nat → Nat → (Nat → Int32) → Nat → (Nat → Int32) → (Nat → Int32) → (Nat → Int32) → Prop)
    (KX : ι → (Nat → Int32) → Nat → (Nat → Int32) → (Nat → Int32) → (Nat → Int32) → Prop)
    (WY : κ → Nat → Nat → (Nat → Int32) → Nat → (Nat → Int32) → Prop)
    (KY : κ → (Nat → Int32) → Nat → (Nat → Int32) → Prop)
    (V : (Nat → Int32) → Prop) (G : Nat → Prop)
    (hV : ∀ b j, V b → V (upd b j 0))
    (hG : ∀ b j, V b → b j ≠ 0 → G j)
    (hP : ∀ b, V b → P b = -1 ∨ ∃ j, j < cp ∧ P b = nI j ∧ b j ≠ 0)
    (XE : ∀ q n b rc rm nc nh, KX q b rc rm nc nh → WX q (n + 1) (cp + 1) b rc rm nc nh)
    (XS : ∀ q n i b rc rm nc nh, V b → i ≤ cp → rc ≤ 64 →
      (∀ nc' nh', Spec b nc' nh' → (D b = -1 → KX q b rc rm nc' nh') ∧ (D b ≠ -1 → (P b = -1 ∨ 64 ≤ rc) → WX q n (i + 1) b rc rm nc' nh') ∧
        (D b ≠ -1 → rc < 64 → ∀ j, j < cp → P b = nI j → WX q n (i + 1) (upd b j 0) (rc + 1) (upd rm rc (nI j)) nc' nh')) → WX q (n + 1) i b rc rm nc nh)
    (YS : ∀ q n i b rc rm, V b → i < 66 → rc ≤ 64 → ((D b = -1 ∨ P b = -1 ∨ 64 ≤ rc) → KY q b rc rm) →
      (D b ≠ -1 → rc < 64 → ∀ j, j < cp → P b = nI j → WY q n (i + 1) (upd b j 0) (rc + 1) (upd rm rc (nI j))) → WY q (n + 1) i b rc rm) :
    ∀ m b rc rm, V b → rc ≤ 64 → (∀ k, k < rc → ∃ j, j < cp ∧ rm k = nI j ∧ G j) → dv_cn b cp < m →
      ∃ b' rc' rm', V b' ∧ rc' ≤ 64 ∧ (∀ k, k < rc' → ∃ j, j < cp ∧ rm' k = nI j ∧ G j) ∧
        (∀ q i n nc nh, i + dv_cn b cp ≤ cp → cp + 2 ≤ n + i → (∀ nc' nh', Spec b' nc' nh' → KX q b' rc' rm' nc' nh') → WX q n i b rc rm nc nh) ∧
        (∀ q i n, i + dv_cn b cp ≤ cp → 67 ≤ n + i → KY q b' rc' rm' → WY q n i b rc rm) := by
  intro m
  induction m with
  | zero => intro b rc rm _ _ _ h; omega
  | succ m ih =>
    intro b rc rm hVb hrc hR hcn
    by_cases hD : D b = -1
    · refine ⟨b, rc, rm, hVb, hrc, hR, ?_, ?_⟩
      · intro q i n nc nh hi hn H
        obtain ⟨n', rfl⟩ : ∃ n', n = n' + 1 := ⟨n - 1, by omega⟩
        exact XS q n' i b rc rm nc nh hVb (by omega) hrc (fun nc' nh' hs => ⟨fun _ => H nc' nh' hs, fun h => absurd hD h, fun h => absurd hD h⟩)
      · intro q i n hi hn H
        obtain ⟨n', rfl⟩ : ∃ n', n = n' + 1 := ⟨n - 1, by omega⟩
        exact YS q n' i b rc rm hVb (by omega) hrc (fun _ => H) (fun h => absurd hD h)
    · by_cases hst : P b = -1 ∨ 64 ≤ rc
      · refine ⟨b, rc, rm, hVb, hrc, hR, ?_, ?_⟩
        · intro q i n nc nh hi hn H
          have stall : ∀ d i n nc nh, i + d = cp + 1 → d < n → (d = 0 → Spec b nc nh) → WX q n i b rc rm nc nh := by
            intro d
            induction d with
            | zero =>
              intro i n nc nh hi hn hs
              obtain ⟨n', rfl⟩ : ∃ n', n = n' + 1 := ⟨n - 1, by omega⟩
              obtain rfl : i = cp + 1 := by omega
              exact XE q n' b rc rm nc nh (H nc nh (hs rfl))
            | succ d ihd =>
              intro i n nc nh hi hn _
              obtain ⟨n', rfl⟩ : ∃ n', n = n' + 1 := ⟨n - 1, by omega⟩
              refine XS q n' i b rc rm nc nh hVb (by omega) hrc (fun nc' nh' hs => ⟨fun h => absurd h hD, fun _ _ => ihd (i + 1) n' nc' nh' (by omega) (by omega) (fun _ => hs), fun _ hlt j hj e => ?_⟩)
              rcases hst with h | h
              · exact absurd (e.symm.trans h) (dv_m1 (by omega))
              · omega
          exact stall (cp + 1 - i) i n nc nh (by omega) (by omega) (fun h => by omega)
        · intro q i n hi hn H
          obtain ⟨n', rfl⟩ : ∃ n', n = n' + 1 := ⟨n - 1, by omega⟩
          refine YS q n' i b rc rm hVb (by omega) hrc (fun _ => H) (fun _ hlt j hj e => ?_)
          rcases hst with h | h
          · exact absurd (e.symm.trans h) (dv_m1 (by omega))
          · omega
      · have hlt : rc < 64 := by
          have h9 : ¬ 64 ≤ rc := fun h => hst (Or.inr h)
          omega
        have hPn : P b ≠ -1 := fun h => hst (Or.inl h)
        obtain ⟨j, hj, hPj, hbj⟩ : ∃ j, j < cp ∧ P b = nI j ∧ b j ≠ 0 := by
          rcases hP b hVb with h | h
          · exact absurd h hPn
          · exact h
        have hc := dv_cn_upd hbj cp hj
        have hR' : ∀ k, k < rc + 1 → ∃ j', j' < cp ∧ upd rm rc (nI j) k = nI j' ∧ G j' := by
          intro k hk
          by_cases e : k = rc
          · subst e
            exact ⟨j, hj, pk_us, hG b j hVb hbj⟩
          · obtain ⟨j', h1, h2, h3⟩ := hR k (by omega)
            exact ⟨j', h1, by rw [pk_un e]; exact h2, h3⟩
        obtain ⟨b', rc', rm', g1, g2, g3, gX, gY⟩ := ih (upd b j 0) (rc + 1) (upd rm rc (nI j)) (hV b j hVb) (by omega) hR' (by omega)
        refine ⟨b', rc', rm', g1, g2, g3, ?_, ?_⟩
        · intro q i n nc nh hi hn H
          obtain ⟨n', rfl⟩ : ∃ n', n = n' + 1 := ⟨n - 1, by omega⟩
          refine XS q n' i b rc rm nc nh hVb (by omega) hrc (fun nc' nh' hs => ⟨fun h => absurd h hD, fun _ h => absurd h hst, fun _ _ j' hj' e' => ?_⟩)
          obtain rfl : j = j' := (nI_eq (by omega) (by omega)).mp (hPj.symm.trans e')
          exact gX q (i + 1) n' nc' nh' (by omega) (by omega) H
        · intro q i n hi hn H
          obtain ⟨n', rfl⟩ : ∃ n', n = n' + 1 := ⟨n - 1, by omega⟩
          refine YS q n' i b rc rm hVb (by omega) hrc (fun h => ?_) (fun _ _ j' hj' e' => ?_)
          · rcases h with h | h
            · exact absurd h hD
            · exact absurd h hst
          · obtain rfl : j = j' := (nI_eq (by omega) (by omega)).mp (hPj.symm.trans e')
            exact gY q (i + 1) n' (by omega) (by omega) H
