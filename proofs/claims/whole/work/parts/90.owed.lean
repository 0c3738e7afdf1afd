/-! what is owed, one statement a method -/
theorem i_vc_take {k : Nat} {u : SX} {v : SY} (I : i_Rel k u v) (hk : k + 3 ≤ 1536) (v1 : Int32) : wpX_take (fun r u' => wpY_take (fun r' v' => r' = r ∧ i_Rel (k + 3) u' v') v v1) u v1 := by
  have J := i_up I
  obtain ⟨rfl, _⟩ := I
  unfold wpX_take wpX_outside wpY_take
  by_cases h1 : v1 < 1
  · refine br_t h1 (br_f (by decide) (br_t h1 ⟨rfl, J⟩))
  · by_cases h2 : v1 ≤ 30000
    · refine br_f h1 (br_t h2 (br_t rfl (br_f h1 (br_t h2 ⟨rfl, rfl, ?_⟩))))
      have h0 : ¬ v1 < 0 := fun z => h1 (Int32.lt_trans z (by decide))
      obtain ⟨j, hj, e⟩ := nI_of2 (M := 30000) (n := 30000) (by decide) h0 h2
      refine ⟨j, ?_, hj, e⟩
      by_cases z : j = 0
      · rw [e, z] at h1; exact absurd (by decide) h1
      · omega
    · exact br_f h1 (br_f h2 (br_f (by decide) (br_f h1 (br_f h2 ⟨rfl, J⟩))))
theorem i_vc_isPrime {k : Nat} {u : SX} {v : SY} (I : i_Rel k u v) (hk : k + 3 ≤ 1536) : wpX_isPrime (fun r => wpY_isPrime (fun r' => r' = r ∧ i_Rel (k + 3) u v) v) u := by
  have J := i_up I
  obtain ⟨rfl, n, h1, h2, rfl⟩ := I
  unfold wpX_isPrime wpY_isPrime
  exact wk_ptX (by omega) (fun hp => ⟨rfl, wk_pY _ (by omega) (fun _ => ⟨rfl, rfl, J⟩) (fun z => absurd hp z)⟩) (fun hp => ⟨rfl, wk_pY _ (by omega) (fun z => absurd z hp) (fun _ => ⟨rfl, rfl, J⟩)⟩)
theorem i_vc_divisors {k : Nat} {u : SX} {v : SY} (I : i_Rel k u v) (hk : k + 3 ≤ 1536) : wpX_divisors (fun r => wpY_divisors (fun r' => r' = r ∧ i_Rel (k + 3) u v) v) u := by
  have J := i_up I
  obtain ⟨rfl, n, h1, h2, rfl⟩ := I
  obtain ⟨r, hX, hY⟩ := wk_dv h2 n 1 0 (by omega) (by omega)
  exact ⟨_, hX _ ⟨_, hY _ ⟨rfl, J⟩⟩⟩
theorem i_vc_sum {k : Nat} {u : SX} {v : SY} (I : i_Rel k u v) (hk : k + 3 ≤ 1536) : wpX_sum (fun r => wpY_sum (fun r' => r' = r ∧ i_Rel (k + 3) u v) v) u := by
  have J := i_up I
  obtain ⟨rfl, n, h1, h2, rfl⟩ := I
  obtain ⟨r, hX, hY⟩ := wk_sm h2 n 1 0 (by omega) (by omega)
  exact ⟨_, hX _ ⟨_, hY _ ⟨rfl, J⟩⟩⟩
