/-! what is owed, one statement a method -/
theorem i_vc_take {k : Nat} {u : SX} {v : SY} (I : i_Rel k u v) (hk : k + 3 ≤ 1536) (v1 : Int32) : wpX_take (fun r u' => wpY_take (fun r' v' => r' = r ∧ i_Rel (k + 3) u' v') v v1) u v1 := by
  have J := i_up I
  obtain ⟨rfl, _⟩ := I
  unfold wpX_take wpX_outside wpY_take
  by_cases h1 : v1 < 1
  · refine br_t h1 (br_f (by decide) (br_t h1 ⟨rfl, J⟩))
  · by_cases h2 : v1 ≤ 30000
    · refine br_f h1 (br_t h2 (br_t rfl (br_f h1 (br_t h2 ⟨rfl, rfl, ?_⟩))))
      have h0 : ¬ v1 < 0 := fun z => h1 (Int32.lt_trans z (by decide))
      obtain ⟨j, hj, e⟩ := nI_of2 (M := 30000) (n := 30000) (by decide) h0 h2
      refine ⟨j, ?_, hj, e⟩
      by_cases z : j = 0
      · rw [e, z] at h1; exact absurd (by decide) h1
      · omega
    · exact br_f h1 (br_f h2 (br_f (by decide) (br_f h1 (br_f h2 ⟨rfl, J⟩))))
theorem i_vc_isPrime {k : Nat} {u : SX} {v : SY} (I : i_Rel k u v) (hk : k + 3 ≤ 1536) : wpX_isPrime (fun r => wpY_isPrime (fun r' => r' = r ∧ i_Rel (k + 3) u v) v) u := by
  have J := i_up I
  obtain ⟨rfl, n, h1, h2, rfl⟩ := I
  unfold wpX_isPrime wpY_isPrime
  exact wk_ptX (by omega) (fun hp => ⟨rfl, wk_pY _ (by omega) (fun _ => ⟨rfl, rfl, J⟩) (fun z => absurd hp z)⟩) (fun hp => ⟨rfl, wk_pY _ (by omega) (fun z => absurd z hp) (fun _ => ⟨rfl, rfl, J⟩)⟩)
theorem i_vc_divisors {k : Nat} {u : SX} {v : SY} (I : i_Rel k u v) (hk : k + 3 ≤ 1536) : wpX_divisors (fun r => wpY_divisors (fun r' => r' = r ∧ i_Rel (k + 3) u v) v) u := by
  have J := i_up I
  obtain ⟨rfl, n, h1, h2, rfl⟩ := I
  obtain ⟨r, hX, hY⟩ := wk_dv h2 n 1 0 (by omega) (by omega)
  exact ⟨_, hX _ ⟨_, hY _ ⟨rfl, J⟩⟩⟩
theorem i_vc_sum {k : Nat} {u : SX} {v : SY} (I : i_Rel k u v) (hk : k + 3 ≤ 1536) : wpX_sum (fun r => wpY_sum (fun r' => r' = r ∧ i_Rel (k + 3) u v) v) u := by
  have J := i_up I
  obtain ⟨rfl, n, h1, h2, rfl⟩ := I
  obtain ⟨r, hX, hY⟩ := wk_sm h2 n 1 0 (by omega) (by omega)
  exact ⟨_, hX _ ⟨_, hY _ ⟨rfl, J⟩⟩⟩
theorem i_vc_power {k : Nat} {u : SX} {v : SY} (I : i_Rel k u v) (hk : k + 3 ≤ 1536) (v1 : Int32) (v2 : Int32) : wpX_power (fun r => wpY_power (fun r' => r' = r ∧ i_Rel (k + 3) u v) v v1 v2) u v1 v2 := by
  have J := i_up I
  obtain ⟨rfl, n, h1, h2, rfl⟩ := I
  unfold wpX_power wpX_outside wpY_power
  by_cases a1 : v1 < 0
  · exact br_t a1 (br_f (by decide) (br_t a1 ⟨rfl, J⟩))
  · by_cases a2 : v1 ≤ 30000
    · have a3 : ¬ 30000 < v1 := Int32.not_lt.mpr a2
      by_cases b1 : v2 < 0
      · exact br_f a1 (br_t a2 (br_t rfl (br_t b1 (br_f (by decide) (br_f a1 (br_f a3 (br_t b1 ⟨rfl, J⟩)))))))
      · by_cases b2 : v2 ≤ 30000
        · obtain ⟨b, hb, rfl⟩ := wk_arg a1 a2
          obtain ⟨E, hE, rfl⟩ := wk_arg b1 b2
          have hn : ¬ nI n = 0 := nI_ne0 (by omega) (by omega)
          have hm : 1 % n < n := Nat.mod_lt 1 (by omega)
          have hr : 1 - 1 / nI n * nI n = nI (1 % n) := pk_rem (a := 1) (by omega) (by omega) (by omega)
          obtain ⟨q, hX, hY⟩ := wk_pw h1 h2 hb hE E 0 (1 % n) (by omega) (by omega)
          exact br_f a1 (br_t a2 (br_t rfl (br_f b1 (br_t b2 (br_t rfl ⟨hn, nm_r hr ⟨_, hX _ (br_f a1 (br_f a3 (br_f b1 (br_t b2 ⟨hn, nm_r hr ⟨_, hY _ ⟨rfl, J⟩⟩⟩))))⟩⟩)))))
        · exact br_f a1 (br_t a2 (br_t rfl (br_f b1 (br_f b2 (br_f (by decide) (br_f a1 (br_f a3 (br_f b1 (br_f b2 ⟨rfl, J⟩)))))))))
    · exact br_f a1 (br_f a2 (br_f (by decide) (br_f a1 (br_t (Int32.not_le.mp a2) ⟨rfl, J⟩))))
theorem i_vc_order {k : Nat} {u : SX} {v : SY} (I : i_Rel k u v) (hk : k + 3 ≤ 1536) (v1 : Int32) : wpX_order (fun r => wpY_order (fun r' => r' = r ∧ i_Rel (k + 3) u v) v v1) u v1 := by
  have J := i_up I
  obtain ⟨rfl, n, h1, h2, rfl⟩ := I
  unfold wpX_order wpX_outside wpY_order
  by_cases a1 : v1 < 1
  · exact br_t a1 (br_f (by decide) (br_t a1 ⟨rfl, J⟩))
  · by_cases a2 : v1 ≤ 30000
    · have a0 : ¬ v1 < 0 := fun z => a1 (Int32.lt_trans z (by decide))
      obtain ⟨b, hb, rfl⟩ := wk_arg a0 a2
      refine br_f a1 (br_t a2 (br_t rfl (wk_seX h1 h2 hb (fun e e1 e2 e3 e4 => ?_) (fun hno => ?_))))
      · have hn2 : 2 ≤ n := by omega
        have hne : ¬ nI n = 1 := fun z => by
          have := (nI_eq (a := n) (b := 1) (by omega) (by omega)).mp z
          omega
        refine br_f a1 (br_t a2 (br_f hne (wk_gcdY _ (by omega) (by omega) (br_t ?_ (wk_ooY h1 h2 hb (by omega) e1 e3 e4 ⟨rfl, J⟩)))))
        rw [nt_ord_cop hn2 e1 e3]; rfl
      · by_cases z : n = 1
        · subst z
          exact br_f a1 (br_t a2 (br_t rfl ⟨rfl, J⟩))
        · have hne : ¬ nI n = 1 := fun w => by
            have := (nI_eq (a := n) (b := 1) (by omega) (by omega)).mp w
            omega
          have hg : Nat.gcd b n ≠ 1 := fun w => by
            obtain ⟨e, e1, e2, e3⟩ := nt_ord_ex (b := b) (N := n) (by omega) w
            exact hno e e1 e2 e3
          have hgl : Nat.gcd b n ≤ n := Nat.le_of_dvd (by omega) (Nat.gcd_dvd_right b n)
          refine br_f a1 (br_t a2 (br_f hne (wk_gcdY _ (by omega) (by omega) (br_f (fun w => ?_) ⟨rfl, J⟩))))
          exact hg ((nI_eq (a := Nat.gcd b n) (b := 1) (by omega) (by omega)).mp w)
    · exact br_f a1 (br_f a2 (br_f (by decide) (br_f a1 (br_f a2 ⟨rfl, J⟩))))
theorem i_vc_root {k : Nat} {u : SX} {v : SY} (I : i_Rel k u v) (hk : k + 3 ≤ 1536) (v1 : Int32) : wpX_root (fun r => wpY_root (fun r' => r' = r ∧ i_Rel (k + 3) u v) v v1) u v1 := by
  have J := i_up I
  obtain ⟨rfl, n, h1, h2, rfl⟩ := I
  unfold wpX_root wpX_outside wpY_root
  have hn : ¬ nI n = 0 := nI_ne0 (by omega) (by omega)
  by_cases a1 : v1 < 0
  · exact br_t a1 (br_f (by decide) (br_t a1 ⟨rfl, J⟩))
  · by_cases a2 : v1 ≤ 30000
    · refine br_f a1 (br_t a2 (br_t rfl (wk_ptX (by omega) (fun hp => ?_) (fun hp => ?_))))
      · obtain ⟨q, hX, hY⟩ := wk_rt h2 hp v1 n 0 (by omega)
        exact br_f (by decide) ⟨hn, nm_e ⟨_, hX _ (br_f a1 (br_t a2 ⟨_, hY _ ⟨rfl, J⟩⟩))⟩⟩
      · exact br_t rfl (br_f a1 (br_t a2 ⟨1, br_f (nI_ge (a := 0) (b := n) (by omega) (by omega)) (wk_pY _ (by omega) (fun z => absurd z hp) (fun _ => br_t rfl ⟨rfl, J⟩))⟩))
    · exact br_f a1 (br_f a2 (br_f (by decide) (br_f a1 (br_f a2 ⟨rfl, J⟩))))
theorem i_vc_nextPrime {k : Nat} {u : SX} {v : SY} (I : i_Rel k u v) (hk : k + 3 ≤ 1536) : wpX_nextPrime (fun r => wpY_nextPrime (fun r' => r' = r ∧ i_Rel (k + 3) u v) v) u := by
  have J := i_up I
  obtain ⟨rfl, n, h1, h2, rfl⟩ := I
  obtain ⟨q, ha, hb, hq, hl⟩ := nt_nx h1 h2
  exact nm_r (nI_1 n) ⟨_, wk_npX h2 hb hq hl (nm_r (nI_1 n) ⟨_, wk_npY h2 hb hq hl ⟨rfl, J⟩ (q - (n + 1)) (n + 1) (by omega) (by omega)⟩) (q - (n + 1)) (n + 1) (by omega) (by omega)⟩
theorem i_vc_factors {k : Nat} {u : SX} {v : SY} (I : i_Rel k u v) (hk : k + 3 ≤ 1536) : wpX_factors (fun r => wpY_factors (fun r' => r' = r ∧ i_Rel (k + 3) u v) v) u := by
  have J := i_up I
  obtain ⟨rfl, n, h1, h2, rfl⟩ := I
  exact ⟨_, fc_XF h1 h2 rfl ⟨n + 1, fc_Z _ h2 (n + 1) 2 0 n 14 (by omega) (by omega) (by omega) h1 (by omega) (fun e a b => by omega) (by omega) ⟨by rw [Nat.zero_add], J⟩⟩ (fc_len 14 n) 0 (by omega)⟩
theorem i_vc_factor {k : Nat} {u : SX} {v : SY} (I : i_Rel k u v) (hk : k + 3 ≤ 1536) (v1 : Int32) : wpX_factor (fun r => wpY_factor (fun r' => r' = r ∧ i_Rel (k + 3) u v) v v1) u v1 := by
  have J := i_up I
  obtain ⟨rfl, n, h1, h2, rfl⟩ := I
  unfold wpX_factor wpX_primeFactor wpY_factor
  exact ⟨15, fc_X v1 _ 14 0 n (by omega) h1 h2 ⟨n + 1, fc_Y v1 _ h2 (n + 1) 2 0 n 14 (by omega) (by omega) (by omega) h1 (by omega) (fun e a b => by omega) (by omega) (by omega) ⟨rfl, J⟩⟩⟩
theorem i_vc_coprimes {k : Nat} {u : SX} {v : SY} (I : i_Rel k u v) (hk : k + 3 ≤ 1536) : wpX_coprimes (fun r => wpY_coprimes (fun r' => r' = r ∧ i_Rel (k + 3) u v) v) u := by
  have J := i_up I
  obtain ⟨rfl, n, h1, h2, rfl⟩ := I
  have hX := fun (post : Int32 → Prop) hp => cp_X h1 h2 (post := post) hp (n - 1) 2 (by omega) (by omega)
  rw [cp_start] at hX
  exact ⟨_, hX _ ⟨_, cp_Y h2 ⟨by rw [cp_end h1], J⟩ n 0 (by omega)⟩⟩
theorem i_vc_generator {k : Nat} {u : SX} {v : SY} (I : i_Rel k u v) (hk : k + 3 ≤ 1536) : wpX_generator (fun r => wpY_generator (fun r' => r' = r ∧ i_Rel (k + 3) u v) v) u := by
  have J := i_up I
  obtain ⟨rfl, n, h1, h2, rfl⟩ := I
  unfold wpX_generator wpY_generator
  refine wk_ptX (by omega) (fun hp => ?_) (fun hp => ?_)
  · obtain ⟨g0, a, b, c⟩ := gn_ex h2 hp
    obtain ⟨q, hX, hY⟩ := gn_lock h2 hp b c (g0 - 1) 1 (by omega) (by omega)
    exact br_f (by decide) ⟨_, hX _ (wk_pY _ (by omega) (fun _ => br_f (by decide) ⟨_, hY _ ⟨rfl, J⟩⟩) (fun z => absurd hp z))⟩
  · exact br_t rfl (wk_pY _ (by omega) (fun z => absurd z hp) (fun _ => br_t rfl ⟨rfl, J⟩))
