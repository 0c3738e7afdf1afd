/-! prime tests on both sides -/
theorem wk_sf {m : Nat} (hm : 2 ≤ m) (hb : m < 2 ^ 30) {post : Int32 → Prop} (hp : ∀ p, nt_Sf m p → post (nI p)) : ∀ (n d : Nat), 2 ≤ d → d ≤ m → m < n + d → (∀ e, 2 ≤ e → e < d → ¬ e ∣ m) → wX_smallestFactor_2 post (nI m) n (nI d) := by
  intro n
  induction n with
  | zero => intro d _ h1 h2; omega
  | succ n ih =>
    intro d h2 hdm hf hI
    have hq : m / d ≤ m := Nat.div_le_self m d
    have hr : m % d ≤ m := Nat.mod_le m d
    refine And.intro (nI_ne0 (by omega) (by omega)) (pk_lt (m / d) d (fun h => ?_) (fun h => ?_) (pk_div (by omega) (by omega) (by omega)) rfl (by omega) (by omega))
    · have hs : m < d * d := (Nat.div_lt_iff_lt_mul (by omega)).mp h
      exact hp m (nt_pr_sf (nt_big hm hs hI))
    · have hs : d * d ≤ m := (Nat.le_div_iff_mul_le (by omega)).mp h
      have h3 : d * 2 ≤ d * d := Nat.mul_le_mul_left d h2
      refine And.intro (nI_ne0 (by omega) (by omega)) (pk_eq (m % d) 0 (fun h0 => ?_) (fun h0 => ?_) (pk_rem (by omega) (by omega) (by omega)) nI_0.symm (by omega) (by omega))
      · exact hp d ⟨h2, Nat.dvd_of_mod_eq_zero h0, fun e he hem => Nat.le_of_not_lt fun hl => hI e he hl hem⟩
      · refine nm_r (nI_1 d) (ih (d + 1) (by omega) (by omega) (by omega) (fun e he hl hem => ?_))
        by_cases q : e = d
        · exact h0 (Nat.mod_eq_zero_of_dvd (q ▸ hem))
        · exact hI e he (by omega) hem
theorem wk_sfX {m : Nat} (hm : 2 ≤ m) (hb : m < 2 ^ 30) {post : Int32 → Prop} (hp : ∀ p, nt_Sf m p → post (nI p)) : wpX_smallestFactor post (nI m) :=
  ⟨m + 1, wk_sf hm hb hp (m + 1) 2 (by omega) hm (by omega) (fun e h1 h2 => by omega)⟩
theorem wk_ptX {m : Nat} (hb : m < 2 ^ 30) {post : Int32 → Prop} (ht : nt_Pr m → post 1) (hf : ¬ nt_Pr m → post 0) : wpX_primeTest post (nI m) :=
  pk_le m 1 (fun h => hf (fun hp => by have := hp.1; omega)) (fun h => wk_sfX (by omega) hb (fun p hp => by
    have hpm : p ≤ m := Nat.le_of_dvd (by omega) hp.2.1
    exact pk_eq p m (fun e => ht ((nt_sf_eq hp).mp e)) (fun e => hf fun z => e ((nt_sf_eq hp).mpr z)) rfl rfl (by omega) (by omega))) rfl rfl (by omega) (by omega)
theorem wk_pY9 {m : Nat} (f : Int32) (hm : 2 ≤ m) (hb : m ≤ 60000) {post : Int32 → Prop} (ht : nt_Pr m → post 1) (hf : ¬ nt_Pr m → post 0) : ∀ (n d : Nat), 2 ≤ d → d ≤ 300 → 300 < n + d → (∀ e, 2 ≤ e → e < d → ¬ e ∣ m) → wY_prime_9 post (nI m) f n (nI d) := by
  intro n
  induction n with
  | zero => intro d _ h1 h2; omega
  | succ n ih =>
    intro d h2 hd3 hf' hI
    have hdd : d * d ≤ 300 * 300 := Nat.mul_le_mul hd3 hd3
    have hr : m % d ≤ m := Nat.mod_le m d
    refine pk_lt m (d * d) (fun h => ?_) (fun h => ?_) rfl (pk_mul d d) (by omega) (by omega)
    · exact ht (nt_big hm h hI)
    · have h3 : d < 300 := Nat.lt_of_not_le fun z => by
        have := Nat.mul_le_mul z z
        omega
      have h4 : d * 2 ≤ d * d := Nat.mul_le_mul_left d h2
      refine And.intro (nI_ne0 (by omega) (by omega)) (pk_eq (m % d) 0 (fun h0 => ?_) (fun h0 => ?_) (pk_rem (by omega) (by omega) (by omega)) nI_0.symm (by omega) (by omega))
      · refine hf (fun hp => ?_)
        have := hp.2 d h2 (Nat.dvd_of_mod_eq_zero h0)
        omega
      · refine nm_r (nI_1 d) (ih (d + 1) (by omega) (by omega) (by omega) (fun e he hl hem => ?_))
        by_cases q : e = d
        · exact h0 (Nat.mod_eq_zero_of_dvd (q ▸ hem))
        · exact hI e he (by omega) hem
theorem wk_pY {m : Nat} (f : Int32) (hb : m ≤ 60000) {post : Int32 → Prop} (ht : nt_Pr m → post 1) (hf : ¬ nt_Pr m → post 0) : wpY_prime post f (nI m) :=
  pk_le 2 m (fun h => ⟨300, wk_pY9 f h hb ht hf 300 2 (by omega) (by omega) (by omega) (fun e h1 h2 => by omega)⟩) (fun h => hf (fun hp => by have := hp.1; omega)) rfl rfl (by omega) (by omega)
/-! divisors and sum: in lockstep -/
theorem wk_dv {N : Nat} (hN : N ≤ 30000) : ∀ (t j : Nat) (x : Int32), j + t = N + 1 → 1 ≤ j → ∃ r : Int32, (∀ post : Int32 → Prop, post r → wX_divisors_4 post (nI N) (t + 1) x (nI j)) ∧ (∀ post : Int32 → Prop, post r → wY_divisors_4 post (nI N) (t + 1) x (nI j)) := by
  intro t
  induction t with
  | zero =>
    intro j x hj h1
    have h : nI N < nI j := nI_lt (by omega) (by omega)
    exact ⟨x, fun _ hp => br_t h hp, fun _ hp => br_t h hp⟩
  | succ t ih =>
    intro j x hj h1
    have h : ¬ nI N < nI j := nI_nlt (by omega) (by omega)
    have hn : ¬ nI j = 0 := nI_ne0 (by omega) (by omega)
    have hr : nI N - nI N / nI j * nI j = nI (N % j) := pk_rem (by omega) (by omega) (by omega)
    have hm : N % j ≤ N := Nat.mod_le N j
    by_cases z : N % j = 0
    · have hz : nI N - nI N / nI j * nI j = 0 := by rw [hr, z]; exact nI_0
      obtain ⟨r, hX, hY⟩ := ih (j + 1) (x + 1) (by omega) (by omega)
      exact ⟨r, fun post hp => br_f h ⟨hn, br_t hz (nm_e (nm_r (nI_1 j) (hX post hp)))⟩, fun post hp => br_f h ⟨hn, br_t hz (nm_e (nm_r (nI_1 j) (hY post hp)))⟩⟩
    · have hz : ¬ nI N - nI N / nI j * nI j = 0 := by rw [hr]; exact nI_ne0 (by omega) (by omega)
      obtain ⟨r, hX, hY⟩ := ih (j + 1) x (by omega) (by omega)
      exact ⟨r, fun post hp => br_f h ⟨hn, br_f hz (nm_r (nI_1 j) (hX post hp))⟩, fun post hp => br_f h ⟨hn, br_f hz (nm_r (nI_1 j) (hY post hp))⟩⟩
theorem wk_sm {N : Nat} (hN : N ≤ 30000) : ∀ (t j : Nat) (x : Int32), j + t = N + 1 → 1 ≤ j → ∃ r : Int32, (∀ post : Int32 → Prop, post r → wX_sum_4 post (nI N) (t + 1) x (nI j)) ∧ (∀ post : Int32 → Prop, post r → wY_sum_4 post (nI N) (t + 1) x (nI j)) := by
  intro t
  induction t with
  | zero =>
    intro j x hj h1
    have h : nI N < nI j := nI_lt (by omega) (by omega)
    exact ⟨x, fun _ hp => br_t h hp, fun _ hp => br_t h hp⟩
  | succ t ih =>
    intro j x hj h1
    have h : ¬ nI N < nI j := nI_nlt (by omega) (by omega)
    have hn : ¬ nI j = 0 := nI_ne0 (by omega) (by omega)
    have hr : nI N - nI N / nI j * nI j = nI (N % j) := pk_rem (by omega) (by omega) (by omega)
    have hm : N % j ≤ N := Nat.mod_le N j
    by_cases z : N % j = 0
    · have hz : nI N - nI N / nI j * nI j = 0 := by rw [hr, z]; exact nI_0
      obtain ⟨r, hX, hY⟩ := ih (j + 1) (x + nI j) (by omega) (by omega)
      exact ⟨r, fun post hp => br_f h ⟨hn, br_t hz (nm_e (nm_r (nI_1 j) (hX post hp)))⟩, fun post hp => br_f h ⟨hn, br_t hz (nm_e (nm_r (nI_1 j) (hY post hp)))⟩⟩
    · have hz : ¬ nI N - nI N / nI j * nI j = 0 := by rw [hr]; exact nI_ne0 (by omega) (by omega)
      obtain ⟨r, hX, hY⟩ := ih (j + 1) x (by omega) (by omega)
      exact ⟨r, fun post hp => br_f h ⟨hn, br_f hz (nm_r (nI_1 j) (hX post hp))⟩, fun post hp => br_f h ⟨hn, br_f hz (nm_r (nI_1 j) (hY post hp))⟩⟩
