section
/-! rows pasted from the rows to paste -/
theorem pk_sub {a b : Nat} (h : b ≤ a) : nI a - nI b = nI (a - b) := by
  obtain ⟨c, rfl⟩ : ∃ c, a = c + b := ⟨a - b, by omega⟩
  rw [← nI_add, Int32.add_sub_cancel, Nat.add_sub_cancel]
theorem pk_mul (a b : Nat) : nI a * nI b = nI (a * b) := (Int32.ofNat_mul a b).symm
theorem pk_div {a d : Nat} (ha : a < 2 ^ 31) (h0 : 0 < d) (hd : d < 2 ^ 31) : nI a / nI d = nI (a / d) := by
  apply Int32.toInt_inj.mp
  rw [lg_idiv_nonneg (by rw [nI_toInt ha]; omega) (by rw [nI_toInt hd]; omega), nI_toInt ha, nI_toInt hd, nI_toInt (Nat.lt_of_le_of_lt (Nat.div_le_self a d) ha)]
  first | rfl | exact (Int.natCast_ediv _ _).symm
theorem pk_rem {a d : Nat} (ha : a < 2 ^ 31) (h0 : 0 < d) (hd : d < 2 ^ 31) : nI a - nI a / nI d * nI d = nI (a % d) := by
  rw [pk_div ha h0 hd, pk_mul, pk_sub (Nat.div_mul_le_self a d)]
  exact congrArg nI (by have := Nat.div_add_mod' a d; omega)
theorem pk_le {x y : Int32} {A B : Prop} (a b : Nat) (f : a ≤ b → A) (g : b < a → B) (hx : x = nI a := by rfl) (hy : y = nI b := by rfl) (ha : a < 2 ^ 31 := by omega) (hb : b < 2 ^ 31 := by omega) : (x ≤ y → A) ∧ (¬ x ≤ y → B) := by
  subst hx hy
  rw [nI_leI ha hb]
  exact ⟨f, fun z => g (by omega)⟩
theorem pk_lt {x y : Int32} {A B : Prop} (a b : Nat) (f : a < b → A) (g : b ≤ a → B) (hx : x = nI a := by rfl) (hy : y = nI b := by rfl) (ha : a < 2 ^ 31 := by omega) (hb : b < 2 ^ 31 := by omega) : (x < y → A) ∧ (¬ x < y → B) := by
  subst hx hy
  rw [nI_ltI ha hb]
  exact ⟨f, fun z => g (by omega)⟩
theorem pk_eq {x y : Int32} {A B : Prop} (a b : Nat) (f : a = b → A) (g : a ≠ b → B) (hx : x = nI a := by rfl) (hy : y = nI b := by rfl) (ha : a < 2 ^ 31 := by omega) (hb : b < 2 ^ 31 := by omega) : (x = y → A) ∧ (¬ x = y → B) := by
  subst hx hy
  rw [nI_eq ha hb]
  exact ⟨f, g⟩
theorem pk_least (P : Nat → Prop) (h : ∃ k, P k) : ∃ k, P k ∧ ∀ j, j < k → ¬ P j := by
  obtain ⟨k, hk⟩ := h
  induction k using Nat.strongRecOn with
  | ind k ih =>
    by_cases e : ∃ j, j < k ∧ P j
    · obtain ⟨j, hj, pj⟩ := e
      exact ih j hj pj
    · exact ⟨k, hk, fun j hj pj => e ⟨j, hj, pj⟩⟩
/-- both hold the same number, from 1 to 30000 -/
def i_Rel (_ : Nat) (u : SX) (v : SY) : Prop := u = v ∧ ∃ n : Nat, 1 ≤ n ∧ n ≤ 30000 ∧ u = nI n
theorem i_up {k : Nat} {u : SX} {v : SY} (h : i_Rel k u v) : i_Rel (k + 3) u v := h
theorem i_vc0 : wpX_init (fun u => wpY_init (fun v => i_Rel 0 u v)) := ⟨rfl, 1, by omega, by omega, rfl⟩
end
section
/-! primes, least divisors, orders: plain arithmetic -/
def nt_Pr (m : Nat) : Prop := 2 ≤ m ∧ ∀ d, 2 ≤ d → d ∣ m → d = m
def nt_Sf (m p : Nat) : Prop := 2 ≤ p ∧ p ∣ m ∧ ∀ d, 2 ≤ d → d ∣ m → p ≤ d
theorem nt_sf_uniq {m p q : Nat} (hp : nt_Sf m p) (hq : nt_Sf m q) : p = q :=
  Nat.le_antisymm (hp.2.2 q hq.1 hq.2.1) (hq.2.2 p hp.1 hp.2.1)
theorem nt_sf_ex {m : Nat} (h : 2 ≤ m) : ∃ p, nt_Sf m p := by
  obtain ⟨p, hp, hl⟩ := pk_least (fun d => 2 ≤ d ∧ d ∣ m) ⟨m, h, Nat.dvd_refl m⟩
  exact ⟨p, hp.1, hp.2, fun d h2 hd => Nat.le_of_not_lt fun hlt => hl d hlt ⟨h2, hd⟩⟩
theorem nt_sf_pr {m p : Nat} (h : nt_Sf m p) : nt_Pr p :=
  ⟨h.1, fun d h2 hd => Nat.le_antisymm (Nat.le_of_dvd (Nat.lt_of_lt_of_le (by decide) h.1) hd) (h.2.2 d h2 (Nat.dvd_trans hd h.2.1))⟩
theorem nt_sf_eq {m p : Nat} (h : nt_Sf m p) : p = m ↔ nt_Pr m :=
  ⟨fun e => e ▸ nt_sf_pr h, fun hp => hp.2 p h.1 h.2.1⟩
theorem nt_pr_sf {m : Nat} (h : nt_Pr m) : nt_Sf m m :=
  ⟨h.1, Nat.dvd_refl m, fun d h2 hd => Nat.le_of_eq (h.2 d h2 hd).symm⟩
theorem nt_big {m d : Nat} (hm : 2 ≤ m) (hs : m < d * d) (hI : ∀ e, 2 ≤ e → e < d → ¬ e ∣ m) : nt_Pr m := by
  refine ⟨hm, fun e he hem => ?_⟩
  obtain ⟨c, hc⟩ := hem
  by_cases h1 : c = 1
  · rw [hc, h1, Nat.mul_one]
  · have h0 : c ≠ 0 := fun z => by rw [z, Nat.mul_zero] at hc; omega
    have a : ¬ e < d := fun h => hI e he h ⟨c, hc⟩
    have b : ¬ c < d := fun h => hI c (by omega) h ⟨e, by rw [hc, Nat.mul_comm]⟩
    have : d * d ≤ e * c := Nat.mul_le_mul (by omega) (by omega)
    omega
theorem nt_cop {p k : Nat} (hp : nt_Pr p) (h : ¬ p ∣ k) : Nat.Coprime p k := by
  have hg : Nat.gcd p k ∣ p := Nat.gcd_dvd_left p k
  have h0 : Nat.gcd p k ≠ 0 := fun z => by
    have := Nat.eq_zero_of_gcd_eq_zero_left z
    have := hp.1
    omega
  by_cases h2 : 2 ≤ Nat.gcd p k
  · have e := hp.2 _ h2 hg
    exact absurd (e ▸ Nat.gcd_dvd_right p k) h
  · show Nat.gcd p k = 1
    omega
theorem nt_euc {p a b : Nat} (hp : nt_Pr p) (h : p ∣ a * b) (ha : ¬ p ∣ a) : p ∣ b :=
  Nat.Coprime.dvd_of_dvd_mul_left (nt_cop hp ha) h
/-- no more pigeons than holes -/
theorem nt_pig : ∀ (m : Nat) (f : Nat → Nat), (∀ i, i ≤ m → f i < m) → ∃ i j, i < j ∧ j ≤ m ∧ f i = f j := by
  intro m
  induction m with
  | zero => intro f h; exact absurd (h 0 (Nat.le_refl 0)) (Nat.not_lt_zero _)
  | succ m ih =>
    intro f h
    by_cases c : ∃ i, i ≤ m ∧ f i = f (m + 1)
    · obtain ⟨i, hi, e⟩ := c
      exact ⟨i, m + 1, by omega, Nat.le_refl _, e⟩
    · have hv := h (m + 1) (Nat.le_refl _)
      have hg : ∀ i, i ≤ m → (if f i < f (m + 1) then f i else f i - 1) < m := by
        intro i hi
        have a : f i ≠ f (m + 1) := fun z => c ⟨i, hi, z⟩
        have b := h i (by omega)
        by_cases q : f i < f (m + 1)
        · rw [if_pos q]; omega
        · rw [if_neg q]; omega
      obtain ⟨i, j, hij, hj, e⟩ := ih (fun i => if f i < f (m + 1) then f i else f i - 1) hg
      refine ⟨i, j, hij, by omega, ?_⟩
      have a : f i ≠ f (m + 1) := fun z => c ⟨i, by omega, z⟩
      have b : f j ≠ f (m + 1) := fun z => c ⟨j, hj, z⟩
      by_cases q : f i < f (m + 1)
      · by_cases q' : f j < f (m + 1)
        · rw [if_pos q, if_pos q'] at e; exact e
        · rw [if_pos q, if_neg q'] at e; omega
      · by_cases q' : f j < f (m + 1)
        · rw [if_neg q, if_pos q'] at e; omega
        · rw [if_neg q, if_neg q'] at e; omega
/-- a base with no common factor has an order below N -/
theorem nt_ord_ex {b N : Nat} (hN : 2 ≤ N) (hg : Nat.Coprime b N) : ∃ e, 1 ≤ e ∧ e < N ∧ b ^ e % N = 1 := by
  have hpos : ∀ i, 1 ≤ b ^ i % N := by
    intro i
    by_cases z : b ^ i % N = 0
    · have d : N ∣ b ^ i := Nat.dvd_of_mod_eq_zero z
      have c : Nat.Coprime N (b ^ i) := Nat.Coprime.pow_right i hg.symm
      have := Nat.Coprime.eq_one_of_dvd c d
      omega
    · omega
  obtain ⟨i, j, hij, hj, e⟩ := nt_pig (N - 1) (fun i => b ^ i % N - 1) (fun i _ => by
    have := hpos i
    have : b ^ i % N < N := Nat.mod_lt _ (by omega)
    omega)
  have e2 : b ^ j % N = b ^ i % N := by
    have := hpos i
    have := hpos j
    omega
  have d : N ∣ b ^ j - b ^ i := Nat.dvd_of_mod_eq_zero (Nat.sub_mod_eq_zero_of_mod_eq e2)
  have hs : b ^ j = b ^ i * b ^ (j - i) := by rw [← Nat.pow_add]; congr 1; omega
  have d2 : N ∣ b ^ i * (b ^ (j - i) - 1) := by
    rw [Nat.mul_sub, Nat.mul_one, ← hs]; exact d
  have d3 : N ∣ b ^ (j - i) - 1 := Nat.Coprime.dvd_of_dvd_mul_left (Nat.Coprime.pow_right i hg.symm) d2
  refine ⟨j - i, by omega, by omega, ?_⟩
  obtain ⟨c, hc⟩ := d3
  have h1 : 1 ≤ b ^ (j - i) := by
    have := hpos (j - i)
    exact Nat.le_trans this (Nat.mod_le _ _)
  have : b ^ (j - i) = 1 + N * c := by omega
  rw [this, Nat.add_mul_mod_self_left, Nat.mod_eq_of_lt (by omega)]
theorem nt_ord_cop {b N e : Nat} (hN : 2 ≤ N) (he : 1 ≤ e) (h : b ^ e % N = 1) : Nat.gcd b N = 1 := by
  have d0 : b ∣ b ^ e := by
    obtain ⟨c, rfl⟩ : ∃ c, e = c + 1 := ⟨e - 1, by omega⟩
    rw [Nat.pow_succ]
    exact Nat.dvd_mul_left b _
  have d1 : Nat.gcd b N ∣ b ^ e := Nat.dvd_trans (Nat.gcd_dvd_left b N) d0
  have d2 : Nat.gcd b N ∣ b ^ e % N := (Nat.dvd_mod_iff (Nat.gcd_dvd_right b N)).mpr d1
  rw [h] at d2
  exact Nat.eq_one_of_dvd_one d2
end
section
/-! prime tests on both sides -/
theorem wk_sf {m : Nat} (hm : 2 ≤ m) (hb : m < 2 ^ 30) {post : Int32 → Prop} (hp : ∀ p, nt_Sf m p → post (nI p)) : ∀ (n d : Nat), 2 ≤ d → d ≤ m → m < n + d → (∀ e, 2 ≤ e → e < d → ¬ e ∣ m) → wX_smallestFactor_2 post (nI m) n (nI d) := by
  intro n
  induction n with
  | zero => intro d _ h1 h2; omega
  | succ n ih =>
    intro d h2 hdm hf hI
    have hq : m / d ≤ m := Nat.div_le_self m d
    have hr : m % d ≤ m := Nat.mod_le m d
    refine And.intro (nI_ne0 (by omega) (by omega)) (pk_lt (m / d) d (fun h => ?_) (fun h => ?_) (pk_div (by omega) (by omega) (by omega)) rfl (by omega) (by omega))
    · have hs : m < d * d := (Nat.div_lt_iff_lt_mul (by omega)).mp h
      exact hp m (nt_pr_sf (nt_big hm hs hI))
    · have hs : d * d ≤ m := (Nat.le_div_iff_mul_le (by omega)).mp h
      have h3 : d * 2 ≤ d * d := Nat.mul_le_mul_left d h2
      refine And.intro (nI_ne0 (by omega) (by omega)) (pk_eq (m % d) 0 (fun h0 => ?_) (fun h0 => ?_) (pk_rem (by omega) (by omega) (by omega)) nI_0.symm (by omega) (by omega))
      · exact hp d ⟨h2, Nat.dvd_of_mod_eq_zero h0, fun e he hem => Nat.le_of_not_lt fun hl => hI e he hl hem⟩
      · refine nm_r (nI_1 d) (ih (d + 1) (by omega) (by omega) (by omega) (fun e he hl hem => ?_))
        by_cases q : e = d
        · exact h0 (Nat.mod_eq_zero_of_dvd (q ▸ hem))
        · exact hI e he (by omega) hem
theorem wk_sfX {m : Nat} (hm : 2 ≤ m) (hb : m < 2 ^ 30) {post : Int32 → Prop} (hp : ∀ p, nt_Sf m p → post (nI p)) : wpX_smallestFactor post (nI m) :=
  ⟨m + 1, wk_sf hm hb hp (m + 1) 2 (by omega) hm (by omega) (fun e h1 h2 => by omega)⟩
theorem wk_ptX {m : Nat} (hb : m < 2 ^ 30) {post : Int32 → Prop} (ht : nt_Pr m → post 1) (hf : ¬ nt_Pr m → post 0) : wpX_primeTest post (nI m) :=
  pk_le m 1 (fun h => hf (fun hp => by have := hp.1; omega)) (fun h => wk_sfX (by omega) hb (fun p hp => by
    have hpm : p ≤ m := Nat.le_of_dvd (by omega) hp.2.1
    exact pk_eq p m (fun e => ht ((nt_sf_eq hp).mp e)) (fun e => hf fun z => e ((nt_sf_eq hp).mpr z)) rfl rfl (by omega) (by omega))) rfl rfl (by omega) (by omega)
theorem wk_pY9 {m : Nat} (f : Int32) (hm : 2 ≤ m) (hb : m ≤ 60000) {post : Int32 → Prop} (ht : nt_Pr m → post 1) (hf : ¬ nt_Pr m → post 0) : ∀ (n d : Nat), 2 ≤ d → d ≤ 300 → 300 < n + d → (∀ e, 2 ≤ e → e < d → ¬ e ∣ m) → wY_prime_9 post (nI m) f n (nI d) := by
  intro n
  induction n with
  | zero => intro d _ h1 h2; omega
  | succ n ih =>
    intro d h2 hd3 hf' hI
    have hdd : d * d ≤ 300 * 300 := Nat.mul_le_mul hd3 hd3
    have hr : m % d ≤ m := Nat.mod_le m d
    refine pk_lt m (d * d) (fun h => ?_) (fun h => ?_) rfl (pk_mul d d) (by omega) (by omega)
    · exact ht (nt_big hm h hI)
    · have h3 : d < 300 := Nat.lt_of_not_le fun z => by
        have := Nat.mul_le_mul z z
        omega
      have h4 : d * 2 ≤ d * d := Nat.mul_le_mul_left d h2
      refine And.intro (nI_ne0 (by omega) (by omega)) (pk_eq (m % d) 0 (fun h0 => ?_) (fun h0 => ?_) (pk_rem (by omega) (by omega) (by omega)) nI_0.symm (by omega) (by omega))
      · refine hf (fun hp => ?_)
        have := hp.2 d h2 (Nat.dvd_of_mod_eq_zero h0)
        omega
      · refine nm_r (nI_1 d) (ih (d + 1) (by omega) (by omega) (by omega) (fun e he hl hem => ?_))
        by_cases q : e = d
        · exact h0 (Nat.mod_eq_zero_of_dvd (q ▸ hem))
        · exact hI e he (by omega) hem
theorem wk_pY {m : Nat} (f : Int32) (hb : m ≤ 60000) {post : Int32 → Prop} (ht : nt_Pr m → post 1) (hf : ¬ nt_Pr m → post 0) : wpY_prime post f (nI m) :=
  pk_le 2 m (fun h => ⟨300, wk_pY9 f h hb ht hf 300 2 (by omega) (by omega) (by omega) (fun e h1 h2 => by omega)⟩) (fun h => hf (fun hp => by have := hp.1; omega)) rfl rfl (by omega) (by omega)
/-! divisors and sum: in lockstep -/
theorem wk_dv {N : Nat} (hN : N ≤ 30000) : ∀ (t j : Nat) (x : Int32), j + t = N + 1 → 1 ≤ j → ∃ r : Int32, (∀ post : Int32 → Prop, post r → wX_divisors_4 post (nI N) (t + 1) x (nI j)) ∧ (∀ post : Int32 → Prop, post r → wY_divisors_4 post (nI N) (t + 1) x (nI j)) := by
  intro t
  induction t with
  | zero =>
    intro j x hj h1
    have h : nI N < nI j := nI_lt (by omega) (by omega)
    exact ⟨x, fun _ hp => br_t h hp, fun _ hp => br_t h hp⟩
  | succ t ih =>
    intro j x hj h1
    have h : ¬ nI N < nI j := nI_nlt (by omega) (by omega)
    have hn : ¬ nI j = 0 := nI_ne0 (by omega) (by omega)
    have hr : nI N - nI N / nI j * nI j = nI (N % j) := pk_rem (by omega) (by omega) (by omega)
    have hm : N % j ≤ N := Nat.mod_le N j
    by_cases z : N % j = 0
    · have hz : nI N - nI N / nI j * nI j = 0 := by rw [hr, z]; exact nI_0
      obtain ⟨r, hX, hY⟩ := ih (j + 1) (x + 1) (by omega) (by omega)
      exact ⟨r, fun post hp => br_f h ⟨hn, br_t hz (nm_e (nm_r (nI_1 j) (hX post hp)))⟩, fun post hp => br_f h ⟨hn, br_t hz (nm_e (nm_r (nI_1 j) (hY post hp)))⟩⟩
    · have hz : ¬ nI N - nI N / nI j * nI j = 0 := by rw [hr]; exact nI_ne0 (by omega) (by omega)
      obtain ⟨r, hX, hY⟩ := ih (j + 1) x (by omega) (by omega)
      exact ⟨r, fun post hp => br_f h ⟨hn, br_f hz (nm_r (nI_1 j) (hX post hp))⟩, fun post hp => br_f h ⟨hn, br_f hz (nm_r (nI_1 j) (hY post hp))⟩⟩
theorem wk_sm {N : Nat} (hN : N ≤ 30000) : ∀ (t j : Nat) (x : Int32), j + t = N + 1 → 1 ≤ j → ∃ r : Int32, (∀ post : Int32 → Prop, post r → wX_sum_4 post (nI N) (t + 1) x (nI j)) ∧ (∀ post : Int32 → Prop, post r → wY_sum_4 post (nI N) (t + 1) x (nI j)) := by
  intro t
  induction t with
  | zero =>
    intro j x hj h1
    have h : nI N < nI j := nI_lt (by omega) (by omega)
    exact ⟨x, fun _ hp => br_t h hp, fun _ hp => br_t h hp⟩
  | succ t ih =>
    intro j x hj h1
    have h : ¬ nI N < nI j := nI_nlt (by omega) (by omega)
    have hn : ¬ nI j = 0 := nI_ne0 (by omega) (by omega)
    have hr : nI N - nI N / nI j * nI j = nI (N % j) := pk_rem (by omega) (by omega) (by omega)
    have hm : N % j ≤ N := Nat.mod_le N j
    by_cases z : N % j = 0
    · have hz : nI N - nI N / nI j * nI j = 0 := by rw [hr, z]; exact nI_0
      obtain ⟨r, hX, hY⟩ := ih (j + 1) (x + nI j) (by omega) (by omega)
      exact ⟨r, fun post hp => br_f h ⟨hn, br_t hz (nm_e (nm_r (nI_1 j) (hX post hp)))⟩, fun post hp => br_f h ⟨hn, br_t hz (nm_e (nm_r (nI_1 j) (hY post hp)))⟩⟩
    · have hz : ¬ nI N - nI N / nI j * nI j = 0 := by rw [hr]; exact nI_ne0 (by omega) (by omega)
      obtain ⟨r, hX, hY⟩ := ih (j + 1) x (by omega) (by omega)
      exact ⟨r, fun post hp => br_f h ⟨hn, br_f hz (nm_r (nI_1 j) (hX post hp))⟩, fun post hp => br_f h ⟨hn, br_f hz (nm_r (nI_1 j) (hY post hp))⟩⟩
end
section
/-! what is owed, one statement a method -/
theorem i_vc_take {k : Nat} {u : SX} {v : SY} (I : i_Rel k u v) (hk : k + 3 ≤ 1536) (v1 : Int32) : wpX_take (fun r u' => wpY_take (fun r' v' => r' = r ∧ i_Rel (k + 3) u' v') v v1) u v1 := by
  have J := i_up I
  obtain ⟨rfl, _⟩ := I
  unfold wpX_take wpX_outside wpY_take
  by_cases h1 : v1 < 1
  · refine br_t h1 (br_f (by decide) (br_t h1 ⟨rfl, J⟩))
  · by_cases h2 : v1 ≤ 30000
    · refine br_f h1 (br_t h2 (br_t rfl (br_f h1 (br_t h2 ⟨rfl, rfl, ?_⟩))))
      have h0 : ¬ v1 < 0 := fun z => h1 (Int32.lt_trans z (by decide))
      obtain ⟨j, hj, e⟩ := nI_of2 (M := 30000) (n := 30000) (by decide) h0 h2
      refine ⟨j, ?_, hj, e⟩
      by_cases z : j = 0
      · rw [e, z] at h1; exact absurd (by decide) h1
      · omega
    · exact br_f h1 (br_f h2 (br_f (by decide) (br_f h1 (br_f h2 ⟨rfl, J⟩))))
theorem i_vc_isPrime {k : Nat} {u : SX} {v : SY} (I : i_Rel k u v) (hk : k + 3 ≤ 1536) : wpX_isPrime (fun r => wpY_isPrime (fun r' => r' = r ∧ i_Rel (k + 3) u v) v) u := by
  have J := i_up I
  obtain ⟨rfl, n, h1, h2, rfl⟩ := I
  unfold wpX_isPrime wpY_isPrime
  exact wk_ptX (by omega) (fun hp => ⟨rfl, wk_pY _ (by omega) (fun _ => ⟨rfl, rfl, J⟩) (fun z => absurd hp z)⟩) (fun hp => ⟨rfl, wk_pY _ (by omega) (fun z => absurd z hp) (fun _ => ⟨rfl, rfl, J⟩)⟩)
theorem i_vc_divisors {k : Nat} {u : SX} {v : SY} (I : i_Rel k u v) (hk : k + 3 ≤ 1536) : wpX_divisors (fun r => wpY_divisors (fun r' => r' = r ∧ i_Rel (k + 3) u v) v) u := by
  have J := i_up I
  obtain ⟨rfl, n, h1, h2, rfl⟩ := I
  obtain ⟨r, hX, hY⟩ := wk_dv h2 n 1 0 (by omega) (by omega)
  exact ⟨_, hX _ ⟨_, hY _ ⟨rfl, J⟩⟩⟩
theorem i_vc_sum {k : Nat} {u : SX} {v : SY} (I : i_Rel k u v) (hk : k + 3 ≤ 1536) : wpX_sum (fun r => wpY_sum (fun r' => r' = r ∧ i_Rel (k + 3) u v) v) u := by
  have J := i_up I
  obtain ⟨rfl, n, h1, h2, rfl⟩ := I
  obtain ⟨r, hX, hY⟩ := wk_sm h2 n 1 0 (by omega) (by omega)
  exact ⟨_, hX _ ⟨_, hY _ ⟨rfl, J⟩⟩⟩
end
