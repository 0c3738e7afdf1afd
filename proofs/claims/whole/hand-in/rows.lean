section
/-! rows pasted from the rows to paste -/
theorem pk_sub {a b : Nat} (h : b ≤ a) : nI a - nI b = nI (a - b) := by
  obtain ⟨c, rfl⟩ : ∃ c, a = c + b := ⟨a - b, by omega⟩
  rw [← nI_add, Int32.add_sub_cancel, Nat.add_sub_cancel]
theorem pk_mul (a b : Nat) : nI a * nI b = nI (a * b) := (Int32.ofNat_mul a b).symm
theorem pk_div {a d : Nat} (ha : a < 2 ^ 31) (h0 : 0 < d) (hd : d < 2 ^ 31) : nI a / nI d = nI (a / d) := by
  apply Int32.toInt_inj.mp
  rw [lg_idiv_nonneg (by rw [nI_toInt ha]; omega) (by rw [nI_toInt hd]; omega), nI_toInt ha, nI_toInt hd, nI_toInt (Nat.lt_of_le_of_lt (Nat.div_le_self a d) ha)]
  first | rfl | exact (Int.natCast_ediv _ _).symm
theorem pk_rem {a d : Nat} (ha : a < 2 ^ 31) (h0 : 0 < d) (hd : d < 2 ^ 31) : nI a - nI a / nI d * nI d = nI (a % d) := by
  rw [pk_div ha h0 hd, pk_mul, pk_sub (Nat.div_mul_le_self a d)]
  exact congrArg nI (by have := Nat.div_add_mod' a d; omega)
theorem pk_le {x y : Int32} {A B : Prop} (a b : Nat) (f : a ≤ b → A) (g : b < a → B) (hx : x = nI a := by rfl) (hy : y = nI b := by rfl) (ha : a < 2 ^ 31 := by omega) (hb : b < 2 ^ 31 := by omega) : (x ≤ y → A) ∧ (¬ x ≤ y → B) := by
  subst hx hy
  rw [nI_leI ha hb]
  exact ⟨f, fun z => g (by omega)⟩
theorem pk_lt {x y : Int32} {A B : Prop} (a b : Nat) (f : a < b → A) (g : b ≤ a → B) (hx : x = nI a := by rfl) (hy : y = nI b := by rfl) (ha : a < 2 ^ 31 := by omega) (hb : b < 2 ^ 31 := by omega) : (x < y → A) ∧ (¬ x < y → B) := by
  subst hx hy
  rw [nI_ltI ha hb]
  exact ⟨f, fun z => g (by omega)⟩
theorem pk_eq {x y : Int32} {A B : Prop} (a b : Nat) (f : a = b → A) (g : a ≠ b → B) (hx : x = nI a := by rfl) (hy : y = nI b := by rfl) (ha : a < 2 ^ 31 := by omega) (hb : b < 2 ^ 31 := by omega) : (x = y → A) ∧ (¬ x = y → B) := by
  subst hx hy
  rw [nI_eq ha hb]
  exact ⟨f, g⟩
theorem pk_least (P : Nat → Prop) (h : ∃ k, P k) : ∃ k, P k ∧ ∀ j, j < k → ¬ P j := by
  obtain ⟨k, hk⟩ := h
  induction k using Nat.strongRecOn with
  | ind k ih =>
    by_cases e : ∃ j, j < k ∧ P j
    · obtain ⟨j, hj, pj⟩ := e
      exact ih j hj pj
    · exact ⟨k, hk, fun j hj pj => e ⟨j, hj, pj⟩⟩
/-- both hold the same number, from 1 to 30000 -/
def i_Rel (_ : Nat) (u : SX) (v : SY) : Prop := u = v ∧ ∃ n : Nat, 1 ≤ n ∧ n ≤ 30000 ∧ u = nI n
theorem i_up {k : Nat} {u : SX} {v : SY} (h : i_Rel k u v) : i_Rel (k + 3) u v := h
theorem i_vc0 : wpX_init (fun u => wpY_init (fun v => i_Rel 0 u v)) := ⟨rfl, 1, by omega, by omega, rfl⟩
end
section
/-! primes, least divisors, orders: plain arithmetic -/
def nt_Pr (m : Nat) : Prop := 2 ≤ m ∧ ∀ d, 2 ≤ d → d ∣ m → d = m
def nt_Sf (m p : Nat) : Prop := 2 ≤ p ∧ p ∣ m ∧ ∀ d, 2 ≤ d → d ∣ m → p ≤ d
theorem nt_sf_uniq {m p q : Nat} (hp : nt_Sf m p) (hq : nt_Sf m q) : p = q :=
  Nat.le_antisymm (hp.2.2 q hq.1 hq.2.1) (hq.2.2 p hp.1 hp.2.1)
theorem nt_sf_ex {m : Nat} (h : 2 ≤ m) : ∃ p, nt_Sf m p := by
  obtain ⟨p, hp, hl⟩ := pk_least (fun d => 2 ≤ d ∧ d ∣ m) ⟨m, h, Nat.dvd_refl m⟩
  exact ⟨p, hp.1, hp.2, fun d h2 hd => Nat.le_of_not_lt fun hlt => hl d hlt ⟨h2, hd⟩⟩
theorem nt_sf_pr {m p : Nat} (h : nt_Sf m p) : nt_Pr p :=
  ⟨h.1, fun d h2 hd => Nat.le_antisymm (Nat.le_of_dvd (Nat.lt_of_lt_of_le (by decide) h.1) hd) (h.2.2 d h2 (Nat.dvd_trans hd h.2.1))⟩
theorem nt_sf_eq {m p : Nat} (h : nt_Sf m p) : p = m ↔ nt_Pr m :=
  ⟨fun e => e ▸ nt_sf_pr h, fun hp => hp.2 p h.1 h.2.1⟩
theorem nt_pr_sf {m : Nat} (h : nt_Pr m) : nt_Sf m m :=
  ⟨h.1, Nat.dvd_refl m, fun d h2 hd => Nat.le_of_eq (h.2 d h2 hd).symm⟩
theorem nt_big {m d : Nat} (hm : 2 ≤ m) (hs : m < d * d) (hI : ∀ e, 2 ≤ e → e < d → ¬ e ∣ m) : nt_Pr m := by
  refine ⟨hm, fun e he hem => ?_⟩
  obtain ⟨c, hc⟩ := hem
  by_cases h1 : c = 1
  · rw [hc, h1, Nat.mul_one]
  · have h0 : c ≠ 0 := fun z => by rw [z, Nat.mul_zero] at hc; omega
    have a : ¬ e < d := fun h => hI e he h ⟨c, hc⟩
    have b : ¬ c < d := fun h => hI c (by omega) h ⟨e, by rw [hc, Nat.mul_comm]⟩
    have : d * d ≤ e * c := Nat.mul_le_mul (by omega) (by omega)
    omega
theorem nt_cop {p k : Nat} (hp : nt_Pr p) (h : ¬ p ∣ k) : Nat.Coprime p k := by
  have hg : Nat.gcd p k ∣ p := Nat.gcd_dvd_left p k
  have h0 : Nat.gcd p k ≠ 0 := fun z => by
    have := Nat.eq_zero_of_gcd_eq_zero_left z
    have := hp.1
    omega
  by_cases h2 : 2 ≤ Nat.gcd p k
  · have e := hp.2 _ h2 hg
    exact absurd (e ▸ Nat.gcd_dvd_right p k) h
  · show Nat.gcd p k = 1
    omega
theorem nt_euc {p a b : Nat} (hp : nt_Pr p) (h : p ∣ a * b) (ha : ¬ p ∣ a) : p ∣ b :=
  Nat.Coprime.dvd_of_dvd_mul_left (nt_cop hp ha) h
/-- no more pigeons than holes -/
theorem nt_pig : ∀ (m : Nat) (f : Nat → Nat), (∀ i, i ≤ m → f i < m) → ∃ i j, i < j ∧ j ≤ m ∧ f i = f j := by
  intro m
  induction m with
  | zero => intro f h; exact absurd (h 0 (Nat.le_refl 0)) (Nat.not_lt_zero _)
  | succ m ih =>
    intro f h
    by_cases c : ∃ i, i ≤ m ∧ f i = f (m + 1)
    · obtain ⟨i, hi, e⟩ := c
      exact ⟨i, m + 1, by omega, Nat.le_refl _, e⟩
    · have hv := h (m + 1) (Nat.le_refl _)
      have hg : ∀ i, i ≤ m → (if f i < f (m + 1) then f i else f i - 1) < m := by
        intro i hi
        have a : f i ≠ f (m + 1) := fun z => c ⟨i, hi, z⟩
        have b := h i (by omega)
        by_cases q : f i < f (m + 1)
        · rw [if_pos q]; omega
        · rw [if_neg q]; omega
      obtain ⟨i, j, hij, hj, e⟩ := ih (fun i => if f i < f (m + 1) then f i else f i - 1) hg
      refine ⟨i, j, hij, by omega, ?_⟩
      have a : f i ≠ f (m + 1) := fun z => c ⟨i, by omega, z⟩
      have b : f j ≠ f (m + 1) := fun z => c ⟨j, hj, z⟩
      by_cases q : f i < f (m + 1)
      · by_cases q' : f j < f (m + 1)
        · rw [if_pos q, if_pos q'] at e; exact e
        · rw [if_pos q, if_neg q'] at e; omega
      · by_cases q' : f j < f (m + 1)
        · rw [if_neg q, if_pos q'] at e; omega
        · rw [if_neg q, if_neg q'] at e; omega
/-- a base with no common factor has an order below N -/
theorem nt_ord_ex {b N : Nat} (hN : 2 ≤ N) (hg : Nat.Coprime b N) : ∃ e, 1 ≤ e ∧ e < N ∧ b ^ e % N = 1 := by
  have hpos : ∀ i, 1 ≤ b ^ i % N := by
    intro i
    by_cases z : b ^ i % N = 0
    · have d : N ∣ b ^ i := Nat.dvd_of_mod_eq_zero z
      have c : Nat.Coprime N (b ^ i) := Nat.Coprime.pow_right i hg.symm
      have := Nat.Coprime.eq_one_of_dvd c d
      omega
    · omega
  obtain ⟨i, j, hij, hj, e⟩ := nt_pig (N - 1) (fun i => b ^ i % N - 1) (fun i _ => by
    have := hpos i
    have : b ^ i % N < N := Nat.mod_lt _ (by omega)
    omega)
  have e2 : b ^ j % N = b ^ i % N := by
    have := hpos i
    have := hpos j
    omega
  have d : N ∣ b ^ j - b ^ i := Nat.dvd_of_mod_eq_zero (Nat.sub_mod_eq_zero_of_mod_eq e2)
  have hs : b ^ j = b ^ i * b ^ (j - i) := by rw [← Nat.pow_add]; congr 1; omega
  have d2 : N ∣ b ^ i * (b ^ (j - i) - 1) := by
    rw [Nat.mul_sub, Nat.mul_one, ← hs]; exact d
  have d3 : N ∣ b ^ (j - i) - 1 := Nat.Coprime.dvd_of_dvd_mul_left (Nat.Coprime.pow_right i hg.symm) d2
  refine ⟨j - i, by omega, by omega, ?_⟩
  obtain ⟨c, hc⟩ := d3
  have h1 : 1 ≤ b ^ (j - i) := by
    have := hpos (j - i)
    exact Nat.le_trans this (Nat.mod_le _ _)
  have : b ^ (j - i) = 1 + N * c := by omega
  rw [this, Nat.add_mul_mod_self_left, Nat.mod_eq_of_lt (by omega)]
theorem nt_ord_cop {b N e : Nat} (hN : 2 ≤ N) (he : 1 ≤ e) (h : b ^ e % N = 1) : Nat.gcd b N = 1 := by
  have d0 : b ∣ b ^ e := by
    obtain ⟨c, rfl⟩ : ∃ c, e = c + 1 := ⟨e - 1, by omega⟩
    rw [Nat.pow_succ]
    exact Nat.dvd_mul_left b _
  have d1 : Nat.gcd b N ∣ b ^ e := Nat.dvd_trans (Nat.gcd_dvd_left b N) d0
  have d2 : Nat.gcd b N ∣ b ^ e % N := (Nat.dvd_mod_iff (Nat.gcd_dvd_right b N)).mpr d1
  rw [h] at d2
  exact Nat.eq_one_of_dvd_one d2
end
section
/-! prime tests on both sides -/
theorem wk_sf {m : Nat} (hm : 2 ≤ m) (hb : m < 2 ^ 30) {post : Int32 → Prop} (hp : ∀ p, nt_Sf m p → post (nI p)) : ∀ (n d : Nat), 2 ≤ d → d ≤ m → m < n + d → (∀ e, 2 ≤ e → e < d → ¬ e ∣ m) → wX_smallestFactor_2 post (nI m) n (nI d) := by
  intro n
  induction n with
  | zero => intro d _ h1 h2; omega
  | succ n ih =>
    intro d h2 hdm hf hI
    have hq : m / d ≤ m := Nat.div_le_self m d
    have hr : m % d ≤ m := Nat.mod_le m d
    refine And.intro (nI_ne0 (by omega) (by omega)) (pk_lt (m / d) d (fun h => ?_) (fun h => ?_) (pk_div (by omega) (by omega) (by omega)) rfl (by omega) (by omega))
    · have hs : m < d * d := (Nat.div_lt_iff_lt_mul (by omega)).mp h
      exact hp m (nt_pr_sf (nt_big hm hs hI))
    · have hs : d * d ≤ m := (Nat.le_div_iff_mul_le (by omega)).mp h
      have h3 : d * 2 ≤ d * d := Nat.mul_le_mul_left d h2
      refine And.intro (nI_ne0 (by omega) (by omega)) (pk_eq (m % d) 0 (fun h0 => ?_) (fun h0 => ?_) (pk_rem (by omega) (by omega) (by omega)) nI_0.symm (by omega) (by omega))
      · exact hp d ⟨h2, Nat.dvd_of_mod_eq_zero h0, fun e he hem => Nat.le_of_not_lt fun hl => hI e he hl hem⟩
      · refine nm_r (nI_1 d) (ih (d + 1) (by omega) (by omega) (by omega) (fun e he hl hem => ?_))
        by_cases q : e = d
        · exact h0 (Nat.mod_eq_zero_of_dvd (q ▸ hem))
        · exact hI e he (by omega) hem
theorem wk_sfX {m : Nat} (hm : 2 ≤ m) (hb : m < 2 ^ 30) {post : Int32 → Prop} (hp : ∀ p, nt_Sf m p → post (nI p)) : wpX_smallestFactor post (nI m) :=
  ⟨m + 1, wk_sf hm hb hp (m + 1) 2 (by omega) hm (by omega) (fun e h1 h2 => by omega)⟩
theorem wk_ptX {m : Nat} (hb : m < 2 ^ 30) {post : Int32 → Prop} (ht : nt_Pr m → post 1) (hf : ¬ nt_Pr m → post 0) : wpX_primeTest post (nI m) :=
  pk_le m 1 (fun h => hf (fun hp => by have := hp.1; omega)) (fun h => wk_sfX (by omega) hb (fun p hp => by
    have hpm : p ≤ m := Nat.le_of_dvd (by omega) hp.2.1
    exact pk_eq p m (fun e => ht ((nt_sf_eq hp).mp e)) (fun e => hf fun z => e ((nt_sf_eq hp).mpr z)) rfl rfl (by omega) (by omega))) rfl rfl (by omega) (by omega)
theorem wk_pY9 {m : Nat} (f : Int32) (hm : 2 ≤ m) (hb : m ≤ 60000) {post : Int32 → Prop} (ht : nt_Pr m → post 1) (hf : ¬ nt_Pr m → post 0) : ∀ (n d : Nat), 2 ≤ d → d ≤ 300 → 300 < n + d → (∀ e, 2 ≤ e → e < d → ¬ e ∣ m) → wY_prime_9 post (nI m) f n (nI d) := by
  intro n
  induction n with
  | zero => intro d _ h1 h2; omega
  | succ n ih =>
    intro d h2 hd3 hf' hI
    have hdd : d * d ≤ 300 * 300 := Nat.mul_le_mul hd3 hd3
    have hr : m % d ≤ m := Nat.mod_le m d
    refine pk_lt m (d * d) (fun h => ?_) (fun h => ?_) rfl (pk_mul d d) (by omega) (by omega)
    · exact ht (nt_big hm h hI)
    · have h3 : d < 300 := Nat.lt_of_not_le fun z => by
        have := Nat.mul_le_mul z z
        omega
      have h4 : d * 2 ≤ d * d := Nat.mul_le_mul_left d h2
      refine And.intro (nI_ne0 (by omega) (by omega)) (pk_eq (m % d) 0 (fun h0 => ?_) (fun h0 => ?_) (pk_rem (by omega) (by omega) (by omega)) nI_0.symm (by omega) (by omega))
      · refine hf (fun hp => ?_)
        have := hp.2 d h2 (Nat.dvd_of_mod_eq_zero h0)
        omega
      · refine nm_r (nI_1 d) (ih (d + 1) (by omega) (by omega) (by omega) (fun e he hl hem => ?_))
        by_cases q : e = d
        · exact h0 (Nat.mod_eq_zero_of_dvd (q ▸ hem))
        · exact hI e he (by omega) hem
theorem wk_pY {m : Nat} (f : Int32) (hb : m ≤ 60000) {post : Int32 → Prop} (ht : nt_Pr m → post 1) (hf : ¬ nt_Pr m → post 0) : wpY_prime post f (nI m) :=
  pk_le 2 m (fun h => ⟨300, wk_pY9 f h hb ht hf 300 2 (by omega) (by omega) (by omega) (fun e h1 h2 => by omega)⟩) (fun h => hf (fun hp => by have := hp.1; omega)) rfl rfl (by omega) (by omega)
/-! divisors and sum: in lockstep -/
theorem wk_dv {N : Nat} (hN : N ≤ 30000) : ∀ (t j : Nat) (x : Int32), j + t = N + 1 → 1 ≤ j → ∃ r : Int32, (∀ post : Int32 → Prop, post r → wX_divisors_4 post (nI N) (t + 1) x (nI j)) ∧ (∀ post : Int32 → Prop, post r → wY_divisors_4 post (nI N) (t + 1) x (nI j)) := by
  intro t
  induction t with
  | zero =>
    intro j x hj h1
    have h : nI N < nI j := nI_lt (by omega) (by omega)
    exact ⟨x, fun _ hp => br_t h hp, fun _ hp => br_t h hp⟩
  | succ t ih =>
    intro j x hj h1
    have h : ¬ nI N < nI j := nI_nlt (by omega) (by omega)
    have hn : ¬ nI j = 0 := nI_ne0 (by omega) (by omega)
    have hr : nI N - nI N / nI j * nI j = nI (N % j) := pk_rem (by omega) (by omega) (by omega)
    have hm : N % j ≤ N := Nat.mod_le N j
    by_cases z : N % j = 0
    · have hz : nI N - nI N / nI j * nI j = 0 := by rw [hr, z]; exact nI_0
      obtain ⟨r, hX, hY⟩ := ih (j + 1) (x + 1) (by omega) (by omega)
      exact ⟨r, fun post hp => br_f h ⟨hn, br_t hz (nm_e (nm_r (nI_1 j) (hX post hp)))⟩, fun post hp => br_f h ⟨hn, br_t hz (nm_e (nm_r (nI_1 j) (hY post hp)))⟩⟩
    · have hz : ¬ nI N - nI N / nI j * nI j = 0 := by rw [hr]; exact nI_ne0 (by omega) (by omega)
      obtain ⟨r, hX, hY⟩ := ih (j + 1) x (by omega) (by omega)
      exact ⟨r, fun post hp => br_f h ⟨hn, br_f hz (nm_r (nI_1 j) (hX post hp))⟩, fun post hp => br_f h ⟨hn, br_f hz (nm_r (nI_1 j) (hY post hp))⟩⟩
theorem wk_sm {N : Nat} (hN : N ≤ 30000) : ∀ (t j : Nat) (x : Int32), j + t = N + 1 → 1 ≤ j → ∃ r : Int32, (∀ post : Int32 → Prop, post r → wX_sum_4 post (nI N) (t + 1) x (nI j)) ∧ (∀ post : Int32 → Prop, post r → wY_sum_4 post (nI N) (t + 1) x (nI j)) := by
  intro t
  induction t with
  | zero =>
    intro j x hj h1
    have h : nI N < nI j := nI_lt (by omega) (by omega)
    exact ⟨x, fun _ hp => br_t h hp, fun _ hp => br_t h hp⟩
  | succ t ih =>
    intro j x hj h1
    have h : ¬ nI N < nI j := nI_nlt (by omega) (by omega)
    have hn : ¬ nI j = 0 := nI_ne0 (by omega) (by omega)
    have hr : nI N - nI N / nI j * nI j = nI (N % j) := pk_rem (by omega) (by omega) (by omega)
    have hm : N % j ≤ N := Nat.mod_le N j
    by_cases z : N % j = 0
    · have hz : nI N - nI N / nI j * nI j = 0 := by rw [hr, z]; exact nI_0
      obtain ⟨r, hX, hY⟩ := ih (j + 1) (x + nI j) (by omega) (by omega)
      exact ⟨r, fun post hp => br_f h ⟨hn, br_t hz (nm_e (nm_r (nI_1 j) (hX post hp)))⟩, fun post hp => br_f h ⟨hn, br_t hz (nm_e (nm_r (nI_1 j) (hY post hp)))⟩⟩
    · have hz : ¬ nI N - nI N / nI j * nI j = 0 := by rw [hr]; exact nI_ne0 (by omega) (by omega)
      obtain ⟨r, hX, hY⟩ := ih (j + 1) x (by omega) (by omega)
      exact ⟨r, fun post hp => br_f h ⟨hn, br_f hz (nm_r (nI_1 j) (hX post hp))⟩, fun post hp => br_f h ⟨hn, br_f hz (nm_r (nI_1 j) (hY post hp))⟩⟩
end
section
/-! gcd, power, order, root -/
theorem wk_arg {x : Int32} (h0 : ¬ x < 0) (h : x ≤ 30000) : ∃ j : Nat, j ≤ 30000 ∧ x = nI j :=
  nI_of2 (M := 30000) (n := 30000) (by decide) h0 h
theorem wk_gcd (f : Int32) {post : Int32 → Prop} : ∀ (n p q : Nat), p < n → p < 2 ^ 31 → q < 2 ^ 31 → post (nI (Nat.gcd p q)) → wY_common_5 post f n (nI p) (nI q) := by
  intro n
  induction n with
  | zero => intro p q h; omega
  | succ n ih =>
    intro p q hn hp hq hh
    refine pk_eq p 0 (fun h => ?_) (fun h => ?_) rfl rfl hp (by omega)
    · rw [h, Nat.gcd_zero_left] at hh
      exact hh
    · have hl : q % p < p := Nat.mod_lt q (by omega)
      refine And.intro (nI_ne0 (by omega) hp) (nm_r (pk_rem hq (by omega) hp) (ih (q % p) p (by omega) (by omega) hp ?_))
      rw [← Nat.gcd_rec]
      exact hh
theorem wk_gcdY (f : Int32) {post : Int32 → Prop} {p q : Nat} (hp : p < 2 ^ 31) (hq : q < 2 ^ 31) (h : post (nI (Nat.gcd p q))) : wpY_common post f (nI p) (nI q) :=
  ⟨p + 1, wk_gcd f (p + 1) p q (by omega) hp hq h⟩
theorem wk_prod {a b : Nat} (ha : a ≤ 30000) (hb : b ≤ 30000) : a * b < 2 ^ 31 := by
  have := Nat.mul_le_mul ha hb
  omega
theorem wk_mX {N r b : Nat} (h1 : 1 ≤ N) (hN : N ≤ 30000) (hr : r ≤ 30000) (hb : b ≤ 30000) : nI r * nI b - nI r * nI b / nI N * nI N = nI (r * b % N) := by
  rw [pk_mul]
  exact pk_rem (wk_prod hr hb) (by omega) (by omega)
theorem wk_mY {N r b : Nat} (h1 : 1 ≤ N) (hN : N ≤ 30000) (hr : r ≤ 30000) (hb : b ≤ 30000) : nI r * (nI b - nI b / nI N * nI N) - nI r * (nI b - nI b / nI N * nI N) / nI N * nI N = nI (r * b % N) := by
  have hm : b % N < N := Nat.mod_lt b (by omega)
  rw [pk_rem (a := b) (d := N) (by omega) (by omega) (by omega), wk_mX h1 hN hr (by omega), Nat.mul_mod_mod]
theorem wk_pw {N b E : Nat} (h1 : 1 ≤ N) (hN : N ≤ 30000) (hb : b ≤ 30000) (hE : E ≤ 30000) : ∀ (t i r : Nat), i + t = E → r ≤ 30000 → ∃ q : Int32, (∀ post : Int32 → Prop, post q → wX_power_28 post (nI b) (nI E) (nI N) (t + 1) (nI r) (nI i)) ∧ (∀ post : Int32 → Prop, post q → wY_power_34 post (nI b) (nI E) (nI N) (t + 1) (nI r) (nI i)) := by
  intro t
  induction t with
  | zero =>
    intro i r hi hr
    have h : nI E ≤ nI i := nI_le (by omega) (by omega)
    exact ⟨nI r, fun _ hp => br_t h hp, fun _ hp => br_t h hp⟩
  | succ t ih =>
    intro i r hi hr
    have h : ¬ nI E ≤ nI i := nI_ge (by omega) (by omega)
    have hn : ¬ nI N = 0 := nI_ne0 (by omega) (by omega)
    have hm : r * b % N < N := Nat.mod_lt _ (by omega)
    obtain ⟨q, hX, hY⟩ := ih (i + 1) (r * b % N) (by omega) (by omega)
    exact ⟨q, fun post hp => br_f h ⟨hn, nm_r (wk_mX h1 hN hr hb) (nm_r (nI_1 i) (hX post hp))⟩, fun post hp => br_f h ⟨hn, hn, nm_r (wk_mY h1 hN hr hb) (nm_r (nI_1 i) (hY post hp))⟩⟩
/-! orders -/
theorem wk_se {N b : Nat} (h1 : 1 ≤ N) (hN : N ≤ 30000) (hb : b ≤ 30000) {post : Int32 → Prop} (hy : ∀ e, 1 ≤ e → e < N → b ^ e % N = 1 → (∀ j, 1 ≤ j → j < e → b ^ j % N ≠ 1) → post (nI e)) (hn : (∀ j, 1 ≤ j → j < N → b ^ j % N ≠ 1) → post (-2)) : ∀ (n e r : Nat), 1 ≤ e → e ≤ N → N < n + e → r ≤ 30000 → r * b % N = b ^ e % N → (∀ j, 1 ≤ j → j < e → b ^ j % N ≠ 1) → wX_smallestExponent_4 post (nI b) (nI N) n (nI r) (nI e) := by
  intro n
  induction n with
  | zero => intro e r _ h2 h3; omega
  | succ n ih =>
    intro e r he heN hf hr hm hI
    have hl : b ^ e % N < N := Nat.mod_lt _ (by omega)
    refine pk_le N e (fun h => hn (fun j a c => hI j a (by omega))) (fun h => And.intro (nI_ne0 (by omega) (by omega)) (nm_r ((wk_mX h1 hN hr hb).trans (congrArg nI hm)) (pk_eq (b ^ e % N) 1 (fun h' => hy e he h h' hI) (fun h' => nm_r (nI_1 e) (ih (e + 1) (b ^ e % N) (by omega) (by omega) (by omega) (by omega) ?_ (fun j a c => ?_))) rfl rfl (by omega) (by omega)))) rfl rfl (by omega) (by omega)
    · rw [Nat.mod_mul_mod, Nat.pow_succ]
    · by_cases q : j = e
      · rw [q]; exact h'
      · exact hI j a (by omega)
theorem wk_seX {N b : Nat} (h1 : 1 ≤ N) (hN : N ≤ 30000) (hb : b ≤ 30000) {post : Int32 → Prop} (hy : ∀ e, 1 ≤ e → e < N → b ^ e % N = 1 → (∀ j, 1 ≤ j → j < e → b ^ j % N ≠ 1) → post (nI e)) (hn : (∀ j, 1 ≤ j → j < N → b ^ j % N ≠ 1) → post (-2)) : wpX_smallestExponent post (nI N) (nI b) :=
  ⟨N + 1, wk_se h1 hN hb hy hn (N + 1) 1 1 (by omega) h1 (by omega) (by omega) (by rw [Nat.one_mul, Nat.pow_one]) (fun j a c => by omega)⟩
theorem wk_oo {N b e0 : Nat} (h1 : 1 ≤ N) (hN : N ≤ 30000) (hb : b ≤ 30000) (h0 : e0 < 2 ^ 30) (he0 : b ^ e0 % N = 1) (hl : ∀ j, 1 ≤ j → j < e0 → b ^ j % N ≠ 1) {post : Int32 → Prop} (hp : post (nI e0)) : ∀ (n e : Nat), 1 ≤ e → e ≤ e0 → e0 < n + e → wY_orderOf_9 post (nI b) (nI N) n (nI (b ^ e % N)) (nI e) := by
  intro n
  induction n with
  | zero => intro e _ a c; omega
  | succ n ih =>
    intro e he hee hf
    have hlt : b ^ e % N < N := Nat.mod_lt _ (by omega)
    have hne : ¬ nI N = 0 := nI_ne0 (by omega) (by omega)
    refine pk_eq (b ^ e % N) 1 (fun h => ?_) (fun h => And.intro hne (And.intro hne (nm_r (e' := nI (b ^ (e + 1) % N)) ?_ (nm_r (nI_1 e) (ih (e + 1) (by omega) ?_ (by omega)))))) rfl rfl (by omega) (by omega)
    · have : e = e0 := by
        by_cases q : e = e0
        · exact q
        · exact absurd h (hl e he (by omega))
      rw [this]; exact hp
    · rw [wk_mY h1 hN (by omega) hb, Nat.mod_mul_mod, ← Nat.pow_succ]
    · by_cases q : e = e0
      · rw [q] at h; exact absurd he0 h
      · omega
theorem wk_ooY {N b e0 : Nat} (h1 : 1 ≤ N) (hN : N ≤ 30000) (hb : b ≤ 30000) (h0 : e0 < 2 ^ 30) (h01 : 1 ≤ e0) (he0 : b ^ e0 % N = 1) (hl : ∀ j, 1 ≤ j → j < e0 → b ^ j % N ≠ 1) {post : Int32 → Prop} (hp : post (nI e0)) : wpY_orderOf post (nI N) (nI b) :=
  And.intro (nI_ne0 (by omega) (by omega)) (nm_r (e' := nI (b ^ 1 % N)) (by rw [Nat.pow_one]; exact pk_rem (by omega) (by omega) (by omega)) ⟨e0 + 1, wk_oo h1 hN hb h0 he0 hl hp (e0 + 1) 1 (by omega) h01 (by omega)⟩)
/-! root -/
theorem wk_rt {N : Nat} (hN : N ≤ 30000) (hp : nt_Pr N) (a : Int32) : ∀ (t x : Nat), x + t = N → ∃ q : Int32, (∀ post : Int32 → Prop, post q → wX_root_32 post (a - a / nI N * nI N) (nI N) (t + 1) (nI x)) ∧ (∀ post : Int32 → Prop, post q → wY_root_15 post a (nI N) (t + 1) (nI x)) := by
  intro t
  induction t with
  | zero =>
    intro x hx
    have h : nI N ≤ nI x := nI_le (by omega) (by omega)
    exact ⟨-2, fun _ hp => br_t h hp, fun _ hp => br_t h hp⟩
  | succ t ih =>
    intro x hx
    have h : ¬ nI N ≤ nI x := nI_ge (by omega) (by omega)
    have hn : ¬ nI N = 0 := nI_ne0 (by omega) (by omega)
    by_cases z : nI x * nI x - nI x * nI x / nI N * nI N = a - a / nI N * nI N
    · exact ⟨nI x, fun post hq => br_f h ⟨hn, br_t z hq⟩, fun post hq => br_f h (wk_pY _ (by omega) (fun _ => br_f (by decide) ⟨hn, hn, br_t z hq⟩) (fun w => absurd hp w))⟩
    · obtain ⟨q, hX, hY⟩ := ih (x + 1) (by omega)
      exact ⟨q, fun post hq => br_f h ⟨hn, br_f z (nm_r (nI_1 x) (hX post hq))⟩, fun post hq => br_f h (wk_pY _ (by omega) (fun _ => br_f (by decide) ⟨hn, hn, br_f z (nm_r (nI_1 x) (hY post hq))⟩) (fun w => absurd hp w))⟩
/-! the next prime -/
theorem nt_chk {p d : Nat} (h2 : 2 ≤ p) (h : p < d * d) (hd : ∀ e, e < d → 2 ≤ e → p % e ≠ 0) : nt_Pr p :=
  nt_big h2 h (fun e a b c => hd e b a (Nat.mod_eq_zero_of_dvd c))
theorem nt_p2 : nt_Pr 2 := nt_chk (d := 2) (by decide) (by decide) (by decide +kernel)
theorem nt_p3 : nt_Pr 3 := nt_chk (d := 2) (by decide) (by decide) (by decide +kernel)
theorem nt_p5 : nt_Pr 5 := nt_chk (d := 3) (by decide) (by decide) (by decide +kernel)
theorem nt_p7 : nt_Pr 7 := nt_chk (d := 3) (by decide) (by decide) (by decide +kernel)
theorem nt_p13 : nt_Pr 13 := nt_chk (d := 4) (by decide) (by decide) (by decide +kernel)
theorem nt_p23 : nt_Pr 23 := nt_chk (d := 5) (by decide) (by decide) (by decide +kernel)
theorem nt_p43 : nt_Pr 43 := nt_chk (d := 7) (by decide) (by decide) (by decide +kernel)
theorem nt_p83 : nt_Pr 83 := nt_chk (d := 10) (by decide) (by decide) (by decide +kernel)
theorem nt_p163 : nt_Pr 163 := nt_chk (d := 13) (by decide) (by decide) (by decide +kernel)
theorem nt_p317 : nt_Pr 317 := nt_chk (d := 18) (by decide) (by decide) (by decide +kernel)
theorem nt_p631 : nt_Pr 631 := nt_chk (d := 26) (by decide) (by decide) (by decide +kernel)
theorem nt_p1259 : nt_Pr 1259 := nt_chk (d := 36) (by decide) (by decide) (by decide +kernel)
theorem nt_p2503 : nt_Pr 2503 := nt_chk (d := 51) (by decide) (by decide) (by decide +kernel)
theorem nt_p5003 : nt_Pr 5003 := nt_chk (d := 71) (by decide) (by decide) (by decide +kernel)
theorem nt_p9973 : nt_Pr 9973 := nt_chk (d := 100) (by decide) (by decide) (by decide +kernel)
theorem nt_p19937 : nt_Pr 19937 := nt_chk (d := 142) (by decide) (by decide) (by decide +kernel)
theorem nt_p39869 : nt_Pr 39869 := nt_chk (d := 200) (by decide) (by decide) (by decide +kernel)
theorem nt_bert {n : Nat} (h1 : 1 ≤ n) (h2 : n ≤ 30000) : ∃ p, n < p ∧ p ≤ 2 * n ∧ nt_Pr p := by
  by_cases c2 : n < 2
  · exact ⟨2, c2, by omega, nt_p2⟩
  by_cases c3 : n < 3
  · exact ⟨3, c3, by omega, nt_p3⟩
  by_cases c5 : n < 5
  · exact ⟨5, c5, by omega, nt_p5⟩
  by_cases c7 : n < 7
  · exact ⟨7, c7, by omega, nt_p7⟩
  by_cases c13 : n < 13
  · exact ⟨13, c13, by omega, nt_p13⟩
  by_cases c23 : n < 23
  · exact ⟨23, c23, by omega, nt_p23⟩
  by_cases c43 : n < 43
  · exact ⟨43, c43, by omega, nt_p43⟩
  by_cases c83 : n < 83
  · exact ⟨83, c83, by omega, nt_p83⟩
  by_cases c163 : n < 163
  · exact ⟨163, c163, by omega, nt_p163⟩
  by_cases c317 : n < 317
  · exact ⟨317, c317, by omega, nt_p317⟩
  by_cases c631 : n < 631
  · exact ⟨631, c631, by omega, nt_p631⟩
  by_cases c1259 : n < 1259
  · exact ⟨1259, c1259, by omega, nt_p1259⟩
  by_cases c2503 : n < 2503
  · exact ⟨2503, c2503, by omega, nt_p2503⟩
  by_cases c5003 : n < 5003
  · exact ⟨5003, c5003, by omega, nt_p5003⟩
  by_cases c9973 : n < 9973
  · exact ⟨9973, c9973, by omega, nt_p9973⟩
  by_cases c19937 : n < 19937
  · exact ⟨19937, c19937, by omega, nt_p19937⟩
  by_cases c39869 : n < 39869
  · exact ⟨39869, c39869, by omega, nt_p39869⟩
  omega
theorem nt_nx {n : Nat} (h1 : 1 ≤ n) (h2 : n ≤ 30000) : ∃ q, n < q ∧ q ≤ 2 * n ∧ nt_Pr q ∧ ∀ c, n < c → c < q → ¬ nt_Pr c := by
  obtain ⟨p, a, b, hp⟩ := nt_bert h1 h2
  obtain ⟨q, hq, hl⟩ := pk_least (fun c => n < c ∧ nt_Pr c) ⟨p, a, hp⟩
  refine ⟨q, hq.1, ?_, hq.2, fun c h3 h4 h5 => hl c h4 ⟨h3, h5⟩⟩
  by_cases z : p < q
  · exact absurd ⟨a, hp⟩ (hl p z)
  · omega
theorem wk_npX {n q : Nat} (h2 : n ≤ 30000) (hq2 : q ≤ 2 * n) (hq : nt_Pr q) (hl : ∀ c, n < c → c < q → ¬ nt_Pr c) {post : Int32 → Prop} (hp : post (nI q)) : ∀ (t c : Nat), c + t = q → n < c → wX_nextPrime_7 post (nI n) (t + 1) (nI c) := by
  intro t
  induction t with
  | zero =>
    intro c hc hn
    have e : c = q := by omega
    subst e
    exact pk_le (2 * n) c (fun _ => hp) (fun _ => wk_ptX (by omega) (fun _ => br_f (by decide) hp) (fun z => absurd hq z)) (pk_mul 2 n) rfl (by omega) (by omega)
  | succ t ih =>
    intro c hc hn
    have hnp := hl c hn (by omega)
    exact pk_le (2 * n) c (fun h => by omega) (fun _ => wk_ptX (by omega) (fun z => absurd z hnp) (fun _ => br_t rfl (nm_r (nI_1 c) (ih (c + 1) (by omega) (by omega))))) (pk_mul 2 n) rfl (by omega) (by omega)
theorem wk_npY {n q : Nat} (h2 : n ≤ 30000) (hq2 : q ≤ 2 * n) (hq : nt_Pr q) (hl : ∀ c, n < c → c < q → ¬ nt_Pr c) {post : Int32 → Prop} (hp : post (nI q)) : ∀ (t c : Nat), c + t = q → n < c → wY_nextPrime_7 post (nI n) (t + 1) (nI c) := by
  intro t
  induction t with
  | zero =>
    intro c hc hn
    have e : c = q := by omega
    subst e
    rw [wY_nextPrime_7]
    exact wk_pY _ (by omega) (fun _ => br_f (by decide) hp) (fun z => absurd hq z)
  | succ t ih =>
    intro c hc hn
    have hnp := hl c hn (by omega)
    rw [wY_nextPrime_7]
    exact wk_pY _ (by omega) (fun z => absurd z hnp) (fun _ => br_t rfl (nm_r (nI_1 c) (ih (c + 1) (by omega) (by omega))))
end
section
/-! prime factors in ascending order -/
noncomputable def nt_sf (m : Nat) : Nat := @dite Nat (2 ≤ m) (Nat.decLe 2 m) (fun h => Classical.choose (nt_sf_ex h)) (fun _ => 0)
theorem nt_sf_spec {m : Nat} (h : 2 ≤ m) : nt_Sf m (nt_sf m) := by
  unfold nt_sf
  rw [dif_pos h]
  exact Classical.choose_spec (nt_sf_ex h)
noncomputable def fc_ans (k : Int32) : Nat → Nat → Nat → Int32
  | 0, _, _ => -2
  | t + 1, rest, i => if rest ≤ 1 then -2 else if nI i = k then nI (nt_sf rest) else fc_ans k t (rest / nt_sf rest) (i + 1)
noncomputable def fc_len : Nat → Nat → Nat
  | 0, _ => 0
  | t + 1, rest => if rest ≤ 1 then 0 else fc_len t (rest / nt_sf rest) + 1
theorem fc_one (k : Int32) (t i : Nat) : fc_ans k t 1 i = -2 := by
  cases t with
  | zero => rfl
  | succ t => rw [fc_ans, if_pos (Nat.le_refl 1)]
theorem fc_lone (t : Nat) : fc_len t 1 = 0 := by
  cases t with
  | zero => rfl
  | succ t => rw [fc_len, if_pos (Nat.le_refl 1)]
theorem fc_lle : ∀ t rest, fc_len t rest ≤ t := by
  intro t
  induction t with
  | zero => intro rest; exact Nat.le_refl 0
  | succ t ih =>
    intro rest
    rw [fc_len]
    by_cases h : rest ≤ 1
    · rw [if_pos h]; omega
    · rw [if_neg h]
      have := ih (rest / nt_sf rest)
      omega
theorem fc_m2 {p : Nat} (h : p < 2 ^ 31) : ¬ nI p = -2 := fun z => nI_pos h (by rw [z]; decide)
/-- what is left after a division by a divisor above 1 -/
theorem fc_rest {rest p : Nat} (h1 : 1 ≤ rest) (h2 : 2 ≤ p) (hd : p ∣ rest) : 1 ≤ rest / p ∧ rest / p < rest ∧ rest / p * 2 ≤ rest := by
  obtain ⟨c, hc⟩ := hd
  have h0 : c ≠ 0 := fun z => by rw [z, Nat.mul_zero] at hc; omega
  have e : rest / p = c := by rw [hc]; exact Nat.mul_div_cancel_left c (by omega)
  have : 2 * c ≤ p * c := Nat.mul_le_mul_right c h2
  rw [e]
  omega
theorem fc_al : ∀ (t rest i j : Nat), 1 ≤ rest → rest ≤ 30000 → i + j < 2 ^ 30 → (fc_ans (nI (i + j)) t rest i = -2 ↔ fc_len t rest ≤ j) := by
  intro t
  induction t with
  | zero => intro rest i j _ _ _; exact ⟨fun _ => Nat.zero_le j, fun _ => rfl⟩
  | succ t ih =>
    intro rest i j h1 h2 hij
    rw [fc_ans, fc_len]
    by_cases h : rest ≤ 1
    · rw [if_pos h, if_pos h]; exact ⟨fun _ => Nat.zero_le j, fun _ => rfl⟩
    · rw [if_neg h, if_neg h]
      have hs := nt_sf_spec (m := rest) (by omega)
      have hle : nt_sf rest ≤ rest := Nat.le_of_dvd (by omega) hs.2.1
      have hr := fc_rest h1 hs.1 hs.2.1
      cases j with
      | zero =>
        rw [if_pos (by rw [Nat.add_zero])]
        exact ⟨fun z => absurd z (fc_m2 (by omega)), fun z => by omega⟩
      | succ j =>
        have hne : ¬ nI i = nI (i + (j + 1)) := fun z => by
          have := (nI_eq (by omega) (by omega)).mp z
          omega
        rw [if_neg hne, show i + (j + 1) = (i + 1) + j by omega, ih (rest / nt_sf rest) (i + 1) j hr.1 (by omega) (by omega)]
        omega
theorem fc_X (k f : Int32) {post : Int32 → Prop} : ∀ (t i rest : Nat), i + t = 14 → 1 ≤ rest → rest ≤ 30000 → post (fc_ans k t rest i) → wX_primeFactor_7 post k f (t + 1) (nI rest) (nI i) := by
  intro t
  induction t with
  | zero =>
    intro i rest hi h1 h2 hp
    exact pk_le 14 i (fun _ => hp) (fun h => by omega) rfl rfl (by omega) (by omega)
  | succ t ih =>
    intro i rest hi h1 h2 hp
    rw [fc_ans] at hp
    refine pk_le 14 i (fun h => by omega) (fun _ => pk_le rest 1 (fun h => ?_) (fun h => wk_sfX (by omega) (by omega) (fun p hs => ?_)) rfl rfl (by omega) (by omega)) rfl rfl (by omega) (by omega)
    · rw [if_pos h] at hp; exact hp
    · rw [if_neg (by omega), nt_sf_uniq (nt_sf_spec (by omega)) hs] at hp
      have hr := fc_rest h1 hs.1 hs.2.1
      have hle : p ≤ rest := Nat.le_of_dvd (by omega) hs.2.1
      have h2p := hs.1
      by_cases e : nI i = k
      · rw [if_pos e] at hp
        exact br_t e hp
      · rw [if_neg e] at hp
        exact br_f e ⟨nI_ne0 (by omega) (by omega), nm_r (pk_div (by omega) (by omega) (by omega)) (nm_r (nI_1 i) (ih (i + 1) (rest / p) (by omega) hr.1 (by omega) hp))⟩
theorem fc_Y16 (k f : Int32) {post : Int32 → Prop} {B n d : Nat} (hB : B ≤ 30000) (h2 : 2 ≤ d) (hdB : d ≤ B)
    (ih : ∀ (i rest t : Nat), 1 ≤ rest → rest ≤ B → (∀ e, 2 ≤ e → e < d + 1 → ¬ e ∣ rest) → rest < 2 ^ (t + 1) → i + t ≤ 14 → post (fc_ans k t rest i) → wY_factor_10 post k f n (nI i) (nI rest) (nI (d + 1))) :
    ∀ (m i rest t : Nat), rest < m → 1 ≤ rest → rest ≤ B → (∀ e, 2 ≤ e → e < d → ¬ e ∣ rest) → rest < 2 ^ (t + 1) → i + t ≤ 14 → post (fc_ans k t rest i) → wY_factor_16 post (wY_factor_10 post k f n) k (nI d) f m (nI i) (nI rest) := by
  intro m
  induction m with
  | zero => intro i rest t h; omega
  | succ m ihm =>
    intro i rest t hm h1 hb hI ht hit hp
    have hr : rest % d ≤ rest := Nat.mod_le rest d
    refine And.intro (nI_ne0 (by omega) (by omega)) (pk_eq (rest % d) 0 (fun h0 => ?_) (fun h0 => ?_) (pk_rem (by omega) (by omega) (by omega)) rfl (by omega) (by omega))
    · have hd : d ∣ rest := Nat.dvd_of_mod_eq_zero h0
      have hle : d ≤ rest := Nat.le_of_dvd (by omega) hd
      have hsf : nt_Sf rest d := ⟨h2, hd, fun e he hem => Nat.le_of_not_lt fun hl => hI e he hl hem⟩
      have hq := fc_rest h1 h2 hd
      cases t with
      | zero => rw [Nat.zero_add, Nat.pow_one] at ht; omega
      | succ t =>
        rw [fc_ans, if_neg (by omega), nt_sf_uniq (nt_sf_spec (by omega)) hsf] at hp
        rw [Nat.pow_succ] at ht
        by_cases e : nI i = k
        · rw [if_pos e] at hp
          exact br_t e hp
        · rw [if_neg e] at hp
          exact br_f e ⟨nI_ne0 (by omega) (by omega), nm_r (pk_div (by omega) (by omega) (by omega)) (nm_r (nI_1 i) (ihm (i + 1) (rest / d) t (by omega) hq.1 (by omega) (fun e he hl hem => hI e he hl (Nat.dvd_trans hem (Nat.div_dvd_of_dvd hd))) (by omega) (by omega) hp))⟩
    · refine nm_r (nI_1 d) (ih i rest t h1 hb (fun e he hl hem => ?_) ht hit hp)
      by_cases q : e = d
      · exact h0 (Nat.mod_eq_zero_of_dvd (q ▸ hem))
      · exact hI e he (by omega) hem
theorem fc_Y (k f : Int32) {post : Int32 → Prop} {B : Nat} (hB : B ≤ 30000) : ∀ (n d i rest t : Nat), 2 ≤ d → d ≤ B + 1 → B + 1 < n + d → 1 ≤ rest → rest ≤ B → (∀ e, 2 ≤ e → e < d → ¬ e ∣ rest) → rest < 2 ^ (t + 1) → i + t ≤ 14 → post (fc_ans k t rest i) → wY_factor_10 post k f n (nI i) (nI rest) (nI d) := by
  intro n
  induction n with
  | zero => intro d i rest t _ a b; omega
  | succ n ih =>
    intro d i rest t h2 hdB hf h1 hb hI ht hit hp
    refine pk_lt rest d (fun h => ?_) (fun h => ⟨rest + 1, fc_Y16 k f hB h2 (by omega) (fun i rest t => ih (d + 1) i rest t (by omega) (by omega) (by omega)) (rest + 1) i rest t (by omega) h1 hb hI ht hit hp⟩) rfl rfl (by omega) (by omega)
    by_cases z : rest = 1
    · rw [z, fc_one] at hp; exact hp
    · exact absurd (Nat.dvd_refl rest) (hI rest (by omega) h)
theorem fc_Z14 (f : Int32) {post : Int32 → Prop} {B n d : Nat} (hB : B ≤ 30000) (h2 : 2 ≤ d) (hdB : d ≤ B)
    (ih : ∀ (i rest t : Nat), 1 ≤ rest → rest ≤ B → (∀ e, 2 ≤ e → e < d + 1 → ¬ e ∣ rest) → rest < 2 ^ (t + 1) → post (nI (i + fc_len t rest)) → wY_factors_9 post f n (nI i) (nI rest) (nI (d + 1))) :
    ∀ (m i rest t : Nat), rest < m → 1 ≤ rest → rest ≤ B → (∀ e, 2 ≤ e → e < d → ¬ e ∣ rest) → rest < 2 ^ (t + 1) → post (nI (i + fc_len t rest)) → wY_factors_14 post (wY_factors_9 post f n) (nI d) f m (nI i) (nI rest) := by
  intro m
  induction m with
  | zero => intro i rest t h; omega
  | succ m ihm =>
    intro i rest t hm h1 hb hI ht hp
    have hr : rest % d ≤ rest := Nat.mod_le rest d
    refine And.intro (nI_ne0 (by omega) (by omega)) (pk_eq (rest % d) 0 (fun h0 => ?_) (fun h0 => ?_) (pk_rem (by omega) (by omega) (by omega)) rfl (by omega) (by omega))
    · have hd : d ∣ rest := Nat.dvd_of_mod_eq_zero h0
      have hle : d ≤ rest := Nat.le_of_dvd (by omega) hd
      have hsf : nt_Sf rest d := ⟨h2, hd, fun e he hem => Nat.le_of_not_lt fun hl => hI e he hl hem⟩
      have hq := fc_rest h1 h2 hd
      cases t with
      | zero => rw [Nat.zero_add, Nat.pow_one] at ht; omega
      | succ t =>
        rw [fc_len, if_neg (by omega), nt_sf_uniq (nt_sf_spec (by omega)) hsf, show i + (fc_len t (rest / d) + 1) = (i + 1) + fc_len t (rest / d) by omega] at hp
        rw [Nat.pow_succ] at ht
        exact And.intro (nI_ne0 (by omega) (by omega)) (nm_r (pk_div (by omega) (by omega) (by omega)) (nm_r (nI_1 i) (ihm (i + 1) (rest / d) t (by omega) hq.1 (by omega) (fun e he hl hem => hI e he hl (Nat.dvd_trans hem (Nat.div_dvd_of_dvd hd))) (by omega) hp)))
    · refine nm_r (nI_1 d) (ih i rest t h1 hb (fun e he hl hem => ?_) ht hp)
      by_cases q : e = d
      · exact h0 (Nat.mod_eq_zero_of_dvd (q ▸ hem))
      · exact hI e he (by omega) hem
theorem fc_Z (f : Int32) {post : Int32 → Prop} {B : Nat} (hB : B ≤ 30000) : ∀ (n d i rest t : Nat), 2 ≤ d → d ≤ B + 1 → B + 1 < n + d → 1 ≤ rest → rest ≤ B → (∀ e, 2 ≤ e → e < d → ¬ e ∣ rest) → rest < 2 ^ (t + 1) → post (nI (i + fc_len t rest)) → wY_factors_9 post f n (nI i) (nI rest) (nI d) := by
  intro n
  induction n with
  | zero => intro d i rest t _ a b; omega
  | succ n ih =>
    intro d i rest t h2 hdB hf h1 hb hI ht hp
    refine pk_lt rest d (fun h => ?_) (fun h => ⟨rest + 1, fc_Z14 f hB h2 (by omega) (fun i rest t => ih (d + 1) i rest t (by omega) (by omega) (by omega)) (rest + 1) i rest t (by omega) h1 hb hI ht hp⟩) rfl rfl (by omega) (by omega)
    by_cases z : rest = 1
    · rw [z, fc_lone, Nat.add_zero] at hp; exact hp
    · exact absurd (Nat.dvd_refl rest) (hI rest (by omega) h)
theorem fc_XF {N L : Nat} (h1 : 1 ≤ N) (h2 : N ≤ 30000) (hL : fc_len 14 N = L) {post : Int32 → Prop} (hp : post (nI L)) : ∀ (s c : Nat), c + s = L → wX_factors_2 post (nI N) (s + 1) (nI c) := by
  have hl := fc_lle 14 N
  have key : ∀ c, c ≤ 14 → (fc_ans (nI c) 14 N 0 = -2 ↔ fc_len 14 N ≤ c) := fun c hc => by
    have := fc_al 14 N 0 c h1 h2 (by omega)
    rw [Nat.zero_add] at this
    exact this
  intro s
  induction s with
  | zero =>
    intro c hc
    have e : c = L := by omega
    rw [e]
    exact pk_le 14 L (fun _ => hp) (fun h => ⟨15, fc_X _ _ 14 0 N (by omega) h1 h2 (br_t ((key L (by omega)).mpr (by omega)) hp)⟩) rfl rfl (by omega) (by omega)
  | succ s ih =>
    intro c hc
    exact pk_le 14 c (fun h => by omega) (fun h => ⟨15, fc_X _ _ 14 0 N (by omega) h1 h2 (br_f (fun z => by have := (key c (by omega)).mp z; omega) (nm_r (nI_1 c) (ih (c + 1) (by omega))))⟩) rfl rfl (by omega) (by omega)
end
section
/-! counting the numbers without a common factor -/
def cp_cnt (f : Nat → Bool) : Nat → Nat
  | 0 => 0
  | n + 1 => cp_cnt f n + (bif f (n + 1) then 1 else 0)
theorem cp_congr {f g : Nat → Bool} : ∀ n, (∀ k, 1 ≤ k → k ≤ n → f k = g k) → cp_cnt f n = cp_cnt g n := by
  intro n
  induction n with
  | zero => intro _; rfl
  | succ n ih =>
    intro h
    rw [cp_cnt, cp_cnt, ih (fun k a b => h k a (by omega)), h (n + 1) (by omega) (Nat.le_refl _)]
theorem cp_add (f : Nat → Bool) (a : Nat) : ∀ b, cp_cnt f (a + b) = cp_cnt f a + cp_cnt (fun k => f (a + k)) b := by
  intro b
  induction b with
  | zero => rfl
  | succ b ih =>
    rw [← Nat.add_assoc, cp_cnt, ih, cp_cnt, Nat.add_assoc, Nat.add_assoc]
theorem cp_per {f : Nat → Bool} {M : Nat} (h : ∀ t k, f (M * t + k) = f k) : ∀ t, cp_cnt f (M * t) = t * cp_cnt f M := by
  intro t
  induction t with
  | zero => rw [Nat.mul_zero, Nat.zero_mul]; rfl
  | succ t ih =>
    rw [Nat.mul_succ, cp_add, ih, Nat.succ_mul]
    congr 1
    exact cp_congr M (fun k _ _ => h t k)
theorem cp_zero {f : Nat → Bool} : ∀ n, (∀ k, 1 ≤ k → k ≤ n → f k = false) → cp_cnt f n = 0 := by
  intro n
  induction n with
  | zero => intro _; rfl
  | succ n ih =>
    intro h
    rw [cp_cnt, ih (fun k a b => h k a (by omega)), h (n + 1) (by omega) (Nat.le_refl _)]
    rfl
theorem cp_all : ∀ n, cp_cnt (fun _ => true) n = n := by
  intro n
  induction n with
  | zero => rfl
  | succ n ih => rw [cp_cnt, ih]; rfl
theorem cp_le (f : Nat → Bool) : ∀ n, cp_cnt f n ≤ n := by
  intro n
  induction n with
  | zero => exact Nat.le_refl 0
  | succ n ih =>
    rw [cp_cnt]
    cases f (n + 1)
    · exact Nat.le_succ_of_le ih
    · exact Nat.succ_le_succ ih
theorem cp_split (f a : Nat → Bool) : ∀ n, cp_cnt f n = cp_cnt (fun k => f k && a k) n + cp_cnt (fun k => f k && !a k) n := by
  intro n
  induction n with
  | zero => rfl
  | succ n ih =>
    rw [cp_cnt, cp_cnt, cp_cnt, ih]
    cases f (n + 1) <;> cases a (n + 1) <;> simp <;> omega
theorem cp_mul (f : Nat → Bool) {p : Nat} (hp : 1 ≤ p) : ∀ m, cp_cnt (fun k => f k && decide (p ∣ k)) (p * m) = cp_cnt (fun j => f (p * j)) m := by
  intro m
  induction m with
  | zero => rfl
  | succ m ih =>
    rw [Nat.mul_succ, cp_add, ih, cp_cnt]
    congr 1
    obtain ⟨q, rfl⟩ : ∃ q, p = q + 1 := ⟨p - 1, by omega⟩
    rw [cp_cnt, cp_zero q (fun k h1 h2 => ?_), Nat.zero_add]
    · have e : (q + 1) * m + (q + 1) = (q + 1) * (m + 1) := by rw [Nat.mul_succ]
      rw [e, decide_eq_true (Nat.dvd_mul_right (q + 1) (m + 1)), Bool.and_true]
    · have hnd : ¬ (q + 1) ∣ (q + 1) * m + k := fun z => by
        have := Nat.le_of_dvd (by omega) ((Nat.dvd_add_right (Nat.dvd_mul_right (q + 1) m)).mp z)
        omega
      rw [decide_eq_false hnd, Bool.and_false]
noncomputable def cp_g (N p k : Nat) : Bool := @decide (∀ q, nt_Pr q → q < p → q ∣ N → ¬ q ∣ k) (Classical.propDecidable _)
theorem cp_gi {N p k : Nat} : cp_g N p k = true ↔ ∀ q, nt_Pr q → q < p → q ∣ N → ¬ q ∣ k := by
  unfold cp_g
  exact @decide_eq_true_iff _ (Classical.propDecidable _)
theorem cp_bool {a b : Bool} (h : a = true ↔ b = true) : a = b := by
  cases a <;> cases b <;> simp_all
theorem cp_step {N p : Nat} (h1 : 1 ≤ N) (hp : nt_Pr p) (hd : p ∣ N) : ∃ C, cp_cnt (cp_g N p) N = p * C ∧ cp_cnt (cp_g N (p + 1)) N = C * (p - 1) := by
  obtain ⟨M, hM⟩ := hd
  have hp2 := hp.1
  have hq : ∀ q, nt_Pr q → q < p → q ∣ N → q ∣ M := fun q hq hl hqN => by
    refine nt_euc hq (hM ▸ hqN) (fun z => ?_)
    have := hp.2 q hq.1 z
    omega
  have hqj : ∀ q, nt_Pr q → q < p → ∀ j, q ∣ p * j → q ∣ j := fun q hq hl j z => by
    refine nt_euc hq z (fun w => ?_)
    have := hp.2 q hq.1 w
    omega
  have c1 : cp_cnt (cp_g N p) N = p * cp_cnt (cp_g N p) M := by
    have e := cp_per (f := cp_g N p) (M := M) (fun t k => cp_bool (by
      rw [cp_gi, cp_gi]
      refine ⟨fun h q a b c d => h q a b c ?_, fun h q a b c d => h q a b c ?_⟩
      · exact Nat.dvd_add (Nat.dvd_trans (hq q a b c) (Nat.dvd_mul_right M t)) d
      · exact (Nat.dvd_add_right (Nat.dvd_trans (hq q a b c) (Nat.dvd_mul_right M t))).mp d)) p
    rw [Nat.mul_comm M p, ← hM] at e
    exact e
  have c2 : cp_cnt (fun k => cp_g N p k && decide (p ∣ k)) N = cp_cnt (cp_g N p) M := by
    have e := cp_mul (cp_g N p) (p := p) (by omega) M
    rw [← hM] at e
    rw [e]
    refine cp_congr M (fun j _ _ => cp_bool ?_)
    rw [cp_gi, cp_gi]
    exact ⟨fun h q a b c d => h q a b c (Nat.dvd_trans d (Nat.dvd_mul_left j p)), fun h q a b c d => h q a b c (hqj q a b j d)⟩
  have c3 : cp_cnt (fun k => cp_g N p k && !decide (p ∣ k)) N = cp_cnt (cp_g N (p + 1)) N := by
    refine cp_congr N (fun k _ _ => cp_bool ?_)
    rw [Bool.and_eq_true, cp_gi, cp_gi, Bool.not_eq_true', decide_eq_false_iff_not]
    constructor
    · intro ⟨h, hn⟩ q a b c d
      by_cases z : q = p
      · exact hn (z ▸ d)
      · exact h q a (by omega) c d
    · intro h
      exact ⟨fun q a b c d => h q a (by omega) c d, fun d => h p hp (by omega) ⟨M, hM⟩ d⟩
  refine ⟨cp_cnt (cp_g N p) M, c1, ?_⟩
  have s := cp_split (cp_g N p) (fun k => decide (p ∣ k)) N
  rw [c2, c3, c1] at s
  rw [Nat.mul_sub, Nat.mul_one, Nat.mul_comm _ p]
  omega
theorem cp_skip {N p : Nat} (h : ¬ (p ∣ N ∧ nt_Pr p)) : cp_cnt (cp_g N (p + 1)) N = cp_cnt (cp_g N p) N := by
  refine cp_congr N (fun k _ _ => cp_bool ?_)
  rw [cp_gi, cp_gi]
  refine ⟨fun w q a b c d => w q a (by omega) c d, fun w q a b c d => ?_⟩
  by_cases z : q = p
  · subst z; exact h ⟨c, a⟩
  · exact w q a (by omega) c d
theorem cp_start {N : Nat} : cp_cnt (cp_g N 2) N = N := by
  refine Eq.trans (cp_congr N (fun k _ _ => cp_bool ?_)) (cp_all N)
  rw [cp_gi]
  exact ⟨fun _ => rfl, fun _ q a b _ _ => by have := a.1; omega⟩
theorem cp_end {N : Nat} (h1 : 1 ≤ N) : cp_cnt (cp_g N (N + 1)) N = cp_cnt (fun k => decide (Nat.gcd k N = 1)) N := by
  refine cp_congr N (fun k k1 _ => cp_bool ?_)
  rw [cp_gi, decide_eq_true_iff]
  constructor
  · intro h
    have g0 : Nat.gcd k N ≠ 0 := fun z => by
      have := Nat.eq_zero_of_gcd_eq_zero_left z
      omega
    by_cases g2 : 2 ≤ Nat.gcd k N
    · obtain ⟨q, hq⟩ := nt_sf_ex g2
      have d1 : q ∣ N := Nat.dvd_trans hq.2.1 (Nat.gcd_dvd_right k N)
      have d2 : q ∣ k := Nat.dvd_trans hq.2.1 (Nat.gcd_dvd_left k N)
      exact absurd d2 (h q (nt_sf_pr hq) (Nat.lt_succ_of_le (Nat.le_of_dvd (by omega) d1)) d1)
    · omega
  · intro g q a b c d
    have := Nat.dvd_gcd d c
    rw [g] at this
    have e := Nat.eq_one_of_dvd_one this
    have := a.1
    omega
theorem cp_X {N : Nat} (h1 : 1 ≤ N) (h2 : N ≤ 30000) {post : Int32 → Prop} (hp : post (nI (cp_cnt (cp_g N (N + 1)) N))) : ∀ (t p : Nat), p + t = N + 1 → 2 ≤ p → wX_coprimes_7 post (nI N) (t + 1) (nI (cp_cnt (cp_g N p) N)) (nI p) := by
  intro t
  induction t with
  | zero =>
    intro p hpt hp2
    have e : p = N + 1 := by omega
    rw [e]
    exact br_t (nI_lt (by omega) (by omega)) hp
  | succ t ih =>
    intro p hpt hp2
    have hn : ¬ nI p = 0 := nI_ne0 (by omega) (by omega)
    have hr : N % p ≤ N := Nat.mod_le N p
    have nx := ih (p + 1) (by omega) (by omega)
    refine br_f (nI_nlt (by omega) (by omega)) (And.intro hn (pk_eq (N % p) 0 (fun h0 => wk_ptX (by omega) (fun hpr => ?_) (fun hpr => ?_)) (fun h0 => ?_) (pk_rem (by omega) (by omega) (by omega)) rfl (by omega) (by omega)))
    · obtain ⟨C, c1, c2⟩ := cp_step h1 hpr (Nat.dvd_of_mod_eq_zero h0)
      have hle := cp_le (cp_g N p) N
      have hC : C ≤ p * C := Nat.le_mul_of_pos_left C (by omega)
      rw [c2] at nx
      rw [c1]
      refine br_f (by decide) (And.intro hn (nm_r (e' := nI (C * (p - 1))) ?_ (nm_r (nI_1 p) nx)))
      rw [pk_div (by omega) (by omega) (by omega), Nat.mul_div_cancel_left C (by omega), show nI p - 1 = nI (p - 1) from pk_sub (b := 1) (by omega), pk_mul]
    · rw [cp_skip (fun z => hpr z.2)] at nx
      exact br_t rfl (nm_r (nI_1 p) nx)
    · rw [cp_skip (fun z => h0 (Nat.mod_eq_zero_of_dvd z.1))] at nx
      exact nm_r (nI_1 p) nx
theorem cp_Y {N : Nat} (h2 : N ≤ 30000) {post : Int32 → Prop} (hp : post (nI (cp_cnt (fun k => decide (Nat.gcd k N = 1)) N))) : ∀ (t j : Nat), j + t = N → wY_coprimes_4 post (nI N) (t + 1) (nI (cp_cnt (fun k => decide (Nat.gcd k N = 1)) j)) (nI (j + 1)) := by
  intro t
  induction t with
  | zero =>
    intro j hj
    have e : j = N := by omega
    rw [e]
    exact br_t (nI_lt (by omega) (by omega)) hp
  | succ t ih =>
    intro j hj
    have nx := ih (j + 1) (by omega)
    rw [cp_cnt] at nx
    have hgl : Nat.gcd (j + 1) N ≤ j + 1 := Nat.le_of_dvd (by omega) (Nat.gcd_dvd_left (j + 1) N)
    refine br_f (nI_nlt (by omega) (by omega)) (wk_gcdY _ (by omega) (by omega) (pk_eq (Nat.gcd (j + 1) N) 1 (fun g => ?_) (fun g => ?_) rfl rfl (by omega) (by omega)))
    · rw [decide_eq_true g] at nx
      exact nm_r (nI_1 _) (nm_r (nI_1 (j + 1)) nx)
    · rw [decide_eq_false g] at nx
      exact nm_r (nI_1 (j + 1)) nx
end
section
/-! each prime up to 30000 has a generator: found by trying, n + 1 being the number -/
def gt_d (n N g d : Nat) : Bool :=
  !(Nat.beq (Nat.mod n d) 0) || ((Nat.beq d n || !(Nat.beq (Nat.mod (Nat.pow g d) N) 1)) && (Nat.beq d 1 || !(Nat.beq (Nat.mod (Nat.pow g (Nat.div n d)) N) 1)))
def gt_t (n N g : Nat) : Nat → Bool
  | 0 => Nat.beq (Nat.mod (Nat.pow g n) N) 1
  | d + 1 => gt_d n N g (Nat.sub 173 d) && gt_t n N g d
def gt_f (n N : Nat) : Nat → Bool
  | 0 => false
  | g + 1 => (Nat.ble (Nat.sub 31 g) n && gt_t n N (Nat.sub 31 g) 173) || gt_f n N g
def gt_c (n N : Nat) : Nat → Bool
  | 0 => false
  | d + 1 => (Nat.beq (Nat.mod N (Nat.sub 173 d)) 0 && Nat.ble (Nat.sub 173 d) n) || gt_c n N d
def gt_ok : Nat → Bool
  | 0 => true
  | n + 1 => gt_c n (Nat.succ n) 172 || gt_f n (Nat.succ n) 31
def gt_al (s : Nat) : Nat → Bool
  | 0 => true
  | k + 1 => gt_al s k && gt_ok (Nat.add s k)
theorem gt_k0 : gt_al 2 1000 = true := by decide +kernel
theorem gt_k1 : gt_al 1002 1000 = true := by decide +kernel
theorem gt_k2 : gt_al 2002 1000 = true := by decide +kernel
theorem gt_k3 : gt_al 3002 1000 = true := by decide +kernel
theorem gt_k4 : gt_al 4002 1000 = true := by decide +kernel
theorem gt_k5 : gt_al 5002 1000 = true := by decide +kernel
theorem gt_k6 : gt_al 6002 1000 = true := by decide +kernel
theorem gt_k7 : gt_al 7002 1000 = true := by decide +kernel
theorem gt_k8 : gt_al 8002 1000 = true := by decide +kernel
theorem gt_k9 : gt_al 9002 1000 = true := by decide +kernel
theorem gt_k10 : gt_al 10002 1000 = true := by decide +kernel
theorem gt_k11 : gt_al 11002 1000 = true := by decide +kernel
theorem gt_k12 : gt_al 12002 1000 = true := by decide +kernel
theorem gt_k13 : gt_al 13002 1000 = true := by decide +kernel
theorem gt_k14 : gt_al 14002 1000 = true := by decide +kernel
theorem gt_k15 : gt_al 15002 1000 = true := by decide +kernel
theorem gt_k16 : gt_al 16002 1000 = true := by decide +kernel
theorem gt_k17 : gt_al 17002 1000 = true := by decide +kernel
theorem gt_k18 : gt_al 18002 1000 = true := by decide +kernel
theorem gt_k19 : gt_al 19002 1000 = true := by decide +kernel
theorem gt_k20 : gt_al 20002 1000 = true := by decide +kernel
theorem gt_k21 : gt_al 21002 1000 = true := by decide +kernel
theorem gt_k22 : gt_al 22002 1000 = true := by decide +kernel
theorem gt_k23 : gt_al 23002 1000 = true := by decide +kernel
theorem gt_k24 : gt_al 24002 1000 = true := by decide +kernel
theorem gt_k25 : gt_al 25002 1000 = true := by decide +kernel
theorem gt_k26 : gt_al 26002 1000 = true := by decide +kernel
theorem gt_k27 : gt_al 27002 1000 = true := by decide +kernel
theorem gt_k28 : gt_al 28002 1000 = true := by decide +kernel
theorem gt_k29 : gt_al 29002 1000 = true := by decide +kernel
end
section
/-! a generator modulo each prime, and the walk that finds the first -/
theorem gt_get {s : Nat} : ∀ k, gt_al s k = true → ∀ N, s ≤ N → N < s + k → gt_ok N = true := by
  intro k
  induction k with
  | zero => intro _ N a b; omega
  | succ k ih =>
    intro h N a b
    rw [gt_al, Bool.and_eq_true] at h
    by_cases z : N = s + k
    · rw [z]; exact h.2
    · exact ih h.1 N a (by omega)
theorem gt_all {N : Nat} (h1 : 2 ≤ N) (h2 : N ≤ 30000) : gt_ok N = true := by
  by_cases c0 : N < 1002
  · exact gt_get 1000 gt_k0 N (by omega) (by omega)
  by_cases c1 : N < 2002
  · exact gt_get 1000 gt_k1 N (by omega) (by omega)
  by_cases c2 : N < 3002
  · exact gt_get 1000 gt_k2 N (by omega) (by omega)
  by_cases c3 : N < 4002
  · exact gt_get 1000 gt_k3 N (by omega) (by omega)
  by_cases c4 : N < 5002
  · exact gt_get 1000 gt_k4 N (by omega) (by omega)
  by_cases c5 : N < 6002
  · exact gt_get 1000 gt_k5 N (by omega) (by omega)
  by_cases c6 : N < 7002
  · exact gt_get 1000 gt_k6 N (by omega) (by omega)
  by_cases c7 : N < 8002
  · exact gt_get 1000 gt_k7 N (by omega) (by omega)
  by_cases c8 : N < 9002
  · exact gt_get 1000 gt_k8 N (by omega) (by omega)
  by_cases c9 : N < 10002
  · exact gt_get 1000 gt_k9 N (by omega) (by omega)
  by_cases c10 : N < 11002
  · exact gt_get 1000 gt_k10 N (by omega) (by omega)
  by_cases c11 : N < 12002
  · exact gt_get 1000 gt_k11 N (by omega) (by omega)
  by_cases c12 : N < 13002
  · exact gt_get 1000 gt_k12 N (by omega) (by omega)
  by_cases c13 : N < 14002
  · exact gt_get 1000 gt_k13 N (by omega) (by omega)
  by_cases c14 : N < 15002
  · exact gt_get 1000 gt_k14 N (by omega) (by omega)
  by_cases c15 : N < 16002
  · exact gt_get 1000 gt_k15 N (by omega) (by omega)
  by_cases c16 : N < 17002
  · exact gt_get 1000 gt_k16 N (by omega) (by omega)
  by_cases c17 : N < 18002
  · exact gt_get 1000 gt_k17 N (by omega) (by omega)
  by_cases c18 : N < 19002
  · exact gt_get 1000 gt_k18 N (by omega) (by omega)
  by_cases c19 : N < 20002
  · exact gt_get 1000 gt_k19 N (by omega) (by omega)
  by_cases c20 : N < 21002
  · exact gt_get 1000 gt_k20 N (by omega) (by omega)
  by_cases c21 : N < 22002
  · exact gt_get 1000 gt_k21 N (by omega) (by omega)
  by_cases c22 : N < 23002
  · exact gt_get 1000 gt_k22 N (by omega) (by omega)
  by_cases c23 : N < 24002
  · exact gt_get 1000 gt_k23 N (by omega) (by omega)
  by_cases c24 : N < 25002
  · exact gt_get 1000 gt_k24 N (by omega) (by omega)
  by_cases c25 : N < 26002
  · exact gt_get 1000 gt_k25 N (by omega) (by omega)
  by_cases c26 : N < 27002
  · exact gt_get 1000 gt_k26 N (by omega) (by omega)
  by_cases c27 : N < 28002
  · exact gt_get 1000 gt_k27 N (by omega) (by omega)
  by_cases c28 : N < 29002
  · exact gt_get 1000 gt_k28 N (by omega) (by omega)
  by_cases c29 : N < 30002
  · exact gt_get 1000 gt_k29 N (by omega) (by omega)
  omega
theorem gt_b {a b : Nat} (h : (!(Nat.beq a b)) = true) : a ≠ b := fun e => by
  subst e
  rw [Nat.beq_refl] at h
  exact absurd h (by decide)
theorem gt_cs {n N : Nat} : ∀ d, d ≤ 172 → gt_c n N d = true → ∃ e, 2 ≤ e ∧ e ≤ n ∧ e ∣ N := by
  intro d
  induction d with
  | zero => intro _ h; exact absurd h Bool.false_ne_true
  | succ d ih =>
    intro hd h
    rw [gt_c, Bool.or_eq_true, Bool.and_eq_true] at h
    cases h with
    | inl h => exact ⟨173 - d, by omega, Nat.le_of_ble_eq_true h.2, Nat.dvd_of_mod_eq_zero (Nat.eq_of_beq_eq_true h.1)⟩
    | inr h => exact ih (by omega) h
theorem gt_fs {n N : Nat} : ∀ g, g ≤ 31 → gt_f n N g = true → ∃ b, 1 ≤ b ∧ b ≤ n ∧ gt_t n N b 173 = true := by
  intro g
  induction g with
  | zero => intro _ h; exact absurd h Bool.false_ne_true
  | succ g ih =>
    intro hg h
    rw [gt_f, Bool.or_eq_true, Bool.and_eq_true] at h
    cases h with
    | inl h => exact ⟨31 - g, by omega, Nat.le_of_ble_eq_true h.1, h.2⟩
    | inr h => exact ih (by omega) h
theorem gt_ts {n N g : Nat} : ∀ d, d ≤ 173 → gt_t n N g d = true → g ^ n % N = 1 ∧ ∀ e, 173 < e + d → e ≤ 173 → gt_d n N g e = true := by
  intro d
  induction d with
  | zero => intro _ h; exact ⟨Nat.eq_of_beq_eq_true h, fun e a b => by omega⟩
  | succ d ih =>
    intro hd h
    rw [gt_t, Bool.and_eq_true] at h
    have r := ih (by omega) h.2
    refine ⟨r.1, fun e a b => ?_⟩
    by_cases z : e = 173 - d
    · rw [z]; exact h.1
    · exact r.2 e (by omega) b
theorem gt_ds {n N g d : Nat} (h : gt_d n N g d = true) (h0 : n % d = 0) : (d = n ∨ g ^ d % N ≠ 1) ∧ (d = 1 ∨ g ^ (n / d) % N ≠ 1) := by
  have h' : (!(Nat.beq (n % d) 0) || ((Nat.beq d n || !(Nat.beq (g ^ d % N) 1)) && (Nat.beq d 1 || !(Nat.beq (g ^ (n / d) % N) 1)))) = true := h
  rw [h0, Bool.or_eq_true] at h'
  cases h' with
  | inl h' => exact absurd rfl (gt_b h')
  | inr h' =>
    rw [Bool.and_eq_true, Bool.or_eq_true, Bool.or_eq_true] at h'
    exact ⟨h'.1.imp Nat.eq_of_beq_eq_true gt_b, h'.2.imp Nat.eq_of_beq_eq_true gt_b⟩
theorem nt_pm {g e N : Nat} (hN : 2 ≤ N) (h : g ^ e % N = 1) (c r : Nat) : g ^ (e * c + r) % N = g ^ r % N := by
  have h1 : (g ^ e) ^ c % N = 1 := by
    rw [Nat.pow_mod, h, Nat.one_pow, Nat.mod_eq_of_lt (by omega)]
  rw [Nat.pow_add, Nat.pow_mul, Nat.mul_mod, h1, Nat.one_mul, Nat.mod_mod]
theorem gn_ex {N : Nat} (hN : N ≤ 30000) (hp : nt_Pr N) : ∃ g, 1 ≤ g ∧ g < N ∧ ∀ j, 1 ≤ j → j < N - 1 → g ^ j % N ≠ 1 := by
  have hN2 := hp.1
  obtain ⟨n, rfl⟩ : ∃ n, N = n + 1 := ⟨N - 1, by omega⟩
  have h := gt_all hN2 hN
  rw [gt_ok, Bool.or_eq_true] at h
  cases h with
  | inl h =>
    obtain ⟨e, e2, en, ed⟩ := gt_cs 172 (by omega) h
    have := hp.2 e e2 ed
    omega
  | inr h =>
    obtain ⟨g, g1, gn, ht⟩ := gt_fs 31 (by omega) h
    obtain ⟨hf, hd⟩ := gt_ts 173 (by omega) ht
    refine ⟨g, g1, by omega, fun j j1 jn hj => ?_⟩
    obtain ⟨e, ⟨e1, he⟩, hl⟩ := pk_least (fun e => 1 ≤ e ∧ g ^ e % (n + 1) = 1) ⟨j, j1, hj⟩
    have hej : e ≤ j := by
      by_cases z : j < e
      · exact absurd ⟨j1, hj⟩ (hl j z)
      · omega
    have hr : n % e = 0 := by
      by_cases z : n % e = 0
      · exact z
      · refine absurd ⟨by omega, ?_⟩ (hl (n % e) (Nat.mod_lt n (by omega)))
        rw [← nt_pm hN2 he (n / e) (n % e), Nat.div_add_mod]
        exact hf
    by_cases c1 : e ≤ 173
    · have := (gt_ds (hd e (by omega) c1) hr).1
      cases this with
      | inl z => omega
      | inr z => exact z he
    · obtain ⟨c, hc⟩ := Nat.dvd_of_mod_eq_zero hr
      have hc0 : c ≠ 0 := fun z => by rw [z, Nat.mul_zero] at hc; omega
      have hc1 : c ≠ 1 := fun z => by rw [z, Nat.mul_one] at hc; omega
      have hc2 : c ≤ 173 := by
        by_cases z : c ≤ 173
        · exact z
        · have : 174 * 174 ≤ e * c := Nat.mul_le_mul (by omega) (by omega)
          omega
      have hq : n / c = e := by rw [hc]; exact Nat.mul_div_cancel e (by omega)
      have := (gt_ds (hd c (by omega) hc2) (by rw [hc]; exact Nat.mul_mod_left e c)).2
      rw [hq] at this
      cases this with
      | inl z => exact hc1 z
      | inr z => exact z he
theorem gn_lock {N g0 : Nat} (hN : N ≤ 30000) (hp : nt_Pr N) (h0 : g0 < N) (hg : ∀ j, 1 ≤ j → j < N - 1 → g0 ^ j % N ≠ 1) : ∀ (t g : Nat), g + t = g0 → 1 ≤ g → ∃ q : Int32, (∀ post : Int32 → Prop, post q → wX_generator_15 post (nI N) (t + 1) (nI g)) ∧ (∀ post : Int32 → Prop, post q → wY_generator_16 post (nI N) (t + 1) (nI g)) := by
  have hN2 := hp.1
  intro t
  induction t with
  | zero =>
    intro g hgt g1
    have e0 : g = g0 := by omega
    have hnd : ¬ N ∣ g := fun z => by
      have := Nat.le_of_dvd (by omega) z
      omega
    obtain ⟨j, j1, jN, hj⟩ := nt_ord_ex (b := g) hN2 (nt_cop hp hnd).symm
    obtain ⟨e, ⟨e1, he⟩, hl⟩ := pk_least (fun e => 1 ≤ e ∧ g ^ e % N = 1) ⟨j, j1, hj⟩
    have hej : e ≤ j := Nat.le_of_not_lt fun z => hl j z ⟨j1, hj⟩
    have hlast : e = N - 1 := by
      by_cases z : e < N - 1
      · rw [e0] at he; exact absurd he (hg e e1 z)
      · omega
    have hs : nI N - 1 = nI (N - 1) := pk_sub (b := 1) (by omega)
    have hb : ¬ nI N ≤ nI g := nI_ge (by omega) (by omega)
    refine ⟨nI g, fun post hq => br_f hb (wk_seX (by omega) hN (by omega) (fun e' a b c d => ?_) (fun hno => absurd hj (hno j j1 jN))), fun post hq => ?_⟩
    · have : e' = e := by
        by_cases z : e' < e
        · exact absurd ⟨a, c⟩ (hl e' z)
        · by_cases w : e < e'
          · exact absurd he (d e e1 w)
          · omega
      exact br_t (by rw [hs, this, hlast]) hq
    · rw [wY_generator_16]
      exact wk_ooY (by omega) hN (by omega) (by omega) e1 he (fun j a b c => hl j b ⟨a, c⟩) (br_t (by rw [hs, hlast]) hq)
  | succ t ih =>
    intro g hgt g1
    have hnd : ¬ N ∣ g := fun z => by
      have := Nat.le_of_dvd (by omega) z
      omega
    obtain ⟨j, j1, jN, hj⟩ := nt_ord_ex (b := g) hN2 (nt_cop hp hnd).symm
    obtain ⟨e, ⟨e1, he⟩, hl⟩ := pk_least (fun e => 1 ≤ e ∧ g ^ e % N = 1) ⟨j, j1, hj⟩
    have hej : e ≤ j := Nat.le_of_not_lt fun z => hl j z ⟨j1, hj⟩
    have hs : nI N - 1 = nI (N - 1) := pk_sub (b := 1) (by omega)
    have hb : ¬ nI N ≤ nI g := nI_ge (by omega) (by omega)
    have hu : ∀ e', 1 ≤ e' → g ^ e' % N = 1 → (∀ j, 1 ≤ j → j < e' → g ^ j % N ≠ 1) → e' = e := fun e' a c d => by
      by_cases z : e' < e
      · exact absurd ⟨a, c⟩ (hl e' z)
      · by_cases w : e < e'
        · exact absurd he (d e e1 w)
        · omega
    have hl' : ∀ j, 1 ≤ j → j < e → g ^ j % N ≠ 1 := fun j a b c => hl j b ⟨a, c⟩
    by_cases hlast : e = N - 1
    · refine ⟨nI g, fun post hq => br_f hb (wk_seX (by omega) hN (by omega) (fun e' a b c d => br_t (by rw [hs, hu e' a c d, hlast]) hq) (fun hno => absurd hj (hno j j1 jN))), fun post hq => ?_⟩
      rw [wY_generator_16]
      exact wk_ooY (by omega) hN (by omega) (by omega) e1 he hl' (br_t (by rw [hs, hlast]) hq)
    · obtain ⟨q, hX, hY⟩ := ih (g + 1) (by omega) (by omega)
      have hne : ¬ nI e = nI N - 1 := fun z => by
        rw [hs] at z
        exact hlast ((nI_eq (by omega) (by omega)).mp z)
      refine ⟨q, fun post hq => br_f hb (wk_seX (by omega) hN (by omega) (fun e' a b c d => br_f (by rw [hu e' a c d]; exact hne) (nm_r (nI_1 g) (hX post hq))) (fun hno => absurd hj (hno j j1 jN))), fun post hq => ?_⟩
      rw [wY_generator_16]
      exact wk_ooY (by omega) hN (by omega) (by omega) e1 he hl' (br_f hne (nm_r (nI_1 g) (hY post hq)))
end
section
/-! what is owed, one statement a method -/
theorem i_vc_take {k : Nat} {u : SX} {v : SY} (I : i_Rel k u v) (hk : k + 3 ≤ 1536) (v1 : Int32) : wpX_take (fun r u' => wpY_take (fun r' v' => r' = r ∧ i_Rel (k + 3) u' v') v v1) u v1 := by
  have J := i_up I
  obtain ⟨rfl, _⟩ := I
  unfold wpX_take wpX_outside wpY_take
  by_cases h1 : v1 < 1
  · refine br_t h1 (br_f (by decide) (br_t h1 ⟨rfl, J⟩))
  · by_cases h2 : v1 ≤ 30000
    · refine br_f h1 (br_t h2 (br_t rfl (br_f h1 (br_t h2 ⟨rfl, rfl, ?_⟩))))
      have h0 : ¬ v1 < 0 := fun z => h1 (Int32.lt_trans z (by decide))
      obtain ⟨j, hj, e⟩ := nI_of2 (M := 30000) (n := 30000) (by decide) h0 h2
      refine ⟨j, ?_, hj, e⟩
      by_cases z : j = 0
      · rw [e, z] at h1; exact absurd (by decide) h1
      · omega
    · exact br_f h1 (br_f h2 (br_f (by decide) (br_f h1 (br_f h2 ⟨rfl, J⟩))))
theorem i_vc_isPrime {k : Nat} {u : SX} {v : SY} (I : i_Rel k u v) (hk : k + 3 ≤ 1536) : wpX_isPrime (fun r => wpY_isPrime (fun r' => r' = r ∧ i_Rel (k + 3) u v) v) u := by
  have J := i_up I
  obtain ⟨rfl, n, h1, h2, rfl⟩ := I
  unfold wpX_isPrime wpY_isPrime
  exact wk_ptX (by omega) (fun hp => ⟨rfl, wk_pY _ (by omega) (fun _ => ⟨rfl, rfl, J⟩) (fun z => absurd hp z)⟩) (fun hp => ⟨rfl, wk_pY _ (by omega) (fun z => absurd z hp) (fun _ => ⟨rfl, rfl, J⟩)⟩)
theorem i_vc_divisors {k : Nat} {u : SX} {v : SY} (I : i_Rel k u v) (hk : k + 3 ≤ 1536) : wpX_divisors (fun r => wpY_divisors (fun r' => r' = r ∧ i_Rel (k + 3) u v) v) u := by
  have J := i_up I
  obtain ⟨rfl, n, h1, h2, rfl⟩ := I
  obtain ⟨r, hX, hY⟩ := wk_dv h2 n 1 0 (by omega) (by omega)
  exact ⟨_, hX _ ⟨_, hY _ ⟨rfl, J⟩⟩⟩
theorem i_vc_sum {k : Nat} {u : SX} {v : SY} (I : i_Rel k u v) (hk : k + 3 ≤ 1536) : wpX_sum (fun r => wpY_sum (fun r' => r' = r ∧ i_Rel (k + 3) u v) v) u := by
  have J := i_up I
  obtain ⟨rfl, n, h1, h2, rfl⟩ := I
  obtain ⟨r, hX, hY⟩ := wk_sm h2 n 1 0 (by omega) (by omega)
  exact ⟨_, hX _ ⟨_, hY _ ⟨rfl, J⟩⟩⟩
theorem i_vc_power {k : Nat} {u : SX} {v : SY} (I : i_Rel k u v) (hk : k + 3 ≤ 1536) (v1 : Int32) (v2 : Int32) : wpX_power (fun r => wpY_power (fun r' => r' = r ∧ i_Rel (k + 3) u v) v v1 v2) u v1 v2 := by
  have J := i_up I
  obtain ⟨rfl, n, h1, h2, rfl⟩ := I
  unfold wpX_power wpX_outside wpY_power
  by_cases a1 : v1 < 0
  · exact br_t a1 (br_f (by decide) (br_t a1 ⟨rfl, J⟩))
  · by_cases a2 : v1 ≤ 30000
    · have a3 : ¬ 30000 < v1 := Int32.not_lt.mpr a2
      by_cases b1 : v2 < 0
      · exact br_f a1 (br_t a2 (br_t rfl (br_t b1 (br_f (by decide) (br_f a1 (br_f a3 (br_t b1 ⟨rfl, J⟩)))))))
      · by_cases b2 : v2 ≤ 30000
        · obtain ⟨b, hb, rfl⟩ := wk_arg a1 a2
          obtain ⟨E, hE, rfl⟩ := wk_arg b1 b2
          have hn : ¬ nI n = 0 := nI_ne0 (by omega) (by omega)
          have hm : 1 % n < n := Nat.mod_lt 1 (by omega)
          have hr : 1 - 1 / nI n * nI n = nI (1 % n) := pk_rem (a := 1) (by omega) (by omega) (by omega)
          obtain ⟨q, hX, hY⟩ := wk_pw h1 h2 hb hE E 0 (1 % n) (by omega) (by omega)
          exact br_f a1 (br_t a2 (br_t rfl (br_f b1 (br_t b2 (br_t rfl ⟨hn, nm_r hr ⟨_, hX _ (br_f a1 (br_f a3 (br_f b1 (br_t b2 ⟨hn, nm_r hr ⟨_, hY _ ⟨rfl, J⟩⟩⟩))))⟩⟩)))))
        · exact br_f a1 (br_t a2 (br_t rfl (br_f b1 (br_f b2 (br_f (by decide) (br_f a1 (br_f a3 (br_f b1 (br_f b2 ⟨rfl, J⟩)))))))))
    · exact br_f a1 (br_f a2 (br_f (by decide) (br_f a1 (br_t (Int32.not_le.mp a2) ⟨rfl, J⟩))))
theorem i_vc_order {k : Nat} {u : SX} {v : SY} (I : i_Rel k u v) (hk : k + 3 ≤ 1536) (v1 : Int32) : wpX_order (fun r => wpY_order (fun r' => r' = r ∧ i_Rel (k + 3) u v) v v1) u v1 := by
  have J := i_up I
  obtain ⟨rfl, n, h1, h2, rfl⟩ := I
  unfold wpX_order wpX_outside wpY_order
  by_cases a1 : v1 < 1
  · exact br_t a1 (br_f (by decide) (br_t a1 ⟨rfl, J⟩))
  · by_cases a2 : v1 ≤ 30000
    · have a0 : ¬ v1 < 0 := fun z => a1 (Int32.lt_trans z (by decide))
      obtain ⟨b, hb, rfl⟩ := wk_arg a0 a2
      refine br_f a1 (br_t a2 (br_t rfl (wk_seX h1 h2 hb (fun e e1 e2 e3 e4 => ?_) (fun hno => ?_))))
      · have hn2 : 2 ≤ n := by omega
        have hne : ¬ nI n = 1 := fun z => by
          have := (nI_eq (a := n) (b := 1) (by omega) (by omega)).mp z
          omega
        refine br_f a1 (br_t a2 (br_f hne (wk_gcdY _ (by omega) (by omega) (br_t ?_ (wk_ooY h1 h2 hb (by omega) e1 e3 e4 ⟨rfl, J⟩)))))
        rw [nt_ord_cop hn2 e1 e3]; rfl
      · by_cases z : n = 1
        · subst z
          exact br_f a1 (br_t a2 (br_t rfl ⟨rfl, J⟩))
        · have hne : ¬ nI n = 1 := fun w => by
            have := (nI_eq (a := n) (b := 1) (by omega) (by omega)).mp w
            omega
          have hg : Nat.gcd b n ≠ 1 := fun w => by
            obtain ⟨e, e1, e2, e3⟩ := nt_ord_ex (b := b) (N := n) (by omega) w
            exact hno e e1 e2 e3
          have hgl : Nat.gcd b n ≤ n := Nat.le_of_dvd (by omega) (Nat.gcd_dvd_right b n)
          refine br_f a1 (br_t a2 (br_f hne (wk_gcdY _ (by omega) (by omega) (br_f (fun w => ?_) ⟨rfl, J⟩))))
          exact hg ((nI_eq (a := Nat.gcd b n) (b := 1) (by omega) (by omega)).mp w)
    · exact br_f a1 (br_f a2 (br_f (by decide) (br_f a1 (br_f a2 ⟨rfl, J⟩))))
theorem i_vc_root {k : Nat} {u : SX} {v : SY} (I : i_Rel k u v) (hk : k + 3 ≤ 1536) (v1 : Int32) : wpX_root (fun r => wpY_root (fun r' => r' = r ∧ i_Rel (k + 3) u v) v v1) u v1 := by
  have J := i_up I
  obtain ⟨rfl, n, h1, h2, rfl⟩ := I
  unfold wpX_root wpX_outside wpY_root
  have hn : ¬ nI n = 0 := nI_ne0 (by omega) (by omega)
  by_cases a1 : v1 < 0
  · exact br_t a1 (br_f (by decide) (br_t a1 ⟨rfl, J⟩))
  · by_cases a2 : v1 ≤ 30000
    · refine br_f a1 (br_t a2 (br_t rfl (wk_ptX (by omega) (fun hp => ?_) (fun hp => ?_))))
      · obtain ⟨q, hX, hY⟩ := wk_rt h2 hp v1 n 0 (by omega)
        exact br_f (by decide) ⟨hn, nm_e ⟨_, hX _ (br_f a1 (br_t a2 ⟨_, hY _ ⟨rfl, J⟩⟩))⟩⟩
      · exact br_t rfl (br_f a1 (br_t a2 ⟨1, br_f (nI_ge (a := 0) (b := n) (by omega) (by omega)) (wk_pY _ (by omega) (fun z => absurd z hp) (fun _ => br_t rfl ⟨rfl, J⟩))⟩))
    · exact br_f a1 (br_f a2 (br_f (by decide) (br_f a1 (br_f a2 ⟨rfl, J⟩))))
theorem i_vc_nextPrime {k : Nat} {u : SX} {v : SY} (I : i_Rel k u v) (hk : k + 3 ≤ 1536) : wpX_nextPrime (fun r => wpY_nextPrime (fun r' => r' = r ∧ i_Rel (k + 3) u v) v) u := by
  have J := i_up I
  obtain ⟨rfl, n, h1, h2, rfl⟩ := I
  obtain ⟨q, ha, hb, hq, hl⟩ := nt_nx h1 h2
  exact nm_r (nI_1 n) ⟨_, wk_npX h2 hb hq hl (nm_r (nI_1 n) ⟨_, wk_npY h2 hb hq hl ⟨rfl, J⟩ (q - (n + 1)) (n + 1) (by omega) (by omega)⟩) (q - (n + 1)) (n + 1) (by omega) (by omega)⟩
theorem i_vc_factors {k : Nat} {u : SX} {v : SY} (I : i_Rel k u v) (hk : k + 3 ≤ 1536) : wpX_factors (fun r => wpY_factors (fun r' => r' = r ∧ i_Rel (k + 3) u v) v) u := by
  have J := i_up I
  obtain ⟨rfl, n, h1, h2, rfl⟩ := I
  exact ⟨_, fc_XF h1 h2 rfl ⟨n + 1, fc_Z _ h2 (n + 1) 2 0 n 14 (by omega) (by omega) (by omega) h1 (by omega) (fun e a b => by omega) (by omega) ⟨by rw [Nat.zero_add], J⟩⟩ (fc_len 14 n) 0 (by omega)⟩
theorem i_vc_factor {k : Nat} {u : SX} {v : SY} (I : i_Rel k u v) (hk : k + 3 ≤ 1536) (v1 : Int32) : wpX_factor (fun r => wpY_factor (fun r' => r' = r ∧ i_Rel (k + 3) u v) v v1) u v1 := by
  have J := i_up I
  obtain ⟨rfl, n, h1, h2, rfl⟩ := I
  unfold wpX_factor wpX_primeFactor wpY_factor
  exact ⟨15, fc_X v1 _ 14 0 n (by omega) h1 h2 ⟨n + 1, fc_Y v1 _ h2 (n + 1) 2 0 n 14 (by omega) (by omega) (by omega) h1 (by omega) (fun e a b => by omega) (by omega) (by omega) ⟨rfl, J⟩⟩⟩
theorem i_vc_coprimes {k : Nat} {u : SX} {v : SY} (I : i_Rel k u v) (hk : k + 3 ≤ 1536) : wpX_coprimes (fun r => wpY_coprimes (fun r' => r' = r ∧ i_Rel (k + 3) u v) v) u := by
  have J := i_up I
  obtain ⟨rfl, n, h1, h2, rfl⟩ := I
  have hX := fun (post : Int32 → Prop) hp => cp_X h1 h2 (post := post) hp (n - 1) 2 (by omega) (by omega)
  rw [cp_start] at hX
  exact ⟨_, hX _ ⟨_, cp_Y h2 ⟨by rw [cp_end h1], J⟩ n 0 (by omega)⟩⟩
theorem i_vc_generator {k : Nat} {u : SX} {v : SY} (I : i_Rel k u v) (hk : k + 3 ≤ 1536) : wpX_generator (fun r => wpY_generator (fun r' => r' = r ∧ i_Rel (k + 3) u v) v) u := by
  have J := i_up I
  obtain ⟨rfl, n, h1, h2, rfl⟩ := I
  unfold wpX_generator wpY_generator
  refine wk_ptX (by omega) (fun hp => ?_) (fun hp => ?_)
  · obtain ⟨g0, a, b, c⟩ := gn_ex h2 hp
    obtain ⟨q, hX, hY⟩ := gn_lock h2 hp b c (g0 - 1) 1 (by omega) (by omega)
    exact br_f (by decide) ⟨_, hX _ (wk_pY _ (by omega) (fun _ => br_f (by decide) ⟨_, hY _ ⟨rfl, J⟩⟩) (fun z => absurd hp z))⟩
  · exact br_t rfl (wk_pY _ (by omega) (fun z => absurd z hp) (fun _ => br_t rfl ⟨rfl, J⟩))
end
