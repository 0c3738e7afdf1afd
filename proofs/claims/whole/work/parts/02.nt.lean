/-! primes, least divisors, orders: plain arithmetic -/
def nt_Pr (m : Nat) : Prop := 2 ≤ m ∧ ∀ d, 2 ≤ d → d ∣ m → d = m
def nt_Sf (m p : Nat) : Prop := 2 ≤ p ∧ p ∣ m ∧ ∀ d, 2 ≤ d → d ∣ m → p ≤ d
theorem nt_sf_uniq {m p q : Nat} (hp : nt_Sf m p) (hq : nt_Sf m q) : p = q :=
  Nat.le_antisymm (hp.2.2 q hq.1 hq.2.1) (hq.2.2 p hp.1 hp.2.1)
theorem nt_sf_ex {m : Nat} (h : 2 ≤ m) : ∃ p, nt_Sf m p := by
  obtain ⟨p, hp, hl⟩ := pk_least (fun d => 2 ≤ d ∧ d ∣ m) ⟨m, h, Nat.dvd_refl m⟩
  exact ⟨p, hp.1, hp.2, fun d h2 hd => Nat.le_of_not_lt fun hlt => hl d hlt ⟨h2, hd⟩⟩
theorem nt_sf_pr {m p : Nat} (h : nt_Sf m p) : nt_Pr p :=
  ⟨h.1, fun d h2 hd => Nat.le_antisymm (Nat.le_of_dvd (Nat.lt_of_lt_of_le (by decide) h.1) hd) (h.2.2 d h2 (Nat.dvd_trans hd h.2.1))⟩
theorem nt_sf_eq {m p : Nat} (h : nt_Sf m p) : p = m ↔ nt_Pr m :=
  ⟨fun e => e ▸ nt_sf_pr h, fun hp => hp.2 p h.1 h.2.1⟩
theorem nt_pr_sf {m : Nat} (h : nt_Pr m) : nt_Sf m m :=
  ⟨h.1, Nat.dvd_refl m, fun d h2 hd => Nat.le_of_eq (h.2 d h2 hd).symm⟩
theorem nt_big {m d : Nat} (hm : 2 ≤ m) (hs : m < d * d) (hI : ∀ e, 2 ≤ e → e < d → ¬ e ∣ m) : nt_Pr m := by
  refine ⟨hm, fun e he hem => ?_⟩
  obtain ⟨c, hc⟩ := hem
  by_cases h1 : c = 1
  · rw [hc, h1, Nat.mul_one]
  · have h0 : c ≠ 0 := fun z => by rw [z, Nat.mul_zero] at hc; omega
    have a : ¬ e < d := fun h => hI e he h ⟨c, hc⟩
    have b : ¬ c < d := fun h => hI c (by omega) h ⟨e, by rw [hc, Nat.mul_comm]⟩
    have : d * d ≤ e * c := Nat.mul_le_mul (by omega) (by omega)
    omega
theorem nt_cop {p k : Nat} (hp : nt_Pr p) (h : ¬ p ∣ k) : Nat.Coprime p k := by
  have hg : Nat.gcd p k ∣ p := Nat.gcd_dvd_left p k
  have h0 : Nat.gcd p k ≠ 0 := fun z => by
    have := Nat.eq_zero_of_gcd_eq_zero_left z
    have := hp.1
    omega
  by_cases h2 : 2 ≤ Nat.gcd p k
  · have e := hp.2 _ h2 hg
    exact absurd (e ▸ Nat.gcd_dvd_right p k) h
  · show Nat.gcd p k = 1
    omega
theorem nt_euc {p a b : Nat} (hp : nt_Pr p) (h : p ∣ a * b) (ha : ¬ p ∣ a) : p ∣ b :=
  Nat.Coprime.dvd_of_dvd_mul_left (nt_cop hp ha) h
/-- no more pigeons than holes -/
theorem nt_pig : ∀ (m : Nat) (f : Nat → Nat), (∀ i, i ≤ m → f i < m) → ∃ i j, i < j ∧ j ≤ m ∧ f i = f j := by
  intro m
  induction m with
  | zero => intro f h; exact absurd (h 0 (Nat.le_refl 0)) (Nat.not_lt_zero _)
  | succ m ih =>
    intro f h
    by_cases c : ∃ i, i ≤ m ∧ f i = f (m + 1)
    · obtain ⟨i, hi, e⟩ := c
      exact ⟨i, m + 1, by omega, Nat.le_refl _, e⟩
    · have hv := h (m + 1) (Nat.le_refl _)
      have hg : ∀ i, i ≤ m → (if f i < f (m + 1) then f i else f i - 1) < m := by
        intro i hi
        have a : f i ≠ f (m + 1) := fun z => c ⟨i, hi, z⟩
        have b := h i (by omega)
        by_cases q : f i < f (m + 1)
        · rw [if_pos q]; omega
        · rw [if_neg q]; omega
      obtain ⟨i, j, hij, hj, e⟩ := ih (fun i => if f i < f (m + 1) then f i else f i - 1) hg
      refine ⟨i, j, hij, by omega, ?_⟩
      have a : f i ≠ f (m + 1) := fun z => c ⟨i, by omega, z⟩
      have b : f j ≠ f (m + 1) := fun z => c ⟨j, hj, z⟩
      by_cases q : f i < f (m + 1)
      · by_cases q' : f j < f (m + 1)
        · rw [if_pos q, if_pos q'] at e; exact e
        · rw [if_pos q, if_neg q'] at e; omega
      · by_cases q' : f j < f (m + 1)
        · rw [if_neg q, if_pos q'] at e; omega
        · rw [if_neg q, if_neg q'] at e; omega
/-- a base with no common factor has an order below N -/
theorem nt_ord_ex {b N : Nat} (hN : 2 ≤ N) (hg : Nat.Coprime b N) : ∃ e, 1 ≤ e ∧ e < N ∧ b ^ e % N = 1 := by
  have hpos : ∀ i, 1 ≤ b ^ i % N := by
    intro i
    by_cases z : b ^ i % N = 0
    · have d : N ∣ b ^ i := Nat.dvd_of_mod_eq_zero z
      have c : Nat.Coprime N (b ^ i) := Nat.Coprime.pow_right i hg.symm
      have := Nat.Coprime.eq_one_of_dvd c d
      omega
    · omega
  obtain ⟨i, j, hij, hj, e⟩ := nt_pig (N - 1) (fun i => b ^ i % N - 1) (fun i _ => by
    have := hpos i
    have : b ^ i % N < N := Nat.mod_lt _ (by omega)
    omega)
  have e2 : b ^ j % N = b ^ i % N := by
    have := hpos i
    have := hpos j
    omega
  have d : N ∣ b ^ j - b ^ i := Nat.dvd_of_mod_eq_zero (Nat.sub_mod_eq_zero_of_mod_eq e2)
  have hs : b ^ j = b ^ i * b ^ (j - i) := by rw [← Nat.pow_add]; congr 1; omega
  have d2 : N ∣ b ^ i * (b ^ (j - i) - 1) := by
    rw [Nat.mul_sub, Nat.mul_one, ← hs]; exact d
  have d3 : N ∣ b ^ (j - i) - 1 := Nat.Coprime.dvd_of_dvd_mul_left (Nat.Coprime.pow_right i hg.symm) d2
  refine ⟨j - i, by omega, by omega, ?_⟩
  obtain ⟨c, hc⟩ := d3
  have h1 : 1 ≤ b ^ (j - i) := by
    have := hpos (j - i)
    exact Nat.le_trans this (Nat.mod_le _ _)
  have : b ^ (j - i) = 1 + N * c := by omega
  rw [this, Nat.add_mul_mod_self_left, Nat.mod_eq_of_lt (by omega)]
theorem nt_ord_cop {b N e : Nat} (hN : 2 ≤ N) (he : 1 ≤ e) (h : b ^ e % N = 1) : Nat.gcd b N = 1 := by
  have d0 : b ∣ b ^ e := by
    obtain ⟨c, rfl⟩ : ∃ c, e = c + 1 := ⟨e - 1, by omega⟩
    rw [Nat.pow_succ]
    exact Nat.dvd_mul_left b _
  have d1 : Nat.gcd b N ∣ b ^ e := Nat.dvd_trans (Nat.gcd_dvd_left b N) d0
  have d2 : Nat.gcd b N ∣ b ^ e % N := (Nat.dvd_mod_iff (Nat.gcd_dvd_right b N)).mpr d1
  rw [h] at d2
  exact Nat.eq_one_of_dvd_one d2
