/-! prime factors in ascending order -/
noncomputable def nt_sf (m : Nat) : Nat := @dite Nat (2 ≤ m) (Nat.decLe 2 m) (fun h => Classical.choose (nt_sf_ex h)) (fun _ => 0)
theorem nt_sf_spec {m : Nat} (h : 2 ≤ m) : nt_Sf m (nt_sf m) := by
  unfold nt_sf
  rw [dif_pos h]
  exact Classical.choose_spec (nt_sf_ex h)
noncomputable def fc_ans (k : Int32) : Nat → Nat → Nat → Int32
  | 0, _, _ => -2
  | t + 1, rest, i => if rest ≤ 1 then -2 else if nI i = k then nI (nt_sf rest) else fc_ans k t (rest / nt_sf rest) (i + 1)
noncomputable def fc_len : Nat → Nat → Nat
  | 0, _ => 0
  | t + 1, rest => if rest ≤ 1 then 0 else fc_len t (rest / nt_sf rest) + 1
theorem fc_one (k : Int32) (t i : Nat) : fc_ans k t 1 i = -2 := by
  cases t with
  | zero => rfl
  | succ t => rw [fc_ans, if_pos (Nat.le_refl 1)]
theorem fc_lone (t : Nat) : fc_len t 1 = 0 := by
  cases t with
  | zero => rfl
  | succ t => rw [fc_len, if_pos (Nat.le_refl 1)]
theorem fc_lle : ∀ t rest, fc_len t rest ≤ t := by
  intro t
  induction t with
  | zero => intro rest; exact Nat.le_refl 0
  | succ t ih =>
    intro rest
    rw [fc_len]
    by_cases h : rest ≤ 1
    · rw [if_pos h]; omega
    · rw [if_neg h]
      have := ih (rest / nt_sf rest)
      omega
theorem fc_m2 {p : Nat} (h : p < 2 ^ 31) : ¬ nI p = -2 := fun z => nI_pos h (by rw [z]; decide)
/-- what is left after a division by a divisor above 1 -/
theorem fc_rest {rest p : Nat} (h1 : 1 ≤ rest) (h2 : 2 ≤ p) (hd : p ∣ rest) : 1 ≤ rest / p ∧ rest / p < rest ∧ rest / p * 2 ≤ rest := by
  obtain ⟨c, hc⟩ := hd
  have h0 : c ≠ 0 := fun z => by rw [z, Nat.mul_zero] at hc; omega
  have e : rest / p = c := by rw [hc]; exact Nat.mul_div_cancel_left c (by omega)
  have : 2 * c ≤ p * c := Nat.mul_le_mul_right c h2
  rw [e]
  omega
theorem fc_al : ∀ (t rest i j : Nat), 1 ≤ rest → rest ≤ 30000 → i + j < 2 ^ 30 → (fc_ans (nI (i + j)) t rest i = -2 ↔ fc_len t rest ≤ j) := by
  intro t
  induction t with
  | zero => intro rest i j _ _ _; exact ⟨fun _ => Nat.zero_le j, fun _ => rfl⟩
  | succ t ih =>
    intro rest i j h1 h2 hij
    rw [fc_ans, fc_len]
    by_cases h : rest ≤ 1
    · rw [if_pos h, if_pos h]; exact ⟨fun _ => Nat.zero_le j, fun _ => rfl⟩
    · rw [if_neg h, if_neg h]
      have hs := nt_sf_spec (m := rest) (by omega)
      have hle : nt_sf rest ≤ rest := Nat.le_of_dvd (by omega) hs.2.1
      have hr := fc_rest h1 hs.1 hs.2.1
      cases j with
      | zero =>
        rw [if_pos (by rw [Nat.add_zero])]
        exact ⟨fun z => absurd z (fc_m2 (by omega)), fun z => by omega⟩
      | succ j =>
        have hne : ¬ nI i = nI (i + (j + 1)) := fun z => by
          have := (nI_eq (by omega) (by omega)).mp z
          omega
        rw [if_neg hne, show i + (j + 1) = (i + 1) + j by omega, ih (rest / nt_sf rest) (i + 1) j hr.1 (by omega) (by omega)]
        omega
theorem fc_X (k f : Int32) {post : Int32 → Prop} : ∀ (t i rest : Nat), i + t = 14 → 1 ≤ rest → rest ≤ 30000 → post (fc_ans k t rest i) → wX_primeFactor_7 post k f (t + 1) (nI rest) (nI i) := by
  intro t
  induction t with
  | zero =>
    intro i rest hi h1 h2 hp
    exact pk_le 14 i (fun _ => hp) (fun h => by omega) rfl rfl (by omega) (by omega)
  | succ t ih =>
    intro i rest hi h1 h2 hp
    rw [fc_ans] at hp
    refine pk_le 14 i (fun h => by omega) (fun _ => pk_le rest 1 (fun h => ?_) (fun h => wk_sfX (by omega) (by omega) (fun p hs => ?_)) rfl rfl (by omega) (by omega)) rfl rfl (by omega) (by omega)
    · rw [if_pos h] at hp; exact hp
    · rw [if_neg (by omega), nt_sf_uniq (nt_sf_spec (by omega)) hs] at hp
      have hr := fc_rest h1 hs.1 hs.2.1
      have hle : p ≤ rest := Nat.le_of_dvd (by omega) hs.2.1
      have h2p := hs.1
      by_cases e : nI i = k
      · rw [if_pos e] at hp
        exact br_t e hp
      · rw [if_neg e] at hp
        exact br_f e ⟨nI_ne0 (by omega) (by omega), nm_r (pk_div (by omega) (by omega) (by omega)) (nm_r (nI_1 i) (ih (i + 1) (rest / p) (by omega) hr.1 (by omega) hp))⟩
theorem fc_Y16 (k f : Int32) {post : Int32 → Prop} {B n d : Nat} (hB : B ≤ 30000) (h2 : 2 ≤ d) (hdB : d ≤ B)
    (ih : ∀ (i rest t : Nat), 1 ≤ rest → rest ≤ B → (∀ e, 2 ≤ e → e < d + 1 → ¬ e ∣ rest) → rest < 2 ^ (t + 1) → i + t ≤ 14 → post (fc_ans k t rest i) → wY_factor_10 post k f n (nI i) (nI rest) (nI (d + 1))) :
    ∀ (m i rest t : Nat), rest < m → 1 ≤ rest → rest ≤ B → (∀ e, 2 ≤ e → e < d → ¬ e ∣ rest) → rest < 2 ^ (t + 1) → i + t ≤ 14 → post (fc_ans k t rest i) → wY_factor_16 post (wY_factor_10 post k f n) k (nI d) f m (nI i) (nI rest) := by
  intro m
  induction m with
  | zero => intro i rest t h; omega
  | succ m ihm =>
    intro i rest t hm h1 hb hI ht hit hp
    have hr : rest % d ≤ rest := Nat.mod_le rest d
    refine And.intro (nI_ne0 (by omega) (by omega)) (pk_eq (rest % d) 0 (fun h0 => ?_) (fun h0 => ?_) (pk_rem (by omega) (by omega) (by omega)) rfl (by omega) (by omega))
    · have hd : d ∣ rest := Nat.dvd_of_mod_eq_zero h0
      have hle : d ≤ rest := Nat.le_of_dvd (by omega) hd
      have hsf : nt_Sf rest d := ⟨h2, hd, fun e he hem => Nat.le_of_not_lt fun hl => hI e he hl hem⟩
      have hq := fc_rest h1 h2 hd
      cases t with
      | zero => rw [Nat.zero_add, Nat.pow_one] at ht; omega
      | succ t =>
        rw [fc_ans, if_neg (by omega), nt_sf_uniq (nt_sf_spec (by omega)) hsf] at hp
        rw [Nat.pow_succ] at ht
        by_cases e : nI i = k
        · rw [if_pos e] at hp
          exact br_t e hp
        · rw [if_neg e] at hp
          exact br_f e ⟨nI_ne0 (by omega) (by omega), nm_r (pk_div (by omega) (by omega) (by omega)) (nm_r (nI_1 i) (ihm (i + 1) (rest / d) t (by omega) hq.1 (by omega) (fun e he hl hem => hI e he hl (Nat.dvd_trans hem (Nat.div_dvd_of_dvd hd))) (by omega) (by omega) hp))⟩
    · refine nm_r (nI_1 d) (ih i rest t h1 hb (fun e he hl hem => ?_) ht hit hp)
      by_cases q : e = d
      · exact h0 (Nat.mod_eq_zero_of_dvd (q ▸ hem))
      · exact hI e he (by omega) hem
theorem fc_Y (k f : Int32) {post : Int32 → Prop} {B : Nat} (hB : B ≤ 30000) : ∀ (n d i rest t : Nat), 2 ≤ d → d ≤ B + 1 → B + 1 < n + d → 1 ≤ rest → rest ≤ B → (∀ e, 2 ≤ e → e < d → ¬ e ∣ rest) → rest < 2 ^ (t + 1) → i + t ≤ 14 → post (fc_ans k t rest i) → wY_factor_10 post k f n (nI i) (nI rest) (nI d) := by
  intro n
  induction n with
  | zero => intro d i rest t _ a b; omega
  | succ n ih =>
    intro d i rest t h2 hdB hf h1 hb hI ht hit hp
    refine pk_lt rest d (fun h => ?_) (fun h => ⟨rest + 1, fc_Y16 k f hB h2 (by omega) (fun i rest t => ih (d + 1) i rest t (by omega) (by omega) (by omega)) (rest + 1) i rest t (by omega) h1 hb hI ht hit hp⟩) rfl rfl (by omega) (by omega)
    by_cases z : rest = 1
    · rw [z, fc_one] at hp; exact hp
    · exact absurd (Nat.dvd_refl rest) (hI rest (by omega) h)
theorem fc_Z14 (f : Int32) {post : Int32 → Prop} {B n d : Nat} (hB : B ≤ 30000) (h2 : 2 ≤ d) (hdB : d ≤ B)
    (ih : ∀ (i rest t : Nat), 1 ≤ rest → rest ≤ B → (∀ e, 2 ≤ e → e < d + 1 → ¬ e ∣ rest) → rest < 2 ^ (t + 1) → post (nI (i + fc_len t rest)) → wY_factors_9 post f n (nI i) (nI rest) (nI (d + 1))) :
    ∀ (m i rest t : Nat), rest < m → 1 ≤ rest → rest ≤ B → (∀ e, 2 ≤ e → e < d → ¬ e ∣ rest) → rest < 2 ^ (t + 1) → post (nI (i + fc_len t rest)) → wY_factors_14 post (wY_factors_9 post f n) (nI d) f m (nI i) (nI rest) := by
  intro m
  induction m with
  | zero => intro i rest t h; omega
  | succ m ihm =>
    intro i rest t hm h1 hb hI ht hp
    have hr : rest % d ≤ rest := Nat.mod_le rest d
    refine And.intro (nI_ne0 (by omega) (by omega)) (pk_eq (rest % d) 0 (fun h0 => ?_) (fun h0 => ?_) (pk_rem (by omega) (by omega) (by omega)) rfl (by omega) (by omega))
    · have hd : d ∣ rest := Nat.dvd_of_mod_eq_zero h0
      have hle : d ≤ rest := Nat.le_of_dvd (by omega) hd
      have hsf : nt_Sf rest d := ⟨h2, hd, fun e he hem => Nat.le_of_not_lt fun hl => hI e he hl hem⟩
      have hq := fc_rest h1 h2 hd
      cases t with
      | zero => rw [Nat.zero_add, Nat.pow_one] at ht; omega
      | succ t =>
        rw [fc_len, if_neg (by omega), nt_sf_uniq (nt_sf_spec (by omega)) hsf, show i + (fc_len t (rest / d) + 1) = (i + 1) + fc_len t (rest / d) by omega] at hp
        rw [Nat.pow_succ] at ht
        exact And.intro (nI_ne0 (by omega) (by omega)) (nm_r (pk_div (by omega) (by omega) (by omega)) (nm_r (nI_1 i) (ihm (i + 1) (rest / d) t (by omega) hq.1 (by omega) (fun e he hl hem => hI e he hl (Nat.dvd_trans hem (Nat.div_dvd_of_dvd hd))) (by omega) hp)))
    · refine nm_r (nI_1 d) (ih i rest t h1 hb (fun e he hl hem => ?_) ht hp)
      by_cases q : e = d
      · exact h0 (Nat.mod_eq_zero_of_dvd (q ▸ hem))
      · exact hI e he (by omega) hem
theorem fc_Z (f : Int32) {post : Int32 → Prop} {B : Nat} (hB : B ≤ 30000) : ∀ (n d i rest t : Nat), 2 ≤ d → d ≤ B + 1 → B + 1 < n + d → 1 ≤ rest → rest ≤ B → (∀ e, 2 ≤ e → e < d → ¬ e ∣ rest) → rest < 2 ^ (t + 1) → post (nI (i + fc_len t rest)) → wY_factors_9 post f n (nI i) (nI rest) (nI d) := by
  intro n
  induction n with
  | zero => intro d i rest t _ a b; omega
  | succ n ih =>
    intro d i rest t h2 hdB hf h1 hb hI ht hp
    refine pk_lt rest d (fun h => ?_) (fun h => ⟨rest + 1, fc_Z14 f hB h2 (by omega) (fun i rest t => ih (d + 1) i rest t (by omega) (by omega) (by omega)) (rest + 1) i rest t (by omega) h1 hb hI ht hp⟩) rfl rfl (by omega) (by omega)
    by_cases z : rest = 1
    · rw [z, fc_lone, Nat.add_zero] at hp; exact hp
    · exact absurd (Nat.dvd_refl rest) (hI rest (by omega) h)
theorem fc_XF {N L : Nat} (h1 : 1 ≤ N) (h2 : N ≤ 30000) (hL : fc_len 14 N = L) {post : Int32 → Prop} (hp : post (nI L)) : ∀ (s c : Nat), c + s = L → wX_factors_2 post (nI N) (s + 1) (nI c) := by
  have hl := fc_lle 14 N
  have key : ∀ c, c ≤ 14 → (fc_ans (nI c) 14 N 0 = -2 ↔ fc_len 14 N ≤ c) := fun c hc => by
    have := fc_al 14 N 0 c h1 h2 (by omega)
    rw [Nat.zero_add] at this
    exact this
  intro s
  induction s with
  | zero =>
    intro c hc
    have e : c = L := by omega
    rw [e]
    exact pk_le 14 L (fun _ => hp) (fun h => ⟨15, fc_X _ _ 14 0 N (by omega) h1 h2 (br_t ((key L (by omega)).mpr (by omega)) hp)⟩) rfl rfl (by omega) (by omega)
  | succ s ih =>
    intro c hc
    exact pk_le 14 c (fun h => by omega) (fun h => ⟨15, fc_X _ _ 14 0 N (by omega) h1 h2 (br_f (fun z => by have := (key c (by omega)).mp z; omega) (nm_r (nI_1 c) (ih (c + 1) (by omega))))⟩) rfl rfl (by omega) (by omega)
