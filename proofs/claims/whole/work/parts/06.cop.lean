/-! counting the numbers without a common factor -/
def cp_cnt (f : Nat → Bool) : Nat → Nat
  | 0 => 0
  | n + 1 => cp_cnt f n + (bif f (n + 1) then 1 else 0)
theorem cp_congr {f g : Nat → Bool} : ∀ n, (∀ k, 1 ≤ k → k ≤ n → f k = g k) → cp_cnt f n = cp_cnt g n := by
  intro n
  induction n with
  | zero => intro _; rfl
  | succ n ih =>
    intro h
    rw [cp_cnt, cp_cnt, ih (fun k a b => h k a (by omega)), h (n + 1) (by omega) (Nat.le_refl _)]
theorem cp_add (f : Nat → Bool) (a : Nat) : ∀ b, cp_cnt f (a + b) = cp_cnt f a + cp_cnt (fun k => f (a + k)) b := by
  intro b
  induction b with
  | zero => rfl
  | succ b ih =>
    rw [← Nat.add_assoc, cp_cnt, ih, cp_cnt, Nat.add_assoc, Nat.add_assoc]
theorem cp_per {f : Nat → Bool} {M : Nat} (h : ∀ t k, f (M * t + k) = f k) : ∀ t, cp_cnt f (M * t) = t * cp_cnt f M := by
  intro t
  induction t with
  | zero => rw [Nat.mul_zero, Nat.zero_mul]; rfl
  | succ t ih =>
    rw [Nat.mul_succ, cp_add, ih, Nat.succ_mul]
    congr 1
    exact cp_congr M (fun k _ _ => h t k)
theorem cp_zero {f : Nat → Bool} : ∀ n, (∀ k, 1 ≤ k → k ≤ n → f k = false) → cp_cnt f n = 0 := by
  intro n
  induction n with
  | zero => intro _; rfl
  | succ n ih =>
    intro h
    rw [cp_cnt, ih (fun k a b => h k a (by omega)), h (n + 1) (by omega) (Nat.le_refl _)]
    rfl
theorem cp_all : ∀ n, cp_cnt (fun _ => true) n = n := by
  intro n
  induction n with
  | zero => rfl
  | succ n ih => rw [cp_cnt, ih]; rfl
theorem cp_le (f : Nat → Bool) : ∀ n, cp_cnt f n ≤ n := by
  intro n
  induction n with
  | zero => exact Nat.le_refl 0
  | succ n ih =>
    rw [cp_cnt]
    cases f (n + 1)
    · exact Nat.le_succ_of_le ih
    · exact Nat.succ_le_succ ih
theorem cp_split (f a : Nat → Bool) : ∀ n, cp_cnt f n = cp_cnt (fun k => f k && a k) n + cp_cnt (fun k => f k && !a k) n := by
  intro n
  induction n with
  | zero => rfl
  | succ n ih =>
    rw [cp_cnt, cp_cnt, cp_cnt, ih]
    cases f (n + 1) <;> cases a (n + 1) <;> simp <;> omega
theorem cp_mul (f : Nat → Bool) {p : Nat} (hp : 1 ≤ p) : ∀ m, cp_cnt (fun k => f k && decide (p ∣ k)) (p * m) = cp_cnt (fun j => f (p * j)) m := by
  intro m
  induction m with
  | zero => rfl
  | succ m ih =>
    rw [Nat.mul_succ, cp_add, ih, cp_cnt]
    congr 1
    obtain ⟨q, rfl⟩ : ∃ q, p = q + 1 := ⟨p - 1, by omega⟩
    rw [cp_cnt, cp_zero q (fun k h1 h2 => ?_), Nat.zero_add]
    · have e : (q + 1) * m + (q + 1) = (q + 1) * (m + 1) := by rw [Nat.mul_succ]
      rw [e, decide_eq_true (Nat.dvd_mul_right (q + 1) (m + 1)), Bool.and_true]
    · have hnd : ¬ (q + 1) ∣ (q + 1) * m + k := fun z => by
        have := Nat.le_of_dvd (by omega) ((Nat.dvd_add_right (Nat.dvd_mul_right (q + 1) m)).mp z)
        omega
      rw [decide_eq_false hnd, Bool.and_false]
noncomputable def cp_g (N p k : Nat) : Bool := @decide (∀ q, nt_Pr q → q < p → q ∣ N → ¬ q ∣ k) (Classical.propDecidable _)
theorem cp_gi {N p k : Nat} : cp_g N p k = true ↔ ∀ q, nt_Pr q → q < p → q ∣ N → ¬ q ∣ k := by
  unfold cp_g
  exact @decide_eq_true_iff _ (Classical.propDecidable _)
theorem cp_bool {a b : Bool} (h : a = true ↔ b = true) : a = b := by
  cases a <;> cases b <;> simp_all
theorem cp_step {N p : Nat} (h1 : 1 ≤ N) (hp : nt_Pr p) (hd : p ∣ N) : ∃ C, cp_cnt (cp_g N p) N = p * C ∧ cp_cnt (cp_g N (p + 1)) N = C * (p - 1) := by
  obtain ⟨M, hM⟩ := hd
  have hp2 := hp.1
  have hq : ∀ q, nt_Pr q → q < p → q ∣ N → q ∣ M := fun q hq hl hqN => by
    refine nt_euc hq (hM ▸ hqN) (fun z => ?_)
    have := hp.2 q hq.1 z
    omega
  have hqj : ∀ q, nt_Pr q → q < p → ∀ j, q ∣ p * j → q ∣ j := fun q hq hl j z => by
    refine nt_euc hq z (fun w => ?_)
    have := hp.2 q hq.1 w
    omega
  have c1 : cp_cnt (cp_g N p) N = p * cp_cnt (cp_g N p) M := by
    have e := cp_per (f := cp_g N p) (M := M) (fun t k => cp_bool (by
      rw [cp_gi, cp_gi]
      refine ⟨fun h q a b c d => h q a b c ?_, fun h q a b c d => h q a b c ?_⟩
      · exact Nat.dvd_add (Nat.dvd_trans (hq q a b c) (Nat.dvd_mul_right M t)) d
      · exact (Nat.dvd_add_right (Nat.dvd_trans (hq q a b c) (Nat.dvd_mul_right M t))).mp d)) p
    rw [Nat.mul_comm M p, ← hM] at e
    exact e
  have c2 : cp_cnt (fun k => cp_g N p k && decide (p ∣ k)) N = cp_cnt (cp_g N p) M := by
    have e := cp_mul (cp_g N p) (p := p) (by omega) M
    rw [← hM] at e
    rw [e]
    refine cp_congr M (fun j _ _ => cp_bool ?_)
    rw [cp_gi, cp_gi]
    exact ⟨fun h q a b c d => h q a b c (Nat.dvd_trans d (Nat.dvd_mul_left j p)), fun h q a b c d => h q a b c (hqj q a b j d)⟩
  have c3 : cp_cnt (fun k => cp_g N p k && !decide (p ∣ k)) N = cp_cnt (cp_g N (p + 1)) N := by
    refine cp_congr N (fun k _ _ => cp_bool ?_)
    rw [Bool.and_eq_true, cp_gi, cp_gi, Bool.not_eq_true', decide_eq_false_iff_not]
    constructor
    · intro ⟨h, hn⟩ q a b c d
      by_cases z : q = p
      · exact hn (z ▸ d)
      · exact h q a (by omega) c d
    · intro h
      exact ⟨fun q a b c d => h q a (by omega) c d, fun d => h p hp (by omega) ⟨M, hM⟩ d⟩
  refine ⟨cp_cnt (cp_g N p) M, c1, ?_⟩
  have s := cp_split (cp_g N p) (fun k => decide (p ∣ k)) N
  rw [c2, c3, c1] at s
  rw [Nat.mul_sub, Nat.mul_one, Nat.mul_comm _ p]
  omega
theorem cp_skip {N p : Nat} (h : ¬ (p ∣ N ∧ nt_Pr p)) : cp_cnt (cp_g N (p + 1)) N = cp_cnt (cp_g N p) N := by
  refine cp_congr N (fun k _ _ => cp_bool ?_)
  rw [cp_gi, cp_gi]
  refine ⟨fun w q a b c d => w q a (by omega) c d, fun w q a b c d => ?_⟩
  by_cases z : q = p
  · subst z; exact h ⟨c, a⟩
  · exact w q a (by omega) c d
theorem cp_start {N : Nat} : cp_cnt (cp_g N 2) N = N := by
  refine Eq.trans (cp_congr N (fun k _ _ => cp_bool ?_)) (cp_all N)
  rw [cp_gi]
  exact ⟨fun _ => rfl, fun _ q a b _ _ => by have := a.1; omega⟩
theorem cp_end {N : Nat} (h1 : 1 ≤ N) : cp_cnt (cp_g N (N + 1)) N = cp_cnt (fun k => decide (Nat.gcd k N = 1)) N := by
  refine cp_congr N (fun k k1 _ => cp_bool ?_)
  rw [cp_gi, decide_eq_true_iff]
  constructor
  · intro h
    have g0 : Nat.gcd k N ≠ 0 := fun z => by
      have := Nat.eq_zero_of_gcd_eq_zero_left z
      omega
    by_cases g2 : 2 ≤ Nat.gcd k N
    · obtain ⟨q, hq⟩ := nt_sf_ex g2
      have d1 : q ∣ N := Nat.dvd_trans hq.2.1 (Nat.gcd_dvd_right k N)
      have d2 : q ∣ k := Nat.dvd_trans hq.2.1 (Nat.gcd_dvd_left k N)
      exact absurd d2 (h q (nt_sf_pr hq) (Nat.lt_succ_of_le (Nat.le_of_dvd (by omega) d1)) d1)
    · omega
  · intro g q a b c d
    have := Nat.dvd_gcd d c
    rw [g] at this
    have e := Nat.eq_one_of_dvd_one this
    have := a.1
    omega
theorem cp_X {N : Nat} (h1 : 1 ≤ N) (h2 : N ≤ 30000) {post : Int32 → Prop} (hp : post (nI (cp_cnt (cp_g N (N + 1)) N))) : ∀ (t p : Nat), p + t = N + 1 → 2 ≤ p → wX_coprimes_7 post (nI N) (t + 1) (nI (cp_cnt (cp_g N p) N)) (nI p) := by
  intro t
  induction t with
  | zero =>
    intro p hpt hp2
    have e : p = N + 1 := by omega
    rw [e]
    exact br_t (nI_lt (by omega) (by omega)) hp
  | succ t ih =>
    intro p hpt hp2
    have hn : ¬ nI p = 0 := nI_ne0 (by omega) (by omega)
    have hr : N % p ≤ N := Nat.mod_le N p
    have nx := ih (p + 1) (by omega) (by omega)
    refine br_f (nI_nlt (by omega) (by omega)) (And.intro hn (pk_eq (N % p) 0 (fun h0 => wk_ptX (by omega) (fun hpr => ?_) (fun hpr => ?_)) (fun h0 => ?_) (pk_rem (by omega) (by omega) (by omega)) rfl (by omega) (by omega)))
    · obtain ⟨C, c1, c2⟩ := cp_step h1 hpr (Nat.dvd_of_mod_eq_zero h0)
      have hle := cp_le (cp_g N p) N
      have hC : C ≤ p * C := Nat.le_mul_of_pos_left C (by omega)
      rw [c2] at nx
      rw [c1]
      refine br_f (by decide) (And.intro hn (nm_r (e' := nI (C * (p - 1))) ?_ (nm_r (nI_1 p) nx)))
      rw [pk_div (by omega) (by omega) (by omega), Nat.mul_div_cancel_left C (by omega), show nI p - 1 = nI (p - 1) from pk_sub (b := 1) (by omega), pk_mul]
    · rw [cp_skip (fun z => hpr z.2)] at nx
      exact br_t rfl (nm_r (nI_1 p) nx)
    · rw [cp_skip (fun z => h0 (Nat.mod_eq_zero_of_dvd z.1))] at nx
      exact nm_r (nI_1 p) nx
theorem cp_Y {N : Nat} (h2 : N ≤ 30000) {post : Int32 → Prop} (hp : post (nI (cp_cnt (fun k => decide (Nat.gcd k N = 1)) N))) : ∀ (t j : Nat), j + t = N → wY_coprimes_4 post (nI N) (t + 1) (nI (cp_cnt (fun k => decide (Nat.gcd k N = 1)) j)) (nI (j + 1)) := by
  intro t
  induction t with
  | zero =>
    intro j hj
    have e : j = N := by omega
    rw [e]
    exact br_t (nI_lt (by omega) (by omega)) hp
  | succ t ih =>
    intro j hj
    have nx := ih (j + 1) (by omega)
    rw [cp_cnt] at nx
    have hgl : Nat.gcd (j + 1) N ≤ j + 1 := Nat.le_of_dvd (by omega) (Nat.gcd_dvd_left (j + 1) N)
    refine br_f (nI_nlt (by omega) (by omega)) (wk_gcdY _ (by omega) (by omega) (pk_eq (Nat.gcd (j + 1) N) 1 (fun g => ?_) (fun g => ?_) rfl rfl (by omega) (by omega)))
    · rw [decide_eq_true g] at nx
      exact nm_r (nI_1 _) (nm_r (nI_1 (j + 1)) nx)
    · rw [decide_eq_false g] at nx
      exact nm_r (nI_1 (j + 1)) nx
