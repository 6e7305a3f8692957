theorem qs_hd (f : Nat → Int) (n : Nat) : qa_sm f (n + 1) = f 0 + qa_sm (fun i => f (i + 1)) n := by
  induction n with
  | zero => simp only [qa_sm]; omega
  | succ n ih => rw [qa_sm, ih, qa_sm]; omega
theorem qs_add (f g : Nat → Int) (n : Nat) : qa_sm (fun i => f i + g i) n = qa_sm f n + qa_sm g n := by
  induction n with
  | zero => rfl
  | succ n ih => rw [qa_sm, ih, qa_sm, qa_sm]; omega
theorem qs_sub (f g : Nat → Int) (n : Nat) : qa_sm (fun i => f i - g i) n = qa_sm f n - qa_sm g n := by
  induction n with
  | zero => rfl
  | succ n ih => rw [qa_sm, ih, qa_sm, qa_sm]; omega
theorem qs_mul (c : Int) (f : Nat → Int) (n : Nat) : qa_sm (fun i => c * f i) n = c * qa_sm f n := by
  induction n with
  | zero => simp only [qa_sm]; omega
  | succ n ih => rw [qa_sm, ih, qa_sm, Int.mul_add]
theorem qs_mulr (c : Int) (f : Nat → Int) (n : Nat) : qa_sm (fun i => f i * c) n = qa_sm f n * c := by
  induction n with
  | zero => simp only [qa_sm]; omega
  | succ n ih => rw [qa_sm, ih, qa_sm, Int.add_mul]
theorem qs_swap (f : Nat → Nat → Int) (n m : Nat) : qa_sm (fun i => qa_sm (fun j => f i j) m) n = qa_sm (fun j => qa_sm (fun i => f i j) n) m := by
  induction n with
  | zero => exact (qa_sm_0 fun _ _ => rfl).symm
  | succ n ih => rw [qa_sm, ih, ← qs_add]; rfl
theorem qs_one {f : Nat → Int} {n j : Nat} (hj : j < n) (h : ∀ i, i < n → i ≠ j → f i = 0) : qa_sm f n = f j := by
  induction n with
  | zero => omega
  | succ n ih =>
    rw [qa_sm]
    by_cases e : j = n
    · subst e
      rw [qa_sm_0 fun i hi => h i (by omega) (by omega)]
      omega
    · rw [ih (by omega) (fun i hi hn => h i (by omega) hn), h n (by omega) (by omega)]
      omega
theorem qs_ext {f : Nat → Int} {n m : Nat} (h : n ≤ m) (h0 : ∀ i, n ≤ i → i < m → f i = 0) : qa_sm f m = qa_sm f n := by
  induction m with
  | zero => rw [show n = 0 by omega]
  | succ m ih =>
    by_cases e : n = m + 1
    · rw [e]
    · rw [qa_sm, ih (by omega) (fun i h1 h2 => h0 i h1 (by omega)), h0 m (by omega) (by omega)]
      omega
def qe_v (f : Nat → Int) (x : Int) (n : Nat) : Int := qa_sm (fun k => f k * x ^ k) n
theorem qe_ho (f : Nat → Int) (x : Int) : ∀ n k, qa_ho f x n k = qa_sm (fun i => f (k + i) * x ^ i) n := by
  intro n
  induction n with
  | zero => intro k; rfl
  | succ n ih =>
    intro k
    rw [qa_ho_s, ih (k + 1), qs_hd, ← qs_mulr, Int.add_comm]
    congr 1
    · rw [Nat.add_zero, Int.pow_zero, Int.mul_one]
    · refine qa_sm_c fun i _ => ?_
      rw [show k + 1 + i = k + (i + 1) by omega, Int.pow_succ, Int.mul_assoc]
theorem qe_ho0 (f : Nat → Int) (x : Int) (n : Nat) : qa_ho f x n 0 = qe_v f x n := by
  rw [qe_ho]
  exact qa_sm_c fun i _ => by rw [Nat.zero_add]
theorem qe_zroot (pt : Nat → Int) {n i : Nat} (h : i < n) : qa_ho (qa_zp pt n) (pt i) (n + 1) 0 = 0 := by
  obtain ⟨t, rfl⟩ : ∃ t, n = t + 1 := ⟨n - 1, by omega⟩
  rw [qa_np_hi pt h, qa_ho_lin _ _ t (qa_np_deg pt h), Int.sub_self, Int.zero_mul]
theorem qe_nroot (pt : Nat → Int) {j i : Nat} (hij : i ≠ j) : ∀ n, j < n → i < n → qa_ho (qa_np pt j n) (pt i) n 0 = 0 := by
  intro n
  induction n with
  | zero => omega
  | succ n ih =>
    intro hj hi
    by_cases e : n = j
    · subst e
      rw [qa_np_e, qa_np_lo pt (Nat.le_refl n)]
      exact qe_zroot pt (by omega)
    · obtain ⟨t, rfl⟩ : ∃ t, n = t + 1 := ⟨n - 1, by omega⟩
      rw [qa_np_s pt e, qa_ho_lin _ _ t (qa_np_deg pt (by omega))]
      by_cases q : i = t + 1
      · rw [q, Int.sub_self, Int.zero_mul]
      · rw [ih (by omega) (by omega), Int.mul_zero]
def qe_e : Nat → Nat
  | 0 => 0
  | n + 1 => if (((2147483645 : Int32) >>> (nI n &&& 31)) &&& 1) = 1 then qe_e n + 2 ^ n else qe_e n
theorem qe_e31 : qe_e 31 + 2 = 2147483647 := by decide +kernel
theorem qe_pw (a : Int) : ∀ n, (qa_pw a n).1 = a ^ (qe_e n) ∧ (qa_pw a n).2 = a ^ (2 ^ n) := by
  intro n
  induction n with
  | zero => exact ⟨by rw [qe_e, Int.pow_zero]; rfl, by rw [Nat.pow_zero, Int.pow_one]; rfl⟩
  | succ n ih =>
    rw [qa_pw, qe_e]
    refine ⟨?_, ?_⟩
    · by_cases h : (((2147483645 : Int32) >>> (nI n &&& 31)) &&& 1) = 1
      · rw [if_pos h, if_pos h, ih.1, ih.2, Int.pow_add]
      · rw [if_neg h, if_neg h, ih.1]
    · show (qa_pw a n).2 * (qa_pw a n).2 = _
      rw [ih.2, ← Int.pow_add, Nat.pow_succ]
      congr 1
      omega
theorem qe_dom {a b : Int} (h : a * b % 2147483647 = 0) (ha : a % 2147483647 ≠ 0) : b % 2147483647 = 0 := qf_dom qf_p h ha
theorem qe_iv {a : Int} (ha : a % 2147483647 ≠ 0) : a * qa_iv a % 2147483647 = 1 := by
  unfold qa_iv
  rw [(qe_pw a 31).1]
  exact qf_unit qf_p qe_e31 ha
theorem qe_dn {pt : Nat → Int} {j m : Nat} (hd : ∀ i, i < m → i ≠ j → (pt j - pt i) % 2147483647 ≠ 0) : ∀ n, n ≤ m → qa_dn pt j n % 2147483647 ≠ 0 := by
  intro n
  induction n with
  | zero => intro _; rw [qa_dn]; decide
  | succ n ih =>
    intro hn
    by_cases e : n = j
    · subst e
      rw [qa_dn_e]
      exact ih (by omega)
    · rw [qa_dn_s pt e]
      intro h
      exact hd n (by omega) e (qe_dom h (ih (by omega)))
theorem qe_pz {M x pt : Nat → Int} {w m t j : Nat} (hd : ∀ i j, i < m → j < m → i ≠ j → (pt i - pt j) % 2147483647 ≠ 0) (hj : j < m) : qa_ho (qa_pz M x pt w m t) (pt j) m 0 % 2147483647 = qa_rv M x w t j % 2147483647 := by
  have e1 : qa_ho (qa_pz M x pt w m t) (pt j) m 0 = qa_sm (fun i => qa_rv M x w t i * qa_iv (qa_dn pt i m) * qa_ho (qa_np pt i m) (pt j) m 0) m := by
    rw [qe_ho0]
    unfold qe_v
    have e2 : ∀ k, k < m → qa_pz M x pt w m t k * pt j ^ k = qa_sm (fun i => qa_rv M x w t i * qa_iv (qa_dn pt i m) * (qa_np pt i m k * pt j ^ k)) m := by
      intro k _
      unfold qa_pz
      rw [← qs_mulr]
      refine qa_sm_c fun i _ => ?_
      unfold qa_bs
      grind
    rw [qa_sm_c e2, qs_swap (fun k i => qa_rv M x w t i * qa_iv (qa_dn pt i m) * (qa_np pt i m k * pt j ^ k))]
    refine qa_sm_c fun i _ => ?_
    rw [qs_mul, qe_ho0]
    rfl
  rw [e1, qs_one hj (fun i hi hn => by rw [qe_nroot pt (fun q => hn q.symm) m hi hj, Int.mul_zero]), qa_np_val pt hj]
  have u := qe_iv (qe_dn (fun i hi hn => hd j i hj hi (fun q => hn q.symm)) m (Nat.le_refl m))
  generalize qa_dn pt j m = d at u
  have e3 : qa_rv M x w t j * qa_iv d * d = qa_rv M x w t j * (d * qa_iv d) := by grind
  rw [e3, Int.mul_emod, u, Int.mul_one, Int.emod_emod]
theorem qe_c2 (A B : Nat → Int) (x : Int) (a l n : Nat) (h : a + l ≤ n) : qe_v (qa_c2 A B a l) x n = A a * x ^ a * qe_v B x l := by
  unfold qe_v
  have e : ∀ t, t < n → qa_c2 A B a l t * x ^ t = qa_sm (fun b => (if a + b = t then A a * B b else 0) * x ^ t) l := by
    intro t _
    unfold qa_c2
    rw [← qs_mulr]
  rw [qa_sm_c e, qs_swap (fun t b => (if a + b = t then A a * B b else 0) * x ^ t), ← qs_mul]
  refine qa_sm_c fun b hb => ?_
  rw [qs_one (j := a + b) (by omega) (fun t _ ht => by rw [if_neg (fun q => ht q.symm), Int.zero_mul]), if_pos rfl, Int.pow_add]
  grind
theorem qe_c1 (A B : Nat → Int) (x : Int) (l i n : Nat) (h : i + l ≤ n + 1) : qe_v (qa_c1 A B l i) x n = qe_v A x i * qe_v B x l := by
  have e : ∀ t, t < n → qa_c1 A B l i t * x ^ t = qa_sm (fun a => qa_c2 A B a l t * x ^ t) i := by
    intro t _
    unfold qa_c1
    rw [← qs_mulr]
  unfold qe_v
  rw [qa_sm_c e, qs_swap (fun t a => qa_c2 A B a l t * x ^ t), ← qs_mulr]
  refine qa_sm_c fun a ha => ?_
  exact qe_c2 A B x a l n (by omega)
theorem qe_zpm (pt : Nat → Int) : ∀ n, qa_zp pt n n = 1 := by
  intro n
  induction n with
  | zero => rfl
  | succ n ih => rw [qa_zp, qa_linS, ih, qa_zp_deg pt n (n + 1) (Nat.le_refl _), Int.mul_zero]; rfl
def qe_d (Z H : Nat → Int) (m i t : Nat) : Int := if i ≤ t ∧ t ≤ i + m then H i * Z (t - i) else 0
theorem qe_rm (Z g : Nat → Int) {m : Nat} : ∀ s, s + 1 ≤ m → ∀ t, qa_rm Z g m s t + qa_sm (fun i => qe_d Z (qa_hh Z g m) m (m - 1 - s + i) t) s = g t := by
  intro s
  induction s with
  | zero => intro _ t; exact Int.add_zero _
  | succ s ih =>
    intro hs t
    have h := ih (by omega) t
    rw [qs_hd, qa_rm]
    have e : ∀ i, i < s → qe_d Z (qa_hh Z g m) m (m - 1 - (s + 1) + (i + 1)) t = qe_d Z (qa_hh Z g m) m (m - 1 - s + i) t := by
      intro i _
      rw [show m - 1 - (s + 1) + (i + 1) = m - 1 - s + i by omega]
    rw [qa_sm_c e, ← h]
    have eh : qa_rm Z g m s (m - 2 - s + m) = qa_hh Z g m (m - 2 - s) := by
      unfold qa_hh
      rw [if_pos (by omega), show m - 2 - (m - 2 - s) = s by omega]
    rw [eh, show m - 1 - (s + 1) + 0 = m - 2 - s by omega]
    unfold qa_dst qe_d
    by_cases q : m - 2 - s ≤ t ∧ t < m - 2 - s + (m + 1)
    · rw [if_pos q, if_pos (by omega)]
      omega
    · rw [if_neg q, if_neg (by omega)]
      omega
theorem qe_hi (pt g : Nat → Int) {m : Nat} (hg : ∀ t, 2 * m ≤ t + 1 → g t = 0) : ∀ s, s + 1 ≤ m → ∀ t, 2 * m ≤ t + 1 + s → qa_rm (qa_zp pt m) g m s t = 0 := by
  intro s
  induction s with
  | zero => intro _ t ht; exact hg t (by omega)
  | succ s ih =>
    intro hs t ht
    rw [qa_rm]
    unfold qa_dst
    by_cases q : 2 * m ≤ t + 1 + s
    · rw [if_neg (by omega)]
      exact ih (by omega) t q
    · have et : t = m - 2 - s + m := by omega
      rw [if_pos (by omega), show t - (m - 2 - s) = m by omega, qe_zpm, ← et]
      omega
theorem qe_div (pt g : Nat → Int) {m : Nat} (hm : 0 < m) (t : Nat) : qa_rr (qa_zp pt m) g m t + qa_sm (fun i => qe_d (qa_zp pt m) (qa_hh (qa_zp pt m) g m) m i t) (m - 1) = g t := by
  have := qe_rm (qa_zp pt m) g (m := m) (m - 1) (by omega) t
  rw [show m - 1 - (m - 1) = 0 by omega] at this
  have e : ∀ i, i < m - 1 → qe_d (qa_zp pt m) (qa_hh (qa_zp pt m) g m) m (0 + i) t = qe_d (qa_zp pt m) (qa_hh (qa_zp pt m) g m) m i t := fun i _ => by rw [Nat.zero_add]
  rw [qa_sm_c e] at this
  exact this
theorem qe_rr0 (pt g : Nat → Int) {m : Nat} (hm : 0 < m) (hg : ∀ t, 2 * m ≤ t + 1 → g t = 0) {t : Nat} (ht : m ≤ t) : qa_rr (qa_zp pt m) g m t = 0 := qe_hi pt g hg (m - 1) (by omega) t (by omega)
theorem qe_hh0 (Z g : Nat → Int) {m i : Nat} (h : m ≤ i + 1) : qa_hh Z g m i = 0 := if_neg (by omega)
theorem qe_dc (Z H : Nat → Int) (m i t : Nat) : qe_d Z H m i t = qa_c2 H Z i (m + 1) t := by
  unfold qe_d qa_c2
  by_cases q : i ≤ t ∧ t ≤ i + m
  · rw [if_pos q, qs_one (j := t - i) (by omega) (fun b _ hb => if_neg (by omega)), if_pos (by omega)]
  · rw [if_neg q]
    exact (qa_sm_0 fun b hb => if_neg (by omega)).symm
theorem qe_id (pt g : Nat → Int) {m : Nat} (hm : 0 < m) (hg : ∀ t, 2 * m ≤ t + 1 → g t = 0) (x : Int) : qe_v g x (2 * m - 1) = qe_v (qa_hh (qa_zp pt m) g m) x m * qe_v (qa_zp pt m) x (m + 1) + qe_v (qa_rr (qa_zp pt m) g m) x m := by
  have e1 : qe_v g x (2 * m - 1) = qe_v (qa_rr (qa_zp pt m) g m) x (2 * m - 1) + qe_v (qa_c1 (qa_hh (qa_zp pt m) g m) (qa_zp pt m) (m + 1) (m - 1)) x (2 * m - 1) := by
    unfold qe_v
    rw [← qs_add]
    refine qa_sm_c fun t _ => ?_
    rw [← Int.add_mul]
    congr 1
    rw [← qe_div pt g hm t]
    congr 1
    unfold qa_c1
    exact qa_sm_c fun i _ => qe_dc _ _ _ _ _
  have e2 : qe_v (qa_rr (qa_zp pt m) g m) x (2 * m - 1) = qe_v (qa_rr (qa_zp pt m) g m) x m := qs_ext (by omega) (fun i h1 _ => by rw [qe_rr0 pt g hm hg h1, Int.zero_mul])
  have e3 : qe_v (qa_hh (qa_zp pt m) g m) x m = qe_v (qa_hh (qa_zp pt m) g m) x (m - 1) := qs_ext (by omega) (fun i h1 _ => by rw [qe_hh0 _ _ (by omega), Int.zero_mul])
  rw [e1, e2, qe_c1 _ _ _ _ _ _ (by omega), e3, Int.add_comm]
theorem qe_pp {M x pt : Nat → Int} {w m : Nat} (hm : 0 < m) (y : Int) : qe_v (qa_pp M x pt w m) y (2 * m - 1) = qe_v (qa_pz M x pt w m 0) y m * qe_v (qa_pz M x pt w m 1) y m - qe_v (qa_pz M x pt w m 2) y m := by
  have e1 : qe_v (qa_pp M x pt w m) y (2 * m - 1) = qe_v (qa_c1 (qa_pz M x pt w m 0) (qa_pz M x pt w m 1) m m) y (2 * m - 1) - qe_v (fun k => if k < m then qa_pz M x pt w m 2 k else 0) y (2 * m - 1) := by
    unfold qe_v
    rw [← qs_sub]
    refine qa_sm_c fun t _ => ?_
    rw [← Int.sub_mul]
    rfl
  have e2 : qe_v (fun k => if k < m then qa_pz M x pt w m 2 k else 0) y (2 * m - 1) = qe_v (qa_pz M x pt w m 2) y m := by
    unfold qe_v
    rw [qs_ext (n := m) (by omega) (fun i h1 _ => by dsimp only; rw [if_neg (by omega), Int.zero_mul])]
    exact qa_sm_c fun i hi => by dsimp only; rw [if_pos hi]
  rw [e1, e2, qe_c1 _ _ _ _ _ _ (by omega)]
theorem qe_rpt {M x pt : Nat → Int} {w m j : Nat} (hm : 0 < m) (hd : ∀ i j, i < m → j < m → i ≠ j → (pt i - pt j) % 2147483647 ≠ 0) (hj : j < m) : qe_v (qa_rr (qa_zp pt m) (qa_pp M x pt w m) m) (pt j) m % 2147483647 = (qa_rv M x w 0 j * qa_rv M x w 1 j - qa_rv M x w 2 j) % 2147483647 := by
  have e1 := qe_id pt (qa_pp M x pt w m) hm (fun t ht => qa_pp_0 M x pt w m t ht hm) (pt j)
  have ez := qe_zroot pt hj
  rw [qe_ho0] at ez
  rw [ez, Int.mul_zero, Int.zero_add, qe_pp hm] at e1
  rw [← e1]
  have a0 := qe_pz (M := M) (x := x) (w := w) (t := 0) hd hj
  have a1 := qe_pz (M := M) (x := x) (w := w) (t := 1) hd hj
  have a2 := qe_pz (M := M) (x := x) (w := w) (t := 2) hd hj
  rw [qe_ho0] at a0 a1 a2
  rw [Int.sub_emod, Int.mul_emod, a0, a1, a2, ← Int.mul_emod, ← Int.sub_emod]
theorem qe_sat {M x pt : Nat → Int} {w m : Nat} (hm : 0 < m) (hd : ∀ i j, i < m → j < m → i ≠ j → (pt i - pt j) % 2147483647 ≠ 0) : qa_sat M x w m ↔ ∀ k, k < m → qa_fe (qa_rr (qa_zp pt m) (qa_pp M x pt w m) m k) = 0 := by
  have f0 : ∀ z : Int, qa_fe z = 0 ↔ z % 2147483647 = 0 := fun z => by
    rw [qa_0, qa_feq]
    omega
  have s0 : qa_sat M x w m ↔ ∀ j, j < m → qe_v (qa_rr (qa_zp pt m) (qa_pp M x pt w m) m) (pt j) m % 2147483647 = 0 := by
    refine ⟨fun h j hj => ?_, fun h j hj => ?_⟩
    · rw [qe_rpt hm hd hj]
      have := qa_feq.mp (h j hj)
      omega
    · have := h j hj
      rw [qe_rpt hm hd hj] at this
      apply qa_cong
      omega
  rw [s0]
  refine ⟨fun h k hk => ?_, fun h j hj => ?_⟩
  · rw [f0]
    exact qf_root qf_p m (qa_rr (qa_zp pt m) (qa_pp M x pt w m) m) pt (fun k hk => qe_rr0 pt _ hm (fun t ht => qa_pp_0 M x pt w m t ht hm) hk) (fun i j h1 h2 => hd i j (by omega) h2 (by omega)) (fun j hj => by rw [qe_ho0]; exact h j hj) k hk
  · unfold qe_v
    have : ∀ n, n ≤ m → qa_sm (fun k => qa_rr (qa_zp pt m) (qa_pp M x pt w m) m k * pt j ^ k) n % 2147483647 = 0 := by
      intro n
      induction n with
      | zero => intro _; rfl
      | succ n ih =>
        intro hn
        rw [qa_sm, Int.add_emod, ih (by omega), Int.mul_emod, (f0 _).mp (h n (by omega)), Int.zero_mul]
        rfl
    exact this m (Nat.le_refl m)
theorem qe_cert {M x pt : Nat → Int} {w m : Nat} (hm : 0 < m) (h : ∀ k, k < m → qa_fe (qa_rr (qa_zp pt m) (qa_pp M x pt w m) m k) = 0) (y : Int) : qe_v (qa_pp M x pt w m) y (2 * m - 1) % 2147483647 = qe_v (qa_hh (qa_zp pt m) (qa_pp M x pt w m) m) y m * qe_v (qa_zp pt m) y (m + 1) % 2147483647 := by
  have f0 : ∀ z : Int, qa_fe z = 0 ↔ z % 2147483647 = 0 := fun z => by
    rw [qa_0, qa_feq]
    omega
  rw [qe_id pt (qa_pp M x pt w m) hm (fun t ht => qa_pp_0 M x pt w m t ht hm) y]
  have : ∀ n, n ≤ m → qa_sm (fun k => qa_rr (qa_zp pt m) (qa_pp M x pt w m) m k * y ^ k) n % 2147483647 = 0 := by
    intro n
    induction n with
    | zero => intro _; rfl
    | succ n ih =>
      intro hn
      rw [qa_sm, Int.add_emod, ih (by omega), Int.mul_emod, (f0 _).mp (h n (by omega)), Int.zero_mul]
      rfl
  have h0 : qe_v (qa_rr (qa_zp pt m) (qa_pp M x pt w m) m) y m % 2147483647 = 0 := this m (Nat.le_refl m)
  generalize qe_v (qa_rr (qa_zp pt m) (qa_pp M x pt w m) m) y m = r at h0
  generalize qe_v (qa_hh (qa_zp pt m) (qa_pp M x pt w m) m) y m * qe_v (qa_zp pt m) y (m + 1) = q
  omega
