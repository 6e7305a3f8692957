section QX
variable {W C w m : Nat} {cp hq : Int32} {K : Nat → Nat} {L R : Nat → Int32} {x F M pt B P : Nat → Int}
theorem qx_ip57 {post : St2 → Prop} {J : Int32 → (Nat → Int32) → (Nat → Int32) → (Nat → Int32) → (Nat → Int32) → (Nat → Int32) → (Nat → Int32) → (Nat → Int32) → (Nat → Int32) → (Nat → Int32) → Prop} (hm : m ≤ 16) {t j : Nat} (ht : t < 3) (hj : j < m) (x1 : Int32) (v : Int) (f b : Nat → Int) (hB : ∀ k, k < m → B (j * 16 + k) = b k) (h : J (nI (j + 1)) (fun zi => nI (K zi)) L R (fun zi => qa_fe (x zi)) (fun zi => qa_fe (F zi)) (fun zi => qa_fe (M zi)) (fun zi => qa_fe (pt zi)) (fun zi => qa_fe (B zi)) (fun zi => qa_fe ((qa_row P (t * 32) m (fun k => f k + v * b k)) zi))) : ∀ n k, k ≤ m → m - k < n → wX_interpolate_57 post J x1 (nI (t * 32)) (nI j) (qa_fe v) (nI W) (nI C) (nI w) (nI m) cp hq n (nI k) (fun zi => nI (K zi)) L R (fun zi => qa_fe (x zi)) (fun zi => qa_fe (F zi)) (fun zi => qa_fe (M zi)) (fun zi => qa_fe (pt zi)) (fun zi => qa_fe (B zi)) (fun zi => qa_fe ((qa_row P (t * 32) m (qa_mix k (fun k => f k + v * b k) f)) zi)) := by
  intro n
  induction n with
  | zero => intros; omega
  | succ n ih =>
    intro k hk hn
    by_cases h1 : k < m
    · have h2 : ¬ m ≤ k := by omega
      simp (disch := omega) only [wX_interpolate_57, h2, not_true, not_false_iff, true_implies, false_implies, true_and, and_true, forall_eq, nI_add, nI_1, nI_clamp, nI_leI, nI_ltI, nI_eq, qn_m32, qn_m16, qv_in, qx_mul, qx_add, qx_sub, qa_upd]
      rw [hB k h1, qa_row_in h1, qa_mix_ge (Nat.le_refl k), qa_row_u h1, qa_mix_s (fun k => f k + v * b k) f k]
      exact ih (k + 1) (by omega) (by omega)
    · obtain rfl : k = m := by omega
      simp (disch := omega) only [wX_interpolate_57, Nat.le_refl, not_true, not_false_iff, true_implies, false_implies, true_and, and_true, forall_eq, nI_add, nI_1, nI_clamp, nI_leI, nI_ltI, nI_eq, qn_m32, qn_m16, qv_in, qx_mul, qx_add, qx_sub, qa_upd]
      rw [qa_row_c (g' := fun k => f k + v * b k) (fun i hi => qa_mix_lt hi)]
      exact h
def qa_ps (M x pt : Nat → Int) (w m t j k : Nat) : Int := qa_sm (fun j => qa_rv M x w t j * qa_bs pt m j k) j
theorem qx_ip36 {post : St2 → Prop} (hw : w ≤ 32) (hm : m ≤ 16) {t : Nat} (ht : t < 3) (hB : ∀ j k, j < m → k < m → B (j * 16 + k) = qa_bs pt m j k) (h : post ((nI W), (nI C), (nI w), (nI m), cp, hq, (fun zi => nI (K zi)), L, R, (fun zi => qa_fe (x zi)), (fun zi => qa_fe (F zi)), (fun zi => qa_fe (M zi)), (fun zi => qa_fe (pt zi)), (fun zi => qa_fe (B zi)), (fun zi => qa_fe ((qa_row P (t * 32) m (qa_pz M x pt w m t)) zi)))) : ∀ n j, j ≤ m → m - j < n → wX_interpolate_36 post (nI t) (nI (t * 32)) (nI W) (nI C) (nI w) (nI m) cp hq n (nI j) (fun zi => nI (K zi)) L R (fun zi => qa_fe (x zi)) (fun zi => qa_fe (F zi)) (fun zi => qa_fe (M zi)) (fun zi => qa_fe (pt zi)) (fun zi => qa_fe (B zi)) (fun zi => qa_fe ((qa_row P (t * 32) m (qa_ps M x pt w m t j)) zi)) := by
  intro n
  induction n with
  | zero => intros; omega
  | succ n ih =>
    intro j hj hn
    by_cases h1 : j < m
    · have h2 : ¬ nI m ≤ nI j := nI_ge h1 (by omega)
      refine br_f h2 (qx_rv hw ht (by omega) ⟨m + 1, ?_⟩)
      have := qx_ip57 (post := post) (J := wX_interpolate_36 post (nI t) (nI (t * 32)) (nI W) (nI C) (nI w) (nI m) cp hq n) (K := K) (L := L) (R := R) (W := W) (C := C) (w := w) (cp := cp) (hq := hq) (x := x) (F := F) (M := M) (pt := pt) (P := P) hm ht h1 (nI t) (qa_rv M x w t j) (qa_ps M x pt w m t j) (qa_bs pt m j) (fun k hk => hB j k h1 hk) (ih (j + 1) (by omega) (by omega)) (m + 1) 0 (by omega) (by omega)
      rw [qa_mix_0] at this
      exact this
    · obtain rfl : j = m := by omega
      exact br_t (nI_le (Nat.le_refl _) (by omega)) h
theorem qx_ip8 {post : St2 → Prop} (hm : m ≤ 16) {t : Nat} (ht : t < 3) (h : ∃ n, wX_interpolate_36 post (nI t) (nI (t * 32)) (nI W) (nI C) (nI w) (nI m) cp hq n 0 (fun zi => nI (K zi)) L R (fun zi => qa_fe (x zi)) (fun zi => qa_fe (F zi)) (fun zi => qa_fe (M zi)) (fun zi => qa_fe (pt zi)) (fun zi => qa_fe (B zi)) (fun zi => qa_fe ((qa_row P (t * 32) m (fun _ => 0)) zi))) : ∀ n k, k ≤ m → m - k < n → wX_interpolate_8 post (nI t) (nI (t * 32)) (nI W) (nI C) (nI w) (nI m) cp hq n (nI k) (fun zi => nI (K zi)) L R (fun zi => qa_fe (x zi)) (fun zi => qa_fe (F zi)) (fun zi => qa_fe (M zi)) (fun zi => qa_fe (pt zi)) (fun zi => qa_fe (B zi)) (fun zi => qa_fe ((qa_row P (t * 32) k (fun _ => 0)) zi)) := by
  intro n
  induction n with
  | zero => intros; omega
  | succ n ih =>
    intro k hk hn
    by_cases h1 : k < m
    · have h2 : ¬ m ≤ k := by omega
      simp (disch := omega) only [wX_interpolate_8, h2, qa_0, not_true, not_false_iff, true_implies, false_implies, true_and, and_true, forall_eq, nI_add, nI_1, nI_clamp, nI_leI, nI_ltI, nI_eq, qn_m32, qn_m16, qv_in, qx_mul, qx_add, qx_sub, qa_upd]
      rw [qa_row_s P (fun _ => 0) (t * 32) k]
      exact ih (k + 1) (by omega) (by omega)
    · obtain rfl : k = m := by omega
      exact br_t (nI_le (Nat.le_refl _) (by omega)) h
theorem qx_ip {post : St2 → Prop} (hw : w ≤ 32) (hm : m ≤ 16) {t : Nat} (ht : t < 3) (hB : ∀ j k, j < m → k < m → B (j * 16 + k) = qa_bs pt m j k) (h : post ((nI W), (nI C), (nI w), (nI m), cp, hq, (fun zi => nI (K zi)), L, R, (fun zi => qa_fe (x zi)), (fun zi => qa_fe (F zi)), (fun zi => qa_fe (M zi)), (fun zi => qa_fe (pt zi)), (fun zi => qa_fe (B zi)), (fun zi => qa_fe ((qa_row P (t * 32) m (qa_pz M x pt w m t)) zi)))) : wpX_interpolate post ((nI W), (nI C), (nI w), (nI m), cp, hq, (fun zi => nI (K zi)), L, R, (fun zi => qa_fe (x zi)), (fun zi => qa_fe (F zi)), (fun zi => qa_fe (M zi)), (fun zi => qa_fe (pt zi)), (fun zi => qa_fe (B zi)), (fun zi => qa_fe (P zi))) (nI t) (nI t) := by
  unfold wpX_interpolate
  refine nm_r (qn_m32 t) ⟨m + 1, ?_⟩
  have h36 := qx_ip36 (K := K) (L := L) (R := R) (W := W) (C := C) (cp := cp) (hq := hq) (F := F) (P := P) hw hm ht hB h (m + 1) 0 (by omega) (by omega)
  have := qx_ip8 (post := post) (K := K) (L := L) (R := R) (W := W) (C := C) (w := w) (cp := cp) (hq := hq) (x := x) (F := F) (M := M) (pt := pt) (B := B) (P := P) hm ht ⟨m + 1, h36⟩ (m + 1) 0 (by omega) (by omega)
  rw [qa_row_0] at this
  exact this
theorem qx_pm67 {post : St2 → Prop} {J : Int32 → (Nat → Int32) → (Nat → Int32) → (Nat → Int32) → (Nat → Int32) → (Nat → Int32) → (Nat → Int32) → (Nat → Int32) → (Nat → Int32) → (Nat → Int32) → Prop} (hm : m ≤ 16) {i : Nat} (hi : i < m) (f : Nat → Int) (h : J (nI (i + 1)) (fun zi => nI (K zi)) L R (fun zi => qa_fe (x zi)) (fun zi => qa_fe (F zi)) (fun zi => qa_fe (M zi)) (fun zi => qa_fe (pt zi)) (fun zi => qa_fe (B zi)) (fun zi => qa_fe ((qa_row P 128 32 (fun t => f t + qa_c2 P (fun k => P (32 + k)) i m t)) zi))) : ∀ n k, k ≤ m → m - k < n → wX_buildProductMinusC_67 post J 0 32 128 (nI i) (nI W) (nI C) (nI w) (nI m) cp hq n (nI k) (fun zi => nI (K zi)) L R (fun zi => qa_fe (x zi)) (fun zi => qa_fe (F zi)) (fun zi => qa_fe (M zi)) (fun zi => qa_fe (pt zi)) (fun zi => qa_fe (B zi)) (fun zi => qa_fe ((qa_row P 128 32 (fun t => f t + qa_c2 P (fun k => P (32 + k)) i k t)) zi)) := by
  intro n
  induction n with
  | zero => intros; omega
  | succ n ih =>
    intro k hk hn
    by_cases h1 : k < m
    · have h2 : ¬ m ≤ k := by omega
      simp (disch := omega) only [wX_buildProductMinusC_67, h2, qn_0a, qn_32a, qn_128a, not_true, not_false_iff, true_implies, false_implies, true_and, and_true, forall_eq, nI_add, nI_1, nI_clamp, nI_leI, nI_ltI, nI_eq, qn_m32, qn_m16, qv_in, qx_mul, qx_add, qx_sub, qa_upd]
      rw [Nat.add_assoc 128 i k, qa_row_in (show i + k < 32 by omega), qa_row_out (show i < 128 ∨ 128 + 32 ≤ i by omega), qa_row_out (show 32 + k < 128 ∨ 128 + 32 ≤ 32 + k by omega), qa_row_u (show i + k < 32 by omega)]
      have e : qa_uz (fun t => f t + qa_c2 P (fun k => P (32 + k)) i k t) (i + k) (f (i + k) + qa_c2 P (fun k => P (32 + k)) i k (i + k) + P i * P (32 + k)) = (fun t => f t + qa_c2 P (fun k => P (32 + k)) i (k + 1) t) := by
        funext t
        unfold qa_uz
        dsimp only
        rw [qa_c2_s]
        by_cases ht : t = i + k
        · rw [if_pos ht, if_pos ht.symm, ht, Int.add_assoc]
        · rw [if_neg ht, if_neg (fun q => ht q.symm), Int.add_zero]
      rw [e]
      exact ih (k + 1) (by omega) (by omega)
    · obtain rfl : k = m := by omega
      exact br_t (nI_le (Nat.le_refl _) (by omega)) (nm_r (nI_1 i) h)
theorem qx_pm55 {post : St2 → Prop} (hm : m ≤ 16) (f : Nat → Int) (h : post ((nI W), (nI C), (nI w), (nI m), cp, hq, (fun zi => nI (K zi)), L, R, (fun zi => qa_fe (x zi)), (fun zi => qa_fe (F zi)), (fun zi => qa_fe (M zi)), (fun zi => qa_fe (pt zi)), (fun zi => qa_fe (B zi)), (fun zi => qa_fe ((qa_row P 128 32 (fun t => f t + qa_c1 P (fun k => P (32 + k)) m m t)) zi)))) : ∀ n i, i ≤ m → m - i < n → wX_buildProductMinusC_55 post 0 32 128 (nI W) (nI C) (nI w) (nI m) cp hq n (nI i) (fun zi => nI (K zi)) L R (fun zi => qa_fe (x zi)) (fun zi => qa_fe (F zi)) (fun zi => qa_fe (M zi)) (fun zi => qa_fe (pt zi)) (fun zi => qa_fe (B zi)) (fun zi => qa_fe ((qa_row P 128 32 (fun t => f t + qa_c1 P (fun k => P (32 + k)) m i t)) zi)) := by
  intro n
  induction n with
  | zero => intros; omega
  | succ n ih =>
    intro i hi hn
    by_cases h1 : i < m
    · refine br_f (nI_ge h1 (by omega)) ⟨m + 1, ?_⟩
      have i2 := ih (i + 1) (by omega) (by omega)
      simp only [qa_c1_s, ← Int.add_assoc] at i2
      have := qx_pm67 (post := post) (J := wX_buildProductMinusC_55 post 0 32 128 (nI W) (nI C) (nI w) (nI m) cp hq n) (K := K) (L := L) (R := R) (W := W) (C := C) (w := w) (cp := cp) (hq := hq) (x := x) (F := F) (M := M) (pt := pt) (B := B) (P := P) hm h1 (fun t => f t + qa_c1 P (fun k => P (32 + k)) m i t) i2 (m + 1) 0 (by omega) (by omega)
      have e : (fun t => f t + qa_c1 P (fun k => P (32 + k)) m i t + qa_c2 P (fun k => P (32 + k)) i 0 t) = (fun t => f t + qa_c1 P (fun k => P (32 + k)) m i t) := by
        funext t
        exact Int.add_zero _
      rw [e] at this
      exact this
    · obtain rfl : i = m := by omega
      exact br_t (nI_le (Nat.le_refl _) (by omega)) h
theorem qx_pm16 {post : St2 → Prop} (h : ∃ n, wX_buildProductMinusC_55 post 0 32 128 (nI W) (nI C) (nI w) (nI m) cp hq n 0 (fun zi => nI (K zi)) L R (fun zi => qa_fe (x zi)) (fun zi => qa_fe (F zi)) (fun zi => qa_fe (M zi)) (fun zi => qa_fe (pt zi)) (fun zi => qa_fe (B zi)) (fun zi => qa_fe ((qa_row P 128 32 (fun t => 0 - P (64 + t))) zi))) : ∀ n k, k ≤ 32 → 32 - k < n → wX_buildProductMinusC_16 post 0 32 64 128 (nI W) (nI C) (nI w) (nI m) cp hq n (nI k) (fun zi => nI (K zi)) L R (fun zi => qa_fe (x zi)) (fun zi => qa_fe (F zi)) (fun zi => qa_fe (M zi)) (fun zi => qa_fe (pt zi)) (fun zi => qa_fe (B zi)) (fun zi => qa_fe ((qa_row P 128 k (fun t => 0 - P (64 + t))) zi)) := by
  intro n
  induction n with
  | zero => intros; omega
  | succ n ih =>
    intro k hk hn
    by_cases h1 : k < 32
    · have h2 : ¬ (32 : Int32) ≤ nI k := by rw [qn_32]; exact nI_ge h1 (by omega)
      simp (disch := omega) only [wX_buildProductMinusC_16, h2, qn_64a, qn_128a, qx_sub0, not_true, not_false_iff, true_implies, false_implies, true_and, and_true, forall_eq, nI_add, nI_1, nI_clamp, nI_leI, nI_ltI, nI_eq, qn_m32, qn_m16, qv_in, qx_mul, qx_add, qx_sub, qa_upd]
      rw [qa_row_out (show 64 + k < 128 ∨ 128 + k ≤ 64 + k by omega), qa_row_s P (fun t => 0 - P (64 + t)) 128 k]
      exact ih (k + 1) (by omega) (by omega)
    · obtain rfl : k = 32 := by omega
      exact br_t (by decide) h
theorem qx_pm {post : St2 → Prop} (hm : m ≤ 16) (h : post ((nI W), (nI C), (nI w), (nI m), cp, hq, (fun zi => nI (K zi)), L, R, (fun zi => qa_fe (x zi)), (fun zi => qa_fe (F zi)), (fun zi => qa_fe (M zi)), (fun zi => qa_fe (pt zi)), (fun zi => qa_fe (B zi)), (fun zi => qa_fe ((qa_row P 128 32 (fun t => 0 - P (64 + t) + qa_c1 P (fun k => P (32 + k)) m m t)) zi)))) : wpX_buildProductMinusC post ((nI W), (nI C), (nI w), (nI m), cp, hq, (fun zi => nI (K zi)), L, R, (fun zi => qa_fe (x zi)), (fun zi => qa_fe (F zi)), (fun zi => qa_fe (M zi)), (fun zi => qa_fe (pt zi)), (fun zi => qa_fe (B zi)), (fun zi => qa_fe (P zi))) := by
  have h55 := qx_pm55 (K := K) (L := L) (R := R) (W := W) (C := C) (w := w) (cp := cp) (hq := hq) (x := x) (F := F) (M := M) (pt := pt) (B := B) hm (fun t => 0 - P (64 + t)) h (m + 1) 0 (by omega) (by omega)
  have e : (fun t => 0 - P (64 + t) + qa_c1 P (fun k => P (32 + k)) m 0 t) = (fun t => 0 - P (64 + t)) := by
    funext t
    exact Int.add_zero _
  rw [e] at h55
  have := qx_pm16 (post := post) (K := K) (L := L) (R := R) (W := W) (C := C) (w := w) (m := m) (cp := cp) (hq := hq) (x := x) (F := F) (M := M) (pt := pt) (B := B) (P := P) ⟨m + 1, h55⟩ 33 0 (by omega) (by omega)
  rw [qa_row_0] at this
  exact ⟨33, this⟩
theorem qx_rf {post : St2 → Prop} (hw : w ≤ 32) (hm : m ≤ 16) (hB : ∀ j k, j < m → k < m → B (j * 16 + k) = qa_bs pt m j k) (hP : ∀ t k, t < 3 → m ≤ k → k < 32 → P (t * 32 + k) = 0)
    (h : ∀ P' : Nat → Int, (∀ i, 96 ≤ i → i < 128 → P' i = P i) → (∀ i, 160 ≤ i → P' i = P i) → (∀ t k, t < 3 → k < 32 → P' (t * 32 + k) = if k < m then qa_pz M x pt w m t k else 0) → (∀ k, k < 32 → P' (128 + k) = qa_pp M x pt w m k) → post ((nI W), (nI C), (nI w), (nI m), cp, hq, (fun zi => nI (K zi)), L, R, (fun zi => qa_fe (x zi)), (fun zi => qa_fe (F zi)), (fun zi => qa_fe (M zi)), (fun zi => qa_fe (pt zi)), (fun zi => qa_fe (B zi)), (fun zi => qa_fe (P' zi)))) : wpX_refreshPolys post ((nI W), (nI C), (nI w), (nI m), cp, hq, (fun zi => nI (K zi)), L, R, (fun zi => qa_fe (x zi)), (fun zi => qa_fe (F zi)), (fun zi => qa_fe (M zi)), (fun zi => qa_fe (pt zi)), (fun zi => qa_fe (B zi)), (fun zi => qa_fe (P zi))) := by
  unfold wpX_refreshPolys
  refine qx_ip (t := 0) hw hm (by omega) hB ?_
  refine qx_ip (t := 1) hw hm (by omega) hB ?_
  refine qx_ip (t := 2) hw hm (by omega) hB ?_
  refine qx_pm hm ?_
  generalize hQ : qa_row (qa_row (qa_row P (0 * 32) m (qa_pz M x pt w m 0)) (1 * 32) m (qa_pz M x pt w m 1)) (2 * 32) m (qa_pz M x pt w m 2) = Q
  have q1 : ∀ t k, t < 3 → k < 32 → Q (t * 32 + k) = if k < m then qa_pz M x pt w m t k else 0 := by
    intro t k ht hk
    rw [← hQ]
    have ht : t = 0 ∨ t = 1 ∨ t = 2 := by omega
    by_cases hkm : k < m
    · rw [if_pos hkm]
      rcases ht with rfl | rfl | rfl
      · rw [qa_row_out (by omega), qa_row_out (by omega), qa_row_in hkm]
      · rw [qa_row_out (by omega), qa_row_in hkm]
      · rw [qa_row_in hkm]
    · rw [if_neg hkm]
      rcases ht with rfl | rfl | rfl
      · rw [qa_row_out (by omega), qa_row_out (by omega), qa_row_out (by omega)]; exact hP 0 k (by omega) (by omega) hk
      · rw [qa_row_out (by omega), qa_row_out (by omega), qa_row_out (by omega)]; exact hP 1 k (by omega) (by omega) hk
      · rw [qa_row_out (by omega), qa_row_out (by omega), qa_row_out (by omega)]; exact hP 2 k (by omega) (by omega) hk
  have q2 : ∀ i, 96 ≤ i → Q i = P i := by
    intro i hi
    rw [← hQ, qa_row_out (by omega), qa_row_out (by omega), qa_row_out (by omega)]
  refine h _ (fun i h1 h2 => ?_) (fun i h1 => ?_) (fun t k ht hk => ?_) (fun k hk => ?_)
  · rw [qa_row_out (by omega), q2 i h1]
  · rw [qa_row_out (by omega), q2 i (by omega)]
  · rw [qa_row_out (by omega), q1 t k ht hk]
  · rw [qa_row_in hk]
    unfold qa_pp
    have e2 := q1 2 k (by omega) hk
    rw [show 2 * 32 + k = 64 + k by omega] at e2
    rw [e2, qa_c1_c (A' := qa_pz M x pt w m 0) (B' := qa_pz M x pt w m 1) (m := m) (fun k hk => ?_) (fun k hk => ?_) (Nat.le_refl m)]
    · omega
    · have := q1 0 k (by omega) (by omega)
      rw [if_pos hk, show 0 * 32 + k = k by omega] at this
      exact this
    · have := q1 1 k (by omega) (by omega)
      rw [if_pos hk, show 1 * 32 + k = 32 + k by omega] at this
      exact this
end QX
