section QX
variable {W C w m : Nat} {cp hq : Int32} {K : Nat → Nat} {L R : Nat → Int32} {x F M pt B P : Nat → Int}
theorem qx_bv24 {post : St2 → Prop} {J : Int32 → (Nat → Int32) → (Nat → Int32) → (Nat → Int32) → (Nat → Int32) → (Nat → Int32) → (Nat → Int32) → (Nat → Int32) → (Nat → Int32) → (Nat → Int32) → Prop} {j : Nat} (hj : j < 16) (z : Nat → Int) (h : J (nI (j + 1)) (fun zi => nI (K zi)) L R (fun zi => qa_fe (x zi)) (fun zi => qa_fe (F zi)) (fun zi => qa_fe (M zi)) (fun zi => qa_fe (pt zi)) (fun zi => qa_fe (B zi)) (fun zi => qa_fe ((qa_row P 96 32 (qa_lin (pt j) z)) zi))) : ∀ k n, k ≤ 16 → k < n → wX_buildVanishing_24 post J 96 (nI j) (nI W) (nI C) (nI w) (nI m) cp hq n (nI k) (fun zi => nI (K zi)) L R (fun zi => qa_fe (x zi)) (fun zi => qa_fe (F zi)) (fun zi => qa_fe (M zi)) (fun zi => qa_fe (pt zi)) (fun zi => qa_fe (B zi)) (fun zi => qa_fe ((qa_row P 96 32 (qa_mix (k + 1) z (qa_lin (pt j) z))) zi)) := by
  intro k
  induction k with
  | zero =>
    intro n _ hn
    obtain ⟨n, rfl⟩ : ∃ k, n = k + 1 := ⟨n - 1, by omega⟩
    have h1 : (nI 0) ≤ 0 := by decide
    have c96 : (96 : Int32).toNatClampNeg = 96 := by decide
    have v96 : vp_in (96 : Int32) 224 = True := eq_true (vp_in_nI (n := 96) (by omega) (by omega))
    simp (disch := omega) only [wX_buildVanishing_24, h1, c96, v96, qx_sub0, not_true, not_false_iff, true_implies, false_implies, true_and, and_true, forall_eq, nI_add, nI_1, nI_clamp, nI_leI, nI_ltI, nI_eq, qn_m32, qn_m16, qv_in, qx_mul, qx_add, qx_sub, qa_upd]
    have e1 : qa_row P 96 32 (qa_mix (0 + 1) z (qa_lin (pt j) z)) 96 = z 0 := by
      rw [show 96 = 96 + 0 from rfl, qa_row_in (by omega), qa_mix_lt (by omega)]
    have e2 := qa_row_u (P := P) (g := qa_mix (0 + 1) z (qa_lin (pt j) z)) (b := 96) (m := 32) (k := 0) (by omega) (0 - pt j * z 0)
    rw [← qa_lin0, qa_mix_d, qa_mix_0] at e2
    rw [e1, ← qa_lin0, show 96 = 96 + 0 from rfl, e2]
    exact h
  | succ k ih =>
    intro n hk hn
    obtain ⟨n, rfl⟩ : ∃ k, n = k + 1 := ⟨n - 1, by omega⟩
    have h1 : ¬ (nI (k + 1)) ≤ 0 := nI_nle (by omega) (by omega)
    have e0 : nI (96 + (k + 1)) - 1 = nI (96 + k) := nI_pred (96 + k)
    have e1 : qa_row P 96 32 (qa_mix (k + 1 + 1) z (qa_lin (pt j) z)) (96 + (k + 1)) = z (k + 1) := by
      rw [qa_row_in (by omega), qa_mix_lt (by omega)]
    have e2 : qa_row P 96 32 (qa_mix (k + 1 + 1) z (qa_lin (pt j) z)) (96 + k) = z k := by
      rw [qa_row_in (by omega), qa_mix_lt (by omega)]
    have e3 := qa_row_u (P := P) (g := qa_mix (k + 1 + 1) z (qa_lin (pt j) z)) (b := 96) (m := 32) (k := k + 1) (by omega) (z k - pt j * z (k + 1))
    rw [← qa_linS, qa_mix_d] at e3
    simp (disch := omega) only [wX_buildVanishing_24, h1, qn_96a, e0, pk_m1, e1, e2, not_true, not_false_iff, true_implies, false_implies, true_and, and_true, forall_eq, nI_add, nI_1, nI_clamp, nI_leI, nI_ltI, nI_eq, qn_m32, qn_m16, qv_in, qx_mul, qx_add, qx_sub, qa_upd]
    rw [← qa_linS, e3]
    exact ih n (by omega) (by omega)
theorem qx_bv12 {post : St2 → Prop} (hm : m ≤ 16) (h : post ((nI W), (nI C), (nI w), (nI m), cp, hq, (fun zi => nI (K zi)), L, R, (fun zi => qa_fe (x zi)), (fun zi => qa_fe (F zi)), (fun zi => qa_fe (M zi)), (fun zi => qa_fe (pt zi)), (fun zi => qa_fe (B zi)), (fun zi => qa_fe ((qa_row P 96 32 (qa_zp pt m)) zi)))) : ∀ n j, j ≤ m → m - j < n → wX_buildVanishing_12 post 96 (nI W) (nI C) (nI w) (nI m) cp hq n (nI j) (fun zi => nI (K zi)) L R (fun zi => qa_fe (x zi)) (fun zi => qa_fe (F zi)) (fun zi => qa_fe (M zi)) (fun zi => qa_fe (pt zi)) (fun zi => qa_fe (B zi)) (fun zi => qa_fe ((qa_row P 96 32 (qa_zp pt j)) zi)) := by
  intro n
  induction n with
  | zero => intros; omega
  | succ n ih =>
    intro j hj hn
    by_cases h1 : j < m
    · refine br_f (nI_ge h1 (by omega)) (nm_r (nI_1 j) ⟨j + 2, ?_⟩)
      have := qx_bv24 (post := post) (J := wX_buildVanishing_12 post 96 (nI W) (nI C) (nI w) (nI m) cp hq n) (K := K) (L := L) (R := R) (W := W) (C := C) (w := w) (m := m) (cp := cp) (hq := hq) (x := x) (F := F) (M := M) (pt := pt) (B := B) (P := P) (show j < 16 by omega) (qa_zp pt j) (ih (j + 1) (by omega) (by omega)) (j + 1) (j + 2) (by omega) (by omega)
      rw [qa_row_c (g' := qa_zp pt j) (fun i hi => ?_)] at this
      · exact this
      · by_cases q : i < j + 1 + 1
        · rw [qa_mix_lt q]
        · rw [qa_mix_ge (by omega), qa_zp_deg pt j i (by omega), qa_lin_deg (qa_zp_deg pt j) i (by omega)]
    · obtain rfl : j = m := by omega
      exact br_t (nI_le (Nat.le_refl _) (by omega)) h
theorem qx_bv {post : St2 → Prop} (hm : m ≤ 16) (hP : ∀ i, i < 224 → P i = 0) (h : post ((nI W), (nI C), (nI w), (nI m), cp, hq, (fun zi => nI (K zi)), L, R, (fun zi => qa_fe (x zi)), (fun zi => qa_fe (F zi)), (fun zi => qa_fe (M zi)), (fun zi => qa_fe (pt zi)), (fun zi => qa_fe (B zi)), (fun zi => qa_fe ((qa_row P 96 32 (qa_zp pt m)) zi)))) : wpX_buildVanishing post ((nI W), (nI C), (nI w), (nI m), cp, hq, (fun zi => nI (K zi)), L, R, (fun zi => qa_fe (x zi)), (fun zi => qa_fe (F zi)), (fun zi => qa_fe (M zi)), (fun zi => qa_fe (pt zi)), (fun zi => qa_fe (B zi)), (fun zi => qa_fe (P zi))) := by
  unfold wpX_buildVanishing
  have e : upd (fun i => qa_fe (P i)) 96 1 = (fun i => qa_fe ((qa_row P 96 32 (qa_zp pt 0)) i)) := by
    rw [qa_1, qa_upd]
    congr 1
    funext i
    congr 1
    unfold qa_uz qa_row
    by_cases h1 : i = 96
    · subst h1
      rw [if_pos rfl, if_pos (by omega)]
      rfl
    · rw [if_neg h1]
      by_cases h2 : 96 ≤ i ∧ i < 96 + 32
      · rw [if_pos h2, hP i (by omega)]
        exact (qa_one_deg (i - 96) (by omega)).symm
      · rw [if_neg h2]
  refine nm_r e ⟨m + 1, ?_⟩
  exact qx_bv12 (K := K) (L := L) (R := R) (W := W) (C := C) (w := w) (cp := cp) (hq := hq) (x := x) (F := F) (M := M) (B := B) hm h (m + 1) 0 (by omega) (by omega)
theorem qx_br107 {post : St2 → Prop} (hm : m ≤ 16) {j : Nat} (hj : j < m) (s : Int) (f : Nat → Int) (h : post ((nI W), (nI C), (nI w), (nI m), cp, hq, (fun zi => nI (K zi)), L, R, (fun zi => qa_fe (x zi)), (fun zi => qa_fe (F zi)), (fun zi => qa_fe (M zi)), (fun zi => qa_fe (pt zi)), (fun zi => qa_fe ((qa_row B (j * 16) m (fun k => f k * s)) zi)), (fun zi => qa_fe (P zi)))) : ∀ n k, k ≤ m → m - k < n → wX_buildBasisRow_107 post (nI (j * 16)) (qa_fe s) (nI W) (nI C) (nI w) (nI m) cp hq n (nI k) (fun zi => nI (K zi)) L R (fun zi => qa_fe (x zi)) (fun zi => qa_fe (F zi)) (fun zi => qa_fe (M zi)) (fun zi => qa_fe (pt zi)) (fun zi => qa_fe ((qa_row B (j * 16) m (qa_mix k (fun k => f k * s) f)) zi)) (fun zi => qa_fe (P zi)) := by
  intro n
  induction n with
  | zero => intros; omega
  | succ n ih =>
    intro k hk hn
    by_cases h1 : k < m
    · have h2 : ¬ m ≤ k := by omega
      simp (disch := omega) only [wX_buildBasisRow_107, h2, not_true, not_false_iff, true_implies, false_implies, true_and, and_true, forall_eq, nI_add, nI_1, nI_clamp, nI_leI, nI_ltI, nI_eq, qn_m32, qn_m16, qv_in, qx_mul, qx_add, qx_sub, qa_upd]
      rw [qa_row_in h1, qa_mix_ge (Nat.le_refl k), qa_row_u h1, qa_mix_s (fun k => f k * s) f k]
      exact ih (k + 1) (by omega) (by omega)
    · obtain rfl : k = m := by omega
      simp (disch := omega) only [wX_buildBasisRow_107, Nat.le_refl, not_true, not_false_iff, true_implies, false_implies, true_and, and_true, forall_eq, nI_add, nI_1, nI_clamp, nI_leI, nI_ltI, nI_eq, qn_m32, qn_m16, qv_in, qx_mul, qx_add, qx_sub, qa_upd]
      rw [qa_row_c (g' := fun k => f k * s) (fun i hi => qa_mix_lt hi)]
      exact h
theorem qx_br22 {post : St2 → Prop} (hm : m ≤ 16) {j : Nat} (hj : j < m) (hZ : ∀ k, k < 32 → P (96 + k) = qa_zp pt m k) (h : post ((nI W), (nI C), (nI w), (nI m), cp, hq, (fun zi => nI (K zi)), L, R, (fun zi => qa_fe (x zi)), (fun zi => qa_fe (F zi)), (fun zi => qa_fe (M zi)), (fun zi => qa_fe (pt zi)), (fun zi => qa_fe ((qa_row B (j * 16) m (qa_bs pt m j)) zi)), (fun zi => qa_fe (P zi)))) : ∀ c n, c ≤ m → c < n → wX_buildBasisRow_22 post (nI j) (nI (j * 16)) 96 (nI W) (nI C) (nI w) (nI m) cp hq n (qa_fe (qa_np pt j m c)) (qa_fe (qa_ho (qa_np pt j m) (pt j) (m - c) c)) (qx_d c) (fun zi => nI (K zi)) L R (fun zi => qa_fe (x zi)) (fun zi => qa_fe (F zi)) (fun zi => qa_fe (M zi)) (fun zi => qa_fe (pt zi)) (fun zi => qa_fe ((qa_row B (j * 16) m (qa_mix c (fun i => B (j * 16 + i)) (qa_np pt j m))) zi)) (fun zi => qa_fe (P zi)) := by
  intro c
  induction c with
  | zero =>
    intro n _ hn
    obtain ⟨n, rfl⟩ : ∃ k, n = k + 1 := ⟨n - 1, by omega⟩
    refine br_t qx_d0 ?_
    rw [Nat.sub_zero, qa_np_val pt hj]
    refine qx_inv _ ⟨m + 1, ?_⟩
    have := qx_br107 (post := post) (K := K) (L := L) (R := R) (W := W) (C := C) (w := w) (m := m) (cp := cp) (hq := hq) (x := x) (F := F) (M := M) (pt := pt) (B := B) (P := P) hm hj (qa_iv (qa_dn pt j m)) (qa_np pt j m) h (m + 1) 0 (by omega) (by omega)
    rw [qa_mix_0] at this ⊢
    exact this
  | succ c ih =>
    intro n hc hn
    obtain ⟨n, rfl⟩ : ∃ k, n = k + 1 := ⟨n - 1, by omega⟩
    rw [qx_ds]
    have h1 : ¬ nI c < 0 := nI_pos (by omega)
    have i2 := ih n (by omega) (by omega)
    rw [show m - c = (m - (c + 1)) + 1 by omega, qa_ho_s] at i2
    have ez : P (96 + c + 1) = qa_zp pt m (c + 1) := by rw [Nat.add_assoc]; exact hZ (c + 1) (by omega)
    have en : qa_zp pt m (c + 1) + pt j * qa_np pt j m (c + 1) = qa_np pt j m c := by
      rw [qa_np_hi pt hj, qa_linS]
      omega
    have eu := qa_row_u (P := B) (g := qa_mix (c + 1) (fun i => B (j * 16 + i)) (qa_np pt j m)) (b := j * 16) (m := m) (k := c) (by omega) (qa_np pt j m c)
    rw [qa_mix_d] at eu
    simp (disch := omega) only [wX_buildBasisRow_22, h1, qn_96a, qx_dm, ez, en, eu, not_true, not_false_iff, true_implies, false_implies, true_and, and_true, forall_eq, nI_add, nI_1, nI_clamp, nI_leI, nI_ltI, nI_eq, qn_m32, qn_m16, qv_in, qx_mul, qx_add, qx_sub, qa_upd]
    rw [Int.mul_comm (pt j)]
    exact i2
theorem qx_br {post : St2 → Prop} (hm : m ≤ 16) {j : Nat} (hj : j < m) (hZ : ∀ k, k < 32 → P (96 + k) = qa_zp pt m k) (h : post ((nI W), (nI C), (nI w), (nI m), cp, hq, (fun zi => nI (K zi)), L, R, (fun zi => qa_fe (x zi)), (fun zi => qa_fe (F zi)), (fun zi => qa_fe (M zi)), (fun zi => qa_fe (pt zi)), (fun zi => qa_fe ((qa_row B (j * 16) m (qa_bs pt m j)) zi)), (fun zi => qa_fe (P zi)))) : wpX_buildBasisRow post ((nI W), (nI C), (nI w), (nI m), cp, hq, (fun zi => nI (K zi)), L, R, (fun zi => qa_fe (x zi)), (fun zi => qa_fe (F zi)), (fun zi => qa_fe (M zi)), (fun zi => qa_fe (pt zi)), (fun zi => qa_fe (B zi)), (fun zi => qa_fe (P zi))) (nI j) := by
  unfold wpX_buildBasisRow
  refine nm_r (qn_m16 j) (nm_r (e' := qx_d m) rfl ⟨m + 1, ?_⟩)
  have := qx_br22 (K := K) (L := L) (R := R) (W := W) (C := C) (w := w) (cp := cp) (hq := hq) (x := x) (F := F) (M := M) hm hj hZ h m (m + 1) (by omega) (by omega)
  rw [Nat.sub_self, qa_np_deg pt hj m (Nat.le_refl m), qa_row_id (P := B) (b := j * 16) (m := m) (g := qa_mix m (fun i => B (j * 16 + i)) (qa_np pt j m)) (fun i hi => qa_mix_lt hi)] at this
  exact this
theorem qx_cp22 {post : Int32 → St2 → Prop} (hw : w ≤ 32) (hm : m ≤ 16) (hZ : ∀ k, k < 32 → P (96 + k) = qa_zp pt m k) (hP : ∀ t k, t < 3 → k < 32 → P (t * 32 + k) = 0)
    (h : ∀ B' P' : Nat → Int, (∀ j k, j < m → k < m → B' (j * 16 + k) = qa_bs pt m j k) → (∀ i, 96 ≤ i → i < 128 → P' i = P i) → (∀ i, 160 ≤ i → P' i = P i) → (∀ t k, t < 3 → k < 32 → P' (t * 32 + k) = if k < m then qa_pz M x pt w m t k else 0) → (∀ k, k < 32 → P' (128 + k) = qa_pp M x pt w m k) → post (nI m) ((nI W), (nI C), (nI w), (nI m), 1, hq, (fun zi => nI (K zi)), L, R, (fun zi => qa_fe (x zi)), (fun zi => qa_fe (F zi)), (fun zi => qa_fe (M zi)), (fun zi => qa_fe (pt zi)), (fun zi => qa_fe (B' zi)), (fun zi => qa_fe (P' zi)))) : ∀ n j (B' : Nat → Int), j ≤ m → m - j < n → (∀ i k, i < j → k < m → B' (i * 16 + k) = qa_bs pt m i k) → wX_compile_22 post n (nI j) (nI W) (nI C) (nI w) (nI m) cp hq (fun zi => nI (K zi)) L R (fun zi => qa_fe (x zi)) (fun zi => qa_fe (F zi)) (fun zi => qa_fe (M zi)) (fun zi => qa_fe (pt zi)) (fun zi => qa_fe (B' zi)) (fun zi => qa_fe (P zi)) := by
  intro n
  induction n with
  | zero => intros; omega
  | succ n ih =>
    intro j B' hj hn hI
    by_cases h1 : j < m
    · refine br_f (nI_ge h1 (by omega)) ?_
      refine qx_br hm h1 hZ (nm_r (nI_1 j) ?_)
      refine ih (j + 1) _ (by omega) (by omega) fun i k hi hk => ?_
      by_cases q : i = j
      · rw [q, qa_row_in hk]
      · rw [qa_row_out (by omega)]
        exact hI i k (by omega) hk
    · obtain rfl : j = m := by omega
      refine br_t (nI_le (Nat.le_refl _) (by omega)) ?_
      exact qx_rf hw hm hI (fun t k ht _ hk => hP t k ht hk) fun P' p1 p2 p3 p4 => h B' P' hI p1 p2 p3 p4
theorem qx_cp {post : Int32 → St2 → Prop} (hw : w ≤ 32) (hm0 : 0 < m) (hm : m ≤ 16) (hP : ∀ i, i < 224 → P i = 0) (h : ∀ B' P' : Nat → Int, qi_q 1 w m M x pt B' P' → post (nI m) ((nI W), (nI C), (nI w), (nI m), 1, hq, (fun zi => nI (K zi)), L, R, (fun zi => qa_fe (x zi)), (fun zi => qa_fe (F zi)), (fun zi => qa_fe (M zi)), (fun zi => qa_fe (pt zi)), (fun zi => qa_fe (B' zi)), (fun zi => qa_fe (P' zi)))) : wpX_compile post ((nI W), (nI C), (nI w), (nI m), 0, hq, (fun zi => nI (K zi)), L, R, (fun zi => qa_fe (x zi)), (fun zi => qa_fe (F zi)), (fun zi => qa_fe (M zi)), (fun zi => qa_fe (pt zi)), (fun zi => qa_fe (B zi)), (fun zi => qa_fe (P zi))) := by
  unfold wpX_compile
  refine br_t rfl (br_f (nI_ne0 hm0 (by omega)) ?_)
  refine qx_bv hm hP ⟨m + 1, ?_⟩
  refine qx_cp22 (P := qa_row P 96 32 (qa_zp pt m)) hw hm (fun k hk => qa_row_in hk) (fun t k ht hk => by rw [qa_row_out (by omega)]; exact hP _ (by omega)) (fun B' P' b p1 p2 p3 p4 => ?_) (m + 1) 0 B (by omega) (by omega) (fun i k hi _ => by omega)
  refine h B' P' (Or.inr ⟨rfl, hm0, b, fun k hk => ?_, p3, p4, fun k h1 h2 => ?_⟩)
  · rw [p1 (96 + k) (by omega) (by omega), qa_row_in hk]
  · rw [p2 (160 + k) (by omega), qa_row_out (by omega)]
    exact hP _ (by omega)
theorem qx_bq95 {post : St2 → Prop} {J : Int32 → (Nat → Int32) → (Nat → Int32) → (Nat → Int32) → (Nat → Int32) → (Nat → Int32) → (Nat → Int32) → (Nat → Int32) → (Nat → Int32) → (Nat → Int32) → Prop} (hm : m ≤ 16) {i : Nat} (hi : i + 1 < m) (Z g : Nat → Int) (q : Int) (hZ : ∀ k, k < 32 → P (96 + k) = Z k) (h : J (qx_d i) (fun zi => nI (K zi)) L R (fun zi => qa_fe (x zi)) (fun zi => qa_fe (F zi)) (fun zi => qa_fe (M zi)) (fun zi => qa_fe (pt zi)) (fun zi => qa_fe (B zi)) (fun zi => qa_fe ((qa_row P 192 32 (qa_dst Z g i q (m + 1))) zi))) : ∀ n k, k ≤ m + 1 → m + 1 - k < n → wX_buildQuotient_95 post J 96 160 192 (nI i) (qa_fe q) (nI W) (nI C) (nI w) (nI m) cp hq n (nI k) (fun zi => nI (K zi)) L R (fun zi => qa_fe (x zi)) (fun zi => qa_fe (F zi)) (fun zi => qa_fe (M zi)) (fun zi => qa_fe (pt zi)) (fun zi => qa_fe (B zi)) (fun zi => qa_fe ((qa_row P 192 32 (qa_dst Z g i q k)) zi)) := by
  intro n
  induction n with
  | zero => intros; omega
  | succ n ih =>
    intro k hk hn
    by_cases h1 : k ≤ m
    · have h2 : ¬ m < k := by omega
      have e1 : qa_row P 192 32 (qa_dst Z g i q k) (192 + (i + k)) = g (i + k) := by rw [qa_row_in (by omega), qa_dst_at]
      have e2 : qa_row P 192 32 (qa_dst Z g i q k) (96 + k) = Z k := by rw [qa_row_out (by omega), hZ k (by omega)]
      have e3 := qa_row_u (P := P) (g := qa_dst Z g i q k) (b := 192) (m := 32) (k := i + k) (by omega) (g (i + k) - q * Z k)
      rw [← qa_dst_s] at e3
      simp (disch := omega) only [wX_buildQuotient_95, h2, qn_96a, qn_192a, Nat.add_assoc 192 i k, e1, e2, e3, not_true, not_false_iff, true_implies, false_implies, true_and, and_true, forall_eq, nI_add, nI_1, nI_clamp, nI_leI, nI_ltI, nI_eq, qn_m32, qn_m16, qv_in, qx_mul, qx_add, qx_sub, qa_upd]
      exact ih (k + 1) (by omega) (by omega)
    · obtain rfl : k = m + 1 := by omega
      exact br_t (nI_lt (by omega) (by omega)) (nm_r (qx_dm i) h)
theorem qx_row_uo {P g : Nat → Int} {b n k : Nat} (z : Int) (h : k < b ∨ b + n ≤ k) : qa_uz (qa_row P b n g) k z = qa_row (qa_uz P k z) b n g := by
  funext i
  unfold qa_uz qa_row
  by_cases h1 : i = k
  · subst h1
    rw [if_pos rfl, if_neg (by omega)]
    exact (if_pos rfl).symm
  · rw [if_neg h1]
    by_cases h2 : b ≤ i ∧ i < b + n
    · rw [if_pos h2, if_pos h2]
    · rw [if_neg h2, if_neg h2]
      exact (if_neg h1).symm
theorem qx_bq59 {post : St2 → Prop} (hm0 : 0 < m) (hm : m ≤ 16) (Z g : Nat → Int) (h : ∀ Q : Nat → Int, (∀ i, i < 160 → Q i = P i) → (∀ k, k < 32 → Q (160 + k) = if k + 1 < m then qa_hh Z g m k else P (160 + k)) → post ((nI W), (nI C), (nI w), (nI m), cp, hq, (fun zi => nI (K zi)), L, R, (fun zi => qa_fe (x zi)), (fun zi => qa_fe (F zi)), (fun zi => qa_fe (M zi)), (fun zi => qa_fe (pt zi)), (fun zi => qa_fe (B zi)), (fun zi => qa_fe ((qa_row Q 192 32 (qa_rm Z g m (m - 1))) zi)))) (hZ : ∀ k, k < 32 → P (96 + k) = Z k) : ∀ c n Q, c + 1 ≤ m → c < n → (∀ i, i < 160 → Q i = P i) → (∀ k, k < 32 → Q (160 + k) = if c ≤ k ∧ k + 1 < m then qa_hh Z g m k else P (160 + k)) → wX_buildQuotient_59 post 96 160 192 (nI W) (nI C) (nI w) (nI m) cp hq n (qx_d c) (fun zi => nI (K zi)) L R (fun zi => qa_fe (x zi)) (fun zi => qa_fe (F zi)) (fun zi => qa_fe (M zi)) (fun zi => qa_fe (pt zi)) (fun zi => qa_fe (B zi)) (fun zi => qa_fe ((qa_row Q 192 32 (qa_rm Z g m (m - 1 - c))) zi)) := by
  intro c
  induction c with
  | zero =>
    intro n Q _ hn q1 q2
    obtain ⟨n, rfl⟩ : ∃ k, n = k + 1 := ⟨n - 1, by omega⟩
    refine br_t qx_d0 ?_
    rw [Nat.sub_zero]
    refine h Q q1 fun k hk => ?_
    rw [q2 k hk]
    by_cases z : k + 1 < m
    · rw [if_pos ⟨by omega, z⟩, if_pos z]
    · rw [if_neg (by omega), if_neg z]
  | succ c ih =>
    intro n Q hc hn q1 q2
    obtain ⟨n, rfl⟩ : ∃ k, n = k + 1 := ⟨n - 1, by omega⟩
    rw [qx_ds]
    have h1 : ¬ nI c < 0 := nI_pos (by omega)
    generalize hs : m - 1 - (c + 1) = s
    have hs2 : m - 2 - s = c := by omega
    have hs3 : m - 1 - c = s + 1 := by omega
    have e1 : qa_row Q 192 32 (qa_rm Z g m s) (192 + (c + m)) = qa_hh Z g m c := by
      rw [qa_row_in (by omega)]
      unfold qa_hh
      rw [if_pos (by omega), show m - 2 - c = s by omega]
    have e3 := qx_row_uo (P := Q) (g := qa_rm Z g m s) (b := 192) (n := 32) (k := 160 + c) (qa_hh Z g m c) (by omega)
    have i2 := ih n (qa_uz Q (160 + c) (qa_hh Z g m c)) (by omega) (by omega) (fun i hi => by rw [qa_uzn (by omega)]; exact q1 i hi) (fun k hk => by
      by_cases z : k = c
      · rw [z, qa_uzs, if_pos ⟨by omega, by omega⟩]
      · rw [qa_uzn (by omega), q2 k hk]
        by_cases y : c + 1 ≤ k ∧ k + 1 < m
        · rw [if_pos y, if_pos ⟨by omega, y.2⟩]
        · rw [if_neg y, if_neg (by omega)])
    rw [hs3, qa_rm, hs2] at i2
    have e4 : qa_rm Z g m s (c + m) = qa_hh Z g m c := by
      unfold qa_hh
      rw [if_pos (by omega), show m - 2 - c = s by omega]
    rw [e4] at i2
    simp (disch := omega) only [wX_buildQuotient_59, h1, qn_160a, qn_192a, Nat.add_assoc 192 c m, e1, e3, not_true, not_false_iff, true_implies, false_implies, true_and, and_true, forall_eq, nI_add, nI_1, nI_clamp, nI_leI, nI_ltI, nI_eq, qn_m32, qn_m16, qv_in, qx_mul, qx_add, qx_sub, qa_upd]
    refine ⟨m + 2, ?_⟩
    have := qx_bq95 (post := post) (J := wX_buildQuotient_59 post 96 160 192 (nI W) (nI C) (nI w) (nI m) cp hq n) (K := K) (L := L) (R := R) (W := W) (C := C) (w := w) (m := m) (cp := cp) (hq := hq) (x := x) (F := F) (M := M) (pt := pt) (B := B) (P := qa_uz Q (160 + c) (qa_hh Z g m c)) hm (i := c) (by omega) Z (qa_rm Z g m s) (qa_hh Z g m c) (fun k hk => by rw [qa_uzn (by omega), q1 _ (by omega), hZ k hk]) i2 (m + 2) 0 (by omega) (by omega)
    rw [qa_dst_0] at this
    exact this
theorem qx_bq19 {post : St2 → Prop} (h : ∃ n, wX_buildQuotient_59 post 96 160 192 (nI W) (nI C) (nI w) (nI m) cp hq n (nI m - 2) (fun zi => nI (K zi)) L R (fun zi => qa_fe (x zi)) (fun zi => qa_fe (F zi)) (fun zi => qa_fe (M zi)) (fun zi => qa_fe (pt zi)) (fun zi => qa_fe (B zi)) (fun zi => qa_fe ((qa_row P 192 32 (fun k => P (128 + k))) zi))) : ∀ n k, k ≤ 32 → 32 - k < n → wX_buildQuotient_19 post 96 128 160 192 (nI W) (nI C) (nI w) (nI m) cp hq n (nI k) (fun zi => nI (K zi)) L R (fun zi => qa_fe (x zi)) (fun zi => qa_fe (F zi)) (fun zi => qa_fe (M zi)) (fun zi => qa_fe (pt zi)) (fun zi => qa_fe (B zi)) (fun zi => qa_fe ((qa_row P 192 k (fun k => P (128 + k))) zi)) := by
  intro n
  induction n with
  | zero => intros; omega
  | succ n ih =>
    intro k hk hn
    by_cases h1 : k < 32
    · have h2 : ¬ (32 : Int32) ≤ nI k := by rw [qn_32]; exact nI_ge h1 (by omega)
      simp (disch := omega) only [wX_buildQuotient_19, h2, qn_128a, qn_192a, not_true, not_false_iff, true_implies, false_implies, true_and, and_true, forall_eq, nI_add, nI_1, nI_clamp, nI_leI, nI_ltI, nI_eq, qn_m32, qn_m16, qv_in, qx_mul, qx_add, qx_sub, qa_upd]
      rw [qa_row_out (show 128 + k < 192 ∨ 192 + k ≤ 128 + k by omega), qa_row_s P (fun k => P (128 + k)) 192 k]
      exact ih (k + 1) (by omega) (by omega)
    · obtain rfl : k = 32 := by omega
      exact br_t (by decide) (nm_e h)
theorem qx_bq {post : St2 → Prop} (hm0 : 0 < m) (hm : m ≤ 16) (Z : Nat → Int) (hZ : ∀ k, k < 32 → P (96 + k) = Z k) (h : ∀ P' : Nat → Int, (∀ i, i < 160 → P' i = P i) → (∀ k, k < 32 → P' (160 + k) = if k + 1 < m then qa_hh Z (fun k => P (128 + k)) m k else P (160 + k)) → (∀ k, k < 32 → P' (192 + k) = qa_rr Z (fun k => P (128 + k)) m k) → post ((nI W), (nI C), (nI w), (nI m), cp, hq, (fun zi => nI (K zi)), L, R, (fun zi => qa_fe (x zi)), (fun zi => qa_fe (F zi)), (fun zi => qa_fe (M zi)), (fun zi => qa_fe (pt zi)), (fun zi => qa_fe (B zi)), (fun zi => qa_fe (P' zi)))) : wpX_buildQuotient post ((nI W), (nI C), (nI w), (nI m), cp, hq, (fun zi => nI (K zi)), L, R, (fun zi => qa_fe (x zi)), (fun zi => qa_fe (F zi)), (fun zi => qa_fe (M zi)), (fun zi => qa_fe (pt zi)), (fun zi => qa_fe (B zi)), (fun zi => qa_fe (P zi))) := by
  have e : nI m - 2 = qx_d (m - 1) := by
    unfold qx_d
    rw [show (2 : Int32) = 1 + 1 by decide, ← Int32.sub_sub]
    congr 1
    obtain ⟨q, rfl⟩ : ∃ q, m = q + 1 := ⟨m - 1, by omega⟩
    exact nI_pred q
  have h59 := qx_bq59 (post := post) (K := K) (L := L) (R := R) (W := W) (C := C) (w := w) (m := m) (cp := cp) (hq := hq) (x := x) (F := F) (M := M) (pt := pt) (B := B) (P := P) hm0 hm Z (fun k => P (128 + k)) (fun Q q1 q2 => h _ (fun i hi => by rw [qa_row_out (by omega)]; exact q1 i hi) (fun k hk => by rw [qa_row_out (by omega)]; exact q2 k hk) (fun k hk => by rw [qa_row_in hk]; rfl)) hZ (m - 1) m P (by omega) (by omega) (fun i _ => rfl) (fun k hk => by rw [if_neg (by omega)])
  rw [Nat.sub_self, ← e] at h59
  have := qx_bq19 (post := post) (K := K) (L := L) (R := R) (W := W) (C := C) (w := w) (m := m) (cp := cp) (hq := hq) (x := x) (F := F) (M := M) (pt := pt) (B := B) (P := P) ⟨m, h59⟩ 33 0 (by omega) (by omega)
  rw [qa_row_0] at this
  exact ⟨33, this⟩
end QX
