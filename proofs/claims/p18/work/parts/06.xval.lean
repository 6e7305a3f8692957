section QX
variable {W C w m : Nat} {cp hq : Int32} {K : Nat → Nat} {L R : Nat → Int32} {x F M pt B P : Nat → Int}
theorem qn_0a (i : Nat) : (0 : Int32) + nI i = nI i := Int32.zero_add _
theorem qn_32a (i : Nat) : (32 : Int32) + nI i = nI (32 + i) := nI_add 32 i
theorem qn_64a (i : Nat) : (64 : Int32) + nI i = nI (64 + i) := nI_add 64 i
theorem qn_96a (i : Nat) : (96 : Int32) + nI i = nI (96 + i) := nI_add 96 i
theorem qn_128a (i : Nat) : (128 : Int32) + nI i = nI (128 + i) := nI_add 128 i
theorem qn_160a (i : Nat) : (160 : Int32) + nI i = nI (160 + i) := nI_add 160 i
theorem qn_192a (i : Nat) : (192 : Int32) + nI i = nI (192 + i) := nI_add 192 i
theorem qn_32 : (32 : Int32) = nI 32 := by decide
theorem qn_16 : (16 : Int32) = nI 16 := by decide
theorem qx_rv_l {post : Int32 → Prop} (hw : w ≤ 32) {t j : Nat} (ht : t < 3) (hj : j < 16) (h : post (qa_fe (qa_rv M x w t j))) : ∀ n v, v ≤ w → w - v < n → wX_rowValue_12 post (nI ((t * 16 + j) * 32)) (nI W) (nI C) (nI w) (nI m) cp hq (fun zi => nI (K zi)) L R (fun zi => qa_fe (x zi)) (fun zi => qa_fe (F zi)) (fun zi => qa_fe (M zi)) (fun zi => qa_fe (pt zi)) (fun zi => qa_fe (B zi)) (fun zi => qa_fe (P zi)) n (qa_fe (qa_sm (fun v => M (qa_mi t j v) * x v) v)) (nI v) := by
  intro n
  induction n with
  | zero => intros; omega
  | succ n ih =>
    intro v hv hn
    by_cases h1 : v < w
    · have h2 : ¬ w ≤ v := by omega
      simp (disch := omega) only [wX_rowValue_12, h2, not_true, not_false_iff, true_implies, false_implies, true_and, and_true, forall_eq, nI_add, nI_1, nI_clamp, nI_leI, nI_ltI, nI_eq, qn_m32, qn_m16, qv_in, qx_mul, qx_add, qx_sub, qa_upd]
      exact ih (v + 1) (by omega) (by omega)
    · obtain rfl : v = w := by omega
      simp (disch := omega) only [wX_rowValue_12, Nat.le_refl, not_true, not_false_iff, true_implies, false_implies, true_and, and_true, forall_eq, nI_add, nI_1, nI_clamp, nI_leI, nI_ltI, nI_eq, qn_m32, qn_m16, qv_in, qx_mul, qx_add, qx_sub, qa_upd]
      exact h
theorem qx_rv {post : Int32 → Prop} (hw : w ≤ 32) {t j : Nat} (ht : t < 3) (hj : j < 16) (h : post (qa_fe (qa_rv M x w t j))) : wpX_rowValue post ((nI W), (nI C), (nI w), (nI m), cp, hq, (fun zi => nI (K zi)), L, R, (fun zi => qa_fe (x zi)), (fun zi => qa_fe (F zi)), (fun zi => qa_fe (M zi)), (fun zi => qa_fe (pt zi)), (fun zi => qa_fe (B zi)), (fun zi => qa_fe (P zi))) (nI t) (nI j) := by
  have := qx_rv_l (W := W) (C := C) (m := m) (cp := cp) (hq := hq) (K := K) (L := L) (R := R) (F := F) (pt := pt) (B := B) (P := P) hw ht hj h (w + 1) 0 (by omega) (by omega)
  rw [nI_0] at this
  simp only [wpX_rowValue, wpX_matrixRow, qn_m16, nI_add, qn_m32]
  exact ⟨w + 1, this⟩
theorem qx_wv_l {post : Int32 → Prop} (hw : w ≤ 32) {a : Nat} (ha : a < 32) (h : post (qa_fe (qa_wv F x w a))) : ∀ n v, v ≤ w → w - v < n → wX_wireValue_4 post (nI a) (nI W) (nI C) (nI w) (nI m) cp hq (fun zi => nI (K zi)) L R (fun zi => qa_fe (x zi)) (fun zi => qa_fe (F zi)) (fun zi => qa_fe (M zi)) (fun zi => qa_fe (pt zi)) (fun zi => qa_fe (B zi)) (fun zi => qa_fe (P zi)) n (qa_fe (qa_sm (fun v => F (a * 32 + v) * x v) v)) (nI v) := by
  intro n
  induction n with
  | zero => intros; omega
  | succ n ih =>
    intro v hv hn
    by_cases h1 : v < w
    · have h2 : ¬ w ≤ v := by omega
      simp (disch := omega) only [wX_wireValue_4, h2, not_true, not_false_iff, true_implies, false_implies, true_and, and_true, forall_eq, nI_add, nI_1, nI_clamp, nI_leI, nI_ltI, nI_eq, qn_m32, qn_m16, qv_in, qx_mul, qx_add, qx_sub, qa_upd]
      exact ih (v + 1) (by omega) (by omega)
    · obtain rfl : v = w := by omega
      simp (disch := omega) only [wX_wireValue_4, Nat.le_refl, not_true, not_false_iff, true_implies, false_implies, true_and, and_true, forall_eq, nI_add, nI_1, nI_clamp, nI_leI, nI_ltI, nI_eq, qn_m32, qn_m16, qv_in, qx_mul, qx_add, qx_sub, qa_upd]
      exact h
theorem qx_wv {post : Int32 → Prop} (hw : w ≤ 32) {a : Nat} (ha : a < 32) (h : post (qa_fe (qa_wv F x w a))) : wpX_wireValue post ((nI W), (nI C), (nI w), (nI m), cp, hq, (fun zi => nI (K zi)), L, R, (fun zi => qa_fe (x zi)), (fun zi => qa_fe (F zi)), (fun zi => qa_fe (M zi)), (fun zi => qa_fe (pt zi)), (fun zi => qa_fe (B zi)), (fun zi => qa_fe (P zi))) (nI a) := by
  have := qx_wv_l (W := W) (C := C) (m := m) (cp := cp) (hq := hq) (K := K) (L := L) (R := R) (M := M) (pt := pt) (B := B) (P := P) hw ha h (w + 1) 0 (by omega) (by omega)
  rw [nI_0] at this
  exact ⟨w + 1, this⟩
theorem qx_inv_l {post : Int32 → Prop} (a : Int) (h : post (qa_fe (qa_iv a))) : ∀ n i, i ≤ 31 → 31 - i < n → wX_invert_6 post n (qa_fe (qa_pw a i).1) (qa_fe (qa_pw a i).2) (nI i) := by
  have l : (31 : Int32) = nI 31 := by decide
  intro n
  induction n with
  | zero => intros; omega
  | succ n ih =>
    intro i hi hn
    by_cases h1 : i < 31
    · have h2 : ¬ (31 : Int32) ≤ nI i := by rw [l]; exact nI_ge h1 (by omega)
      have i2 := ih (i + 1) (by omega) (by omega)
      by_cases hb : (((2147483645 : Int32) >>> (nI i &&& 31)) &&& 1) = 1
      · refine br_f h2 (br_t hb ?_)
        rw [qx_mul]
        unfold wX_invert_28
        rw [qx_mul]
        rw [qa_pw, if_pos hb] at i2
        exact nm_r (nI_1 i) i2
      · refine br_f h2 (br_f hb ?_)
        unfold wX_invert_28
        rw [qx_mul]
        rw [qa_pw, if_neg hb] at i2
        exact nm_r (nI_1 i) i2
    · obtain rfl : i = 31 := by omega
      exact br_t (by decide) h
theorem qx_inv {post : Int32 → Prop} (a : Int) (h : post (qa_fe (qa_iv a))) : wpX_invert post () (qa_fe a) := by
  have := qx_inv_l a h 32 0 (by omega) (by omega)
  rw [qa_pw, ← qa_1, nI_0] at this
  exact ⟨32, this⟩
def qx_d (c : Nat) : Int32 := nI c - 1
theorem qx_ds (c : Nat) : qx_d (c + 1) = nI c := nI_pred c
theorem qx_dm (c : Nat) : nI c + (-1) = qx_d c := (Int32.sub_eq_add_neg _ _).symm
theorem qx_d0 : qx_d 0 < 0 := by decide
theorem qx_pv_l {post : Int32 → Prop} {t l : Nat} (ht : t < 7) (hl : l ≤ 32) (r : Int) (h : post (qa_fe (qa_ho (fun k => P (t * 32 + k)) r l 0))) : ∀ c n, c ≤ l → c < n → wX_polyValue_11 post (nI t) (qa_fe r) (nI W) (nI C) (nI w) (nI m) cp hq (fun zi => nI (K zi)) L R (fun zi => qa_fe (x zi)) (fun zi => qa_fe (F zi)) (fun zi => qa_fe (M zi)) (fun zi => qa_fe (pt zi)) (fun zi => qa_fe (B zi)) (fun zi => qa_fe (P zi)) n (qa_fe (qa_ho (fun k => P (t * 32 + k)) r (l - c) c)) (qx_d c) := by
  intro c
  induction c with
  | zero =>
    intro n _ hn
    obtain ⟨n, rfl⟩ : ∃ k, n = k + 1 := ⟨n - 1, by omega⟩
    exact br_t qx_d0 h
  | succ c ih =>
    intro n hc hn
    obtain ⟨n, rfl⟩ : ∃ k, n = k + 1 := ⟨n - 1, by omega⟩
    rw [qx_ds]
    have h1 : ¬ nI c < 0 := nI_pos (by omega)
    have i2 := ih n (by omega) (by omega)
    rw [show l - c = (l - (c + 1)) + 1 by omega, qa_ho_s] at i2
    simp (disch := omega) only [wX_polyValue_11, h1, qx_dm, not_true, not_false_iff, true_implies, false_implies, true_and, and_true, forall_eq, nI_add, nI_1, nI_clamp, nI_leI, nI_ltI, nI_eq, qn_m32, qn_m16, qv_in, qx_mul, qx_add, qx_sub, qa_upd]
    exact i2
theorem qx_pv_g {post : Int32 → Prop} {t l : Nat} (ht : t < 7) (hl : l ≤ 32) (r : Int) (h : post (qa_fe (qa_ho (fun k => P (t * 32 + k)) r l 0))) : ∃ n, wX_polyValue_11 post (nI t) (qa_fe r) (nI W) (nI C) (nI w) (nI m) cp hq (fun zi => nI (K zi)) L R (fun zi => qa_fe (x zi)) (fun zi => qa_fe (F zi)) (fun zi => qa_fe (M zi)) (fun zi => qa_fe (pt zi)) (fun zi => qa_fe (B zi)) (fun zi => qa_fe (P zi)) n 0 (qx_d l) := by
  have := qx_pv_l (W := W) (C := C) (w := w) (m := m) (cp := cp) (hq := hq) (K := K) (L := L) (R := R) (x := x) (F := F) (M := M) (pt := pt) (B := B) ht hl r h l (l + 1) (by omega) (by omega)
  rw [Nat.sub_self] at this
  exact ⟨l + 1, this⟩
def qa_len (t m : Nat) : Nat := if t = 3 then m + 1 else if t = 4 then 2 * m - 1 else m
theorem qx_len {post : Int32 → Prop} {t : Nat} (ht : t < 7) (hm : 0 < m) (hm2 : m ≤ 16) (h : post (nI (qa_len t m))) : wpX_polyLength post ((nI W), (nI C), (nI w), (nI m), cp, hq, (fun zi => nI (K zi)), L, R, (fun zi => qa_fe (x zi)), (fun zi => qa_fe (F zi)), (fun zi => qa_fe (M zi)), (fun zi => qa_fe (pt zi)), (fun zi => qa_fe (B zi)), (fun zi => qa_fe (P zi))) (nI t) := by
  have e3 : (3 : Int32) = nI 3 := by decide
  have e4 : (4 : Int32) = nI 4 := by decide
  unfold wpX_polyLength qa_len at *
  by_cases h3 : t = 3
  · subst h3
    rw [if_pos rfl] at h
    exact br_t rfl (by rw [nI_1]; exact h)
  · rw [if_neg h3] at h
    refine br_f (by rw [e3, nI_eq (by omega) (by omega)]; exact h3) ?_
    by_cases h4 : t = 4
    · subst h4
      rw [if_pos rfl] at h
      refine br_t rfl ?_
      have : (2 : Int32) * nI m - 1 = nI (2 * m - 1) := by
        rw [show (2 : Int32) = nI 2 by decide, pk_mul, show (1 : Int32) = nI 1 by decide, pk_sub (by omega)]
      rw [this]
      exact h
    · rw [if_neg h4] at h
      exact br_f (by rw [e4, nI_eq (by omega) (by omega)]; exact h4) h
theorem qx_pv {post : Int32 → Prop} {t : Nat} (ht : t < 7) (hm : 0 < m) (hm2 : m ≤ 16) (r : Int) (h : post (qa_fe (qa_ho (fun k => P (t * 32 + k)) r (qa_len t m) 0))) : wpX_polyValue post ((nI W), (nI C), (nI w), (nI m), cp, hq, (fun zi => nI (K zi)), L, R, (fun zi => qa_fe (x zi)), (fun zi => qa_fe (F zi)), (fun zi => qa_fe (M zi)), (fun zi => qa_fe (pt zi)), (fun zi => qa_fe (B zi)), (fun zi => qa_fe (P zi))) (nI t) (qa_fe r) := by
  unfold wpX_polyValue
  refine qx_len ht hm hm2 ?_
  refine nm_r (e' := qx_d (qa_len t m)) rfl ?_
  exact qx_pv_g ht (by unfold qa_len; split <;> (try split) <;> omega) r h
def qa_sat (M x : Nat → Int) (w m : Nat) : Prop := ∀ j, j < m → qa_fe (qa_rv M x w 0 j * qa_rv M x w 1 j) = qa_fe (qa_rv M x w 2 j)
theorem qx_sat_l {post : Int32 → Prop} (hw : w ≤ 32) (hm : m ≤ 16) (h1 : qa_sat M x w m → post 1) (h0 : ¬ qa_sat M x w m → post 0) : ∀ n j, j ≤ m → m - j < n → (∀ i, i < j → qa_fe (qa_rv M x w 0 i * qa_rv M x w 1 i) = qa_fe (qa_rv M x w 2 i)) → wX_isSatisfied_2 post (nI W) (nI C) (nI w) (nI m) cp hq (fun zi => nI (K zi)) L R (fun zi => qa_fe (x zi)) (fun zi => qa_fe (F zi)) (fun zi => qa_fe (M zi)) (fun zi => qa_fe (pt zi)) (fun zi => qa_fe (B zi)) (fun zi => qa_fe (P zi)) n (nI j) := by
  intro n
  induction n with
  | zero => intros; omega
  | succ n ih =>
    intro j hj hn hI
    by_cases z : j < m
    · have z2 : ¬ nI m ≤ nI j := nI_ge z (by omega)
      refine br_f z2 ?_
      refine qx_rv (t := 0) hw (by omega) (by omega) ?_
      refine qx_rv (t := 1) hw (by omega) (by omega) ?_
      rw [qx_mul]
      refine qx_rv (t := 2) hw (by omega) (by omega) ?_
      by_cases e : qa_fe (qa_rv M x w 0 j * qa_rv M x w 1 j) = qa_fe (qa_rv M x w 2 j)
      · refine br_t e (nm_r (nI_1 j) ?_)
        refine ih (j + 1) (by omega) (by omega) fun i hi => ?_
        by_cases q : i = j
        · rw [q]; exact e
        · exact hI i (by omega)
      · exact br_f e (h0 fun q => e (q j z))
    · obtain rfl : j = m := by omega
      exact br_t (nI_le (Nat.le_refl _) (by omega)) (h1 hI)
theorem qx_sat {post : Int32 → Prop} (hw : w ≤ 32) (hm : m ≤ 16) (h1 : qa_sat M x w m → post 1) (h0 : ¬ qa_sat M x w m → post 0) : wpX_isSatisfied post ((nI W), (nI C), (nI w), (nI m), cp, hq, (fun zi => nI (K zi)), L, R, (fun zi => qa_fe (x zi)), (fun zi => qa_fe (F zi)), (fun zi => qa_fe (M zi)), (fun zi => qa_fe (pt zi)), (fun zi => qa_fe (B zi)), (fun zi => qa_fe (P zi))) := by
  have := qx_sat_l (W := W) (C := C) (cp := cp) (hq := hq) (K := K) (L := L) (R := R) (F := F) (pt := pt) (B := B) (P := P) hw hm h1 h0 (m + 1) 0 (by omega) (by omega) (fun i hi => by omega)
  rw [nI_0] at this
  exact ⟨m + 1, this⟩
def qa_rz (P : Nat → Int) (m : Nat) : Prop := ∀ k, k < m → qa_fe (P (192 + k)) = 0
theorem qx_rz_l {post : Int32 → Prop} (hm : m ≤ 16) (h1 : qa_rz P m → post 1) (h0 : ¬ qa_rz P m → post 0) : ∀ n k, k ≤ m → m - k < n → (∀ i, i < k → qa_fe (P (192 + i)) = 0) → wX_remainderIsZero_2 post (nI W) (nI C) (nI w) (nI m) cp hq (fun zi => nI (K zi)) L R (fun zi => qa_fe (x zi)) (fun zi => qa_fe (F zi)) (fun zi => qa_fe (M zi)) (fun zi => qa_fe (pt zi)) (fun zi => qa_fe (B zi)) (fun zi => qa_fe (P zi)) n (nI k) := by
  intro n
  induction n with
  | zero => intros; omega
  | succ n ih =>
    intro k hk hn hI
    by_cases z : k < m
    · have z2 : ¬ nI m ≤ nI k := nI_ge z (by omega)
      have ci : ((192 : Int32) + nI k).toNatClampNeg = 192 + k := by rw [qn_192a, nI_clamp (by omega)]
      refine br_f z2 ⟨by rw [qn_192a]; exact vp_in_nI (by omega) (by omega), ?_⟩
      by_cases e : qa_fe (P (192 + k)) = 0
      · refine br_t (by rw [ci]; exact e) (nm_r (nI_1 k) ?_)
        refine ih (k + 1) (by omega) (by omega) fun i hi => ?_
        by_cases q : i = k
        · rw [q]; exact e
        · exact hI i (by omega)
      · exact br_f (by rw [ci]; exact e) (h0 fun q => e (q k z))
    · obtain rfl : k = m := by omega
      exact br_t (nI_le (Nat.le_refl _) (by omega)) (h1 hI)
theorem qx_rz {post : Int32 → Prop} (hm : m ≤ 16) (h1 : qa_rz P m → post 1) (h0 : ¬ qa_rz P m → post 0) : wpX_remainderIsZero post ((nI W), (nI C), (nI w), (nI m), cp, hq, (fun zi => nI (K zi)), L, R, (fun zi => qa_fe (x zi)), (fun zi => qa_fe (F zi)), (fun zi => qa_fe (M zi)), (fun zi => qa_fe (pt zi)), (fun zi => qa_fe (B zi)), (fun zi => qa_fe (P zi))) := by
  have := qx_rz_l (W := W) (C := C) (w := w) (cp := cp) (hq := hq) (K := K) (L := L) (R := R) (x := x) (F := F) (M := M) (pt := pt) (B := B) hm h1 h0 (m + 1) 0 (by omega) (by omega) (fun i hi => by omega)
  rw [nI_0] at this
  exact ⟨m + 1, this⟩
end QX
