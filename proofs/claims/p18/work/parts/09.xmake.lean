section QX
variable {W C w m : Nat} {cp hq : Int32} {K : Nat → Nat} {L R : Nat → Int32} {x F M pt B P : Nat → Int}
theorem qx_mw {post : Int32 → St2 → Prop} (hw : w < 32) (kd : Nat) (h : post (nI w) ((nI W), (nI C), (nI (w + 1)), (nI m), cp, hq, (fun zi => nI (qa_un K w kd zi)), L, R, (fun zi => qa_fe (x zi)), (fun zi => qa_fe (F zi)), (fun zi => qa_fe (M zi)), (fun zi => qa_fe (pt zi)), (fun zi => qa_fe (B zi)), (fun zi => qa_fe (P zi)))) : wpX_makeWire post ((nI W), (nI C), (nI w), (nI m), cp, hq, (fun zi => nI (K zi)), L, R, (fun zi => qa_fe (x zi)), (fun zi => qa_fe (F zi)), (fun zi => qa_fe (M zi)), (fun zi => qa_fe (pt zi)), (fun zi => qa_fe (B zi)), (fun zi => qa_fe (P zi))) (nI kd) := by
  unfold wpX_makeWire
  refine ⟨vp_in_nI hw (by omega), nm_r ?_ (nm_r (nI_1 w) h)⟩
  rw [nI_clamp (by omega), qa_updN]
theorem qx_mv {post : Int32 → St2 → Prop} (hw : w < 32) (kd : Nat) (h : post (nI w) ((nI W), (nI C), (nI (w + 1)), (nI m), cp, hq, (fun zi => nI (qa_un K w kd zi)), L, R, (fun zi => qa_fe (x zi)), (fun zi => qa_fe ((qa_uz F (w * 32 + w) 1) zi)), (fun zi => qa_fe (M zi)), (fun zi => qa_fe (pt zi)), (fun zi => qa_fe (B zi)), (fun zi => qa_fe (P zi)))) : wpX_makeVariable post ((nI W), (nI C), (nI w), (nI m), cp, hq, (fun zi => nI (K zi)), L, R, (fun zi => qa_fe (x zi)), (fun zi => qa_fe (F zi)), (fun zi => qa_fe (M zi)), (fun zi => qa_fe (pt zi)), (fun zi => qa_fe (B zi)), (fun zi => qa_fe (P zi))) (nI kd) := by
  unfold wpX_makeVariable
  refine qx_mw hw kd ?_
  dsimp only
  rw [qn_m32, nI_add, nI_clamp (by omega), qa_1, qa_upd]
  exact ⟨vp_in_nI (by omega) (by omega), nm_e h⟩
theorem qx_ms9 {post : Int32 → St2 → Prop} {a b u : Nat} (ha : a < u) (hb : b < u) (hu : u < 32) (h : post (nI u) ((nI W), (nI C), (nI w), (nI m), cp, hq, (fun zi => nI (K zi)), L, R, (fun zi => qa_fe (x zi)), (fun zi => qa_fe ((qa_row F (u * 32) u (fun v => F (a * 32 + v) + F (b * 32 + v))) zi)), (fun zi => qa_fe (M zi)), (fun zi => qa_fe (pt zi)), (fun zi => qa_fe (B zi)), (fun zi => qa_fe (P zi)))) : ∀ n v, v ≤ u → u - v < n → wX_makeSum_9 post (nI a) (nI b) (nI u) (nI W) (nI C) (nI w) (nI m) cp hq n (nI v) (fun zi => nI (K zi)) L R (fun zi => qa_fe (x zi)) (fun zi => qa_fe ((qa_row F (u * 32) v (fun v => F (a * 32 + v) + F (b * 32 + v))) zi)) (fun zi => qa_fe (M zi)) (fun zi => qa_fe (pt zi)) (fun zi => qa_fe (B zi)) (fun zi => qa_fe (P zi)) := by
  intro n
  induction n with
  | zero => intros; omega
  | succ n ih =>
    intro v hv hn
    by_cases h1 : v < u
    · have h2 : ¬ u ≤ v := by omega
      have e1 : qa_row F (u * 32) v (fun v => F (a * 32 + v) + F (b * 32 + v)) (a * 32 + v) = F (a * 32 + v) := qa_row_out (by omega)
      have e2 : qa_row F (u * 32) v (fun v => F (a * 32 + v) + F (b * 32 + v)) (b * 32 + v) = F (b * 32 + v) := qa_row_out (by omega)
      have e3 := qa_row_s F (fun v => F (a * 32 + v) + F (b * 32 + v)) (u * 32) v
      simp (disch := omega) only [wX_makeSum_9, h2, e1, e2, e3, not_true, not_false_iff, true_implies, false_implies, true_and, and_true, forall_eq, nI_add, nI_1, nI_clamp, nI_leI, nI_ltI, nI_eq, qn_m32, qn_m16, qv_in, qx_mul, qx_add, qx_sub, qa_upd]
      exact ih (v + 1) (by omega) (by omega)
    · obtain rfl : v = u := by omega
      exact br_t (nI_le (Nat.le_refl _) (by omega)) h
theorem qx_ms {post : Int32 → St2 → Prop} {a b : Nat} (ha : a < w) (hb : b < w) (hw : w < 32) (h : post (nI w) ((nI W), (nI C), (nI (w + 1)), (nI m), cp, hq, (fun zi => nI (qa_un K w 2 zi)), L, R, (fun zi => qa_fe (x zi)), (fun zi => qa_fe ((qa_row F (w * 32) w (fun v => F (a * 32 + v) + F (b * 32 + v))) zi)), (fun zi => qa_fe (M zi)), (fun zi => qa_fe (pt zi)), (fun zi => qa_fe (B zi)), (fun zi => qa_fe (P zi)))) : wpX_makeSum post ((nI W), (nI C), (nI w), (nI m), cp, hq, (fun zi => nI (K zi)), L, R, (fun zi => qa_fe (x zi)), (fun zi => qa_fe (F zi)), (fun zi => qa_fe (M zi)), (fun zi => qa_fe (pt zi)), (fun zi => qa_fe (B zi)), (fun zi => qa_fe (P zi))) (nI a) (nI b) := by
  unfold wpX_makeSum
  refine qx_mw hw 2 ⟨w + 1, ?_⟩
  have := qx_ms9 (post := post) (W := W) (C := C) (w := w + 1) (m := m) (cp := cp) (hq := hq) (K := qa_un K w 2) (L := L) (R := R) (x := x) (F := F) (M := M) (pt := pt) (B := B) (P := P) ha hb hw h (w + 1) 0 (by omega) (by omega)
  rw [qa_row_0, nI_0] at this
  exact this
theorem qx_mm9 {post : Int32 → St2 → Prop} {a u : Nat} (c : Int) (ha : a < u) (hu : u < 32) (h : post (nI u) ((nI W), (nI C), (nI w), (nI m), cp, hq, (fun zi => nI (K zi)), L, R, (fun zi => qa_fe (x zi)), (fun zi => qa_fe ((qa_row F (u * 32) u (fun v => c * F (a * 32 + v))) zi)), (fun zi => qa_fe (M zi)), (fun zi => qa_fe (pt zi)), (fun zi => qa_fe (B zi)), (fun zi => qa_fe (P zi)))) : ∀ n v, v ≤ u → u - v < n → wX_makeMultiple_9 post (nI a) (qa_fe c) (nI u) (nI W) (nI C) (nI w) (nI m) cp hq n (nI v) (fun zi => nI (K zi)) L R (fun zi => qa_fe (x zi)) (fun zi => qa_fe ((qa_row F (u * 32) v (fun v => c * F (a * 32 + v))) zi)) (fun zi => qa_fe (M zi)) (fun zi => qa_fe (pt zi)) (fun zi => qa_fe (B zi)) (fun zi => qa_fe (P zi)) := by
  intro n
  induction n with
  | zero => intros; omega
  | succ n ih =>
    intro v hv hn
    by_cases h1 : v < u
    · have h2 : ¬ u ≤ v := by omega
      have e1 : qa_row F (u * 32) v (fun v => c * F (a * 32 + v)) (a * 32 + v) = F (a * 32 + v) := qa_row_out (by omega)
      have e3 := qa_row_s F (fun v => c * F (a * 32 + v)) (u * 32) v
      simp (disch := omega) only [wX_makeMultiple_9, h2, e1, e3, not_true, not_false_iff, true_implies, false_implies, true_and, and_true, forall_eq, nI_add, nI_1, nI_clamp, nI_leI, nI_ltI, nI_eq, qn_m32, qn_m16, qv_in, qx_mul, qx_add, qx_sub, qa_upd]
      exact ih (v + 1) (by omega) (by omega)
    · obtain rfl : v = u := by omega
      exact br_t (nI_le (Nat.le_refl _) (by omega)) h
theorem qx_mm {post : Int32 → St2 → Prop} {a : Nat} (c : Int) (ha : a < w) (hw : w < 32) (h : post (nI w) ((nI W), (nI C), (nI (w + 1)), (nI m), cp, hq, (fun zi => nI (qa_un K w 4 zi)), L, R, (fun zi => qa_fe (x zi)), (fun zi => qa_fe ((qa_row F (w * 32) w (fun v => c * F (a * 32 + v))) zi)), (fun zi => qa_fe (M zi)), (fun zi => qa_fe (pt zi)), (fun zi => qa_fe (B zi)), (fun zi => qa_fe (P zi)))) : wpX_makeMultiple post ((nI W), (nI C), (nI w), (nI m), cp, hq, (fun zi => nI (K zi)), L, R, (fun zi => qa_fe (x zi)), (fun zi => qa_fe (F zi)), (fun zi => qa_fe (M zi)), (fun zi => qa_fe (pt zi)), (fun zi => qa_fe (B zi)), (fun zi => qa_fe (P zi))) (nI a) (qa_fe c) := by
  unfold wpX_makeMultiple
  refine qx_mw hw 4 ⟨w + 1, ?_⟩
  have := qx_mm9 (post := post) (W := W) (C := C) (w := w + 1) (m := m) (cp := cp) (hq := hq) (K := qa_un K w 4) (L := L) (R := R) (x := x) (F := F) (M := M) (pt := pt) (B := B) (P := P) c ha hw h (w + 1) 0 (by omega) (by omega)
  rw [qa_row_0, nI_0] at this
  exact this
def qx_pM (M F : Nat → Int) (m u a b v : Nat) : Nat → Int := qa_row (qa_row M (qa_mi 0 m 0) v (fun v => F (a * 32 + v))) (qa_mi 1 m 0) v (fun v => F (b * 32 + v))
theorem qx_mp53 {post : Int32 → St2 → Prop} {a b u : Nat} (ha : a < u) (hb : b < u) (hu : u < 32) (hm : m < 16) (h : post (nI u) ((nI W), (nI C), (nI w), (nI (m + 1)), cp, hq, (fun zi => nI (K zi)), L, R, (fun zi => qa_fe (x zi)), (fun zi => qa_fe (F zi)), (fun zi => qa_fe ((qa_uz (qx_pM M F m u a b u) (qa_mi 2 m u) 1) zi)), (fun zi => qa_fe (pt zi)), (fun zi => qa_fe (B zi)), (fun zi => qa_fe (P zi)))) : ∀ n v, v ≤ u → u - v < n → wX_makeProduct_53 post (nI a) (nI b) (nI u) (nI (qa_mi 0 m 0)) (nI (qa_mi 1 m 0)) (nI (qa_mi 2 m 0)) (nI W) (nI C) (nI w) (nI m) cp hq n (nI v) (fun zi => nI (K zi)) L R (fun zi => qa_fe (x zi)) (fun zi => qa_fe (F zi)) (fun zi => qa_fe ((qx_pM M F m u a b v) zi)) (fun zi => qa_fe (pt zi)) (fun zi => qa_fe (B zi)) (fun zi => qa_fe (P zi)) := by
  have m0 : ∀ i, nI (qa_mi 0 m 0) + nI i = nI ((0 * 16 + m) * 32 + i) := fun i => nI_add _ _
  have m1 : ∀ i, nI (qa_mi 1 m 0) + nI i = nI ((1 * 16 + m) * 32 + i) := fun i => nI_add _ _
  have m2 : ∀ i, nI (qa_mi 2 m 0) + nI i = nI ((2 * 16 + m) * 32 + i) := fun i => nI_add _ _
  intro n
  induction n with
  | zero => intros; omega
  | succ n ih =>
    intro v hv hn
    by_cases h1 : v < u
    · refine br_f (nI_ge h1 (by omega)) ?_
      rw [m0, m1, qn_m32, qn_m32, nI_add, nI_add, nI_clamp (by omega), nI_clamp (by omega), nI_clamp (by omega), nI_clamp (by omega)]
      refine ⟨vp_in_nI (by omega) (by omega), vp_in_nI (by omega) (by omega), nm_r (qa_upd _ _ _) ⟨vp_in_nI (by omega) (by omega), vp_in_nI (by omega) (by omega), nm_r ((qa_upd _ _ _).trans ?_) (nm_r (nI_1 v) (ih (v + 1) (by omega) (by omega)))⟩⟩
      congr 1
      funext zi
      congr 1
      have e := qx_row_uo (P := qa_row M (qa_mi 0 m 0) v (fun v => F (a * 32 + v))) (g := fun v => F (b * 32 + v)) (b := qa_mi 1 m 0) (n := v) (k := (0 * 16 + m) * 32 + v) (F (a * 32 + v)) (by unfold qa_mi; omega)
      have e2 := qa_row_s M (fun v => F (a * 32 + v)) (qa_mi 0 m 0) v
      have e3 := qa_row_s (qa_row M (qa_mi 0 m 0) (v + 1) (fun v => F (a * 32 + v))) (fun v => F (b * 32 + v)) (qa_mi 1 m 0) v
      unfold qx_pM
      rw [e]
      rw [show (0 * 16 + m) * 32 + v = qa_mi 0 m 0 + v from rfl, show (1 * 16 + m) * 32 + v = qa_mi 1 m 0 + v from rfl, e2, e3]
    · obtain rfl : v = u := by omega
      refine br_t (nI_le (Nat.le_refl _) (by omega)) ?_
      rw [m2, nI_clamp (by omega), qa_1]
      exact ⟨vp_in_nI (by omega) (by omega), nm_r (qa_upd _ _ _) (nm_r (nI_1 m) h)⟩
theorem qx_mp {post : Int32 → St2 → Prop} {a b : Nat} (ha : a < w) (hb : b < w) (hw : w < 32) (hm : m < 16) (h : post (nI w) ((nI W), (nI C), (nI (w + 1)), (nI (m + 1)), cp, hq, (fun zi => nI (qa_un K w 3 zi)), (upd L w (nI a)), (upd R w (nI b)), (fun zi => qa_fe (x zi)), (fun zi => qa_fe ((qa_uz F (w * 32 + w) 1) zi)), (fun zi => qa_fe ((qa_uz (qx_pM M (qa_uz F (w * 32 + w) 1) m w a b w) (qa_mi 2 m w) 1) zi)), (fun zi => qa_fe (pt zi)), (fun zi => qa_fe (B zi)), (fun zi => qa_fe (P zi)))) : wpX_makeProduct post ((nI W), (nI C), (nI w), (nI m), cp, hq, (fun zi => nI (K zi)), L, R, (fun zi => qa_fe (x zi)), (fun zi => qa_fe (F zi)), (fun zi => qa_fe (M zi)), (fun zi => qa_fe (pt zi)), (fun zi => qa_fe (B zi)), (fun zi => qa_fe (P zi))) (nI a) (nI b) := by
  unfold wpX_makeProduct
  refine qx_mv hw 3 ⟨vp_in_nI hw (by omega), ?_⟩
  rw [nI_clamp (by omega)]
  refine nm_e ⟨vp_in_nI hw (by omega), nm_e ?_⟩
  have r0 : ((0 : Int32) * 16 + nI m) * 32 = nI (qa_mi 0 m 0) := by
    rw [show (0 : Int32) = nI 0 by decide, qn_m16, nI_add, qn_m32]; rfl
  have r1 : ((1 : Int32) * 16 + nI m) * 32 = nI (qa_mi 1 m 0) := by
    rw [show (1 : Int32) = nI 1 by decide, qn_m16, nI_add, qn_m32]; rfl
  have r2 : ((2 : Int32) * 16 + nI m) * 32 = nI (qa_mi 2 m 0) := by
    rw [show (2 : Int32) = nI 2 by decide, qn_m16, nI_add, qn_m32]; rfl
  unfold wpX_matrixRow
  rw [r0, r1, r2]
  refine ⟨w + 1, ?_⟩
  have := qx_mp53 (post := post) (W := W) (C := C) (w := w + 1) (m := m) (cp := cp) (hq := hq) (K := qa_un K w 3) (L := upd L w (nI a)) (R := upd R w (nI b)) (x := x) (F := qa_uz F (w * 32 + w) 1) (M := M) (pt := pt) (B := B) (P := P) ha hb hw hm h (w + 1) 0 (by omega) (by omega)
  unfold qx_pM at this
  rw [qa_row_0, qa_row_0, nI_0] at this
  exact this
theorem qx_ae58 {post : Int32 → St2 → Prop} {a b : Nat} (ha : a < w) (hb : b < w) (hw : w ≤ 32) (hm : m < 16) (h : post (nI m) ((nI W), (nI C), (nI w), (nI (m + 1)), cp, hq, (fun zi => nI (K zi)), L, R, (fun zi => qa_fe (x zi)), (fun zi => qa_fe (F zi)), (fun zi => qa_fe ((qa_uz (qa_row M (qa_mi 0 m 0) w (fun v => F (a * 32 + v) - F (b * 32 + v))) (qa_mi 1 m 0) 1) zi)), (fun zi => qa_fe (pt zi)), (fun zi => qa_fe (B zi)), (fun zi => qa_fe (P zi)))) : ∀ n v, v ≤ w → w - v < n → wX_assertEqual_58 post (nI a) (nI b) (nI m) (nI (qa_mi 0 m 0)) (nI (qa_mi 1 m 0)) (nI W) (nI C) (nI w) (nI m) cp hq n (nI v) (fun zi => nI (K zi)) L R (fun zi => qa_fe (x zi)) (fun zi => qa_fe (F zi)) (fun zi => qa_fe ((qa_row M (qa_mi 0 m 0) v (fun v => F (a * 32 + v) - F (b * 32 + v))) zi)) (fun zi => qa_fe (pt zi)) (fun zi => qa_fe (B zi)) (fun zi => qa_fe (P zi)) := by
  have m0 : ∀ i, nI (qa_mi 0 m 0) + nI i = nI ((0 * 16 + m) * 32 + i) := fun i => nI_add _ _
  intro n
  induction n with
  | zero => intros; omega
  | succ n ih =>
    intro v hv hn
    by_cases h1 : v < w
    · refine br_f (nI_ge h1 (by omega)) ?_
      rw [m0, qn_m32, qn_m32, nI_add, nI_add, nI_clamp (by omega), nI_clamp (by omega), nI_clamp (by omega)]
      refine ⟨vp_in_nI (by omega) (by omega), vp_in_nI (by omega) (by omega), ?_⟩
      rw [qx_sub]
      refine ⟨vp_in_nI (by omega) (by omega), nm_r ((qa_upd _ _ _).trans ?_) (nm_r (nI_1 v) (ih (v + 1) (by omega) (by omega)))⟩
      rw [← qa_row_s M (fun v => F (a * 32 + v) - F (b * 32 + v)) (qa_mi 0 m 0) v]
      rfl
    · obtain rfl : v = w := by omega
      have hr : qa_mi 1 m 0 < 1536 := by unfold qa_mi; omega
      refine br_t (nI_le (Nat.le_refl _) (by omega)) ⟨vp_in_nI hr (by omega), ?_⟩
      rw [nI_clamp (by omega), qa_1]
      exact nm_r (qa_upd _ _ _) (nm_r (nI_1 m) h)
theorem qx_ae {post : Int32 → St2 → Prop} {a b : Nat} (ha : a < w) (hb : b < w) (hw : w ≤ 32) (hm : m < 16) (h : post (nI m) ((nI W), (nI C), (nI w), (nI (m + 1)), cp, hq, (fun zi => nI (K zi)), L, R, (fun zi => qa_fe (x zi)), (fun zi => qa_fe (F zi)), (fun zi => qa_fe ((qa_uz (qa_row M (qa_mi 0 m 0) w (fun v => F (a * 32 + v) - F (b * 32 + v))) (qa_mi 1 m 0) 1) zi)), (fun zi => qa_fe (pt zi)), (fun zi => qa_fe (B zi)), (fun zi => qa_fe (P zi)))) : wpX_matrixRow (fun r_37 => (wpX_matrixRow (fun r_38 => (∃ n58 : Nat, wX_assertEqual_58 post (nI a) (nI b) (nI m) r_37 r_38 (nI W) (nI C) (nI w) (nI m) cp hq n58 0 (fun zi => nI (K zi)) L R (fun zi => qa_fe (x zi)) (fun zi => qa_fe (F zi)) (fun zi => qa_fe (M zi)) (fun zi => qa_fe (pt zi)) (fun zi => qa_fe (B zi)) (fun zi => qa_fe (P zi)))) () 1 (nI m))) () 0 (nI m) := by
  have r0 : ((0 : Int32) * 16 + nI m) * 32 = nI (qa_mi 0 m 0) := by
    rw [show (0 : Int32) = nI 0 by decide, qn_m16, nI_add, qn_m32]; rfl
  have r1 : ((1 : Int32) * 16 + nI m) * 32 = nI (qa_mi 1 m 0) := by
    rw [show (1 : Int32) = nI 1 by decide, qn_m16, nI_add, qn_m32]; rfl
  unfold wpX_matrixRow
  rw [r0, r1]
  refine ⟨w + 1, ?_⟩
  have := qx_ae58 (post := post) (W := W) (C := C) (w := w) (m := m) (cp := cp) (hq := hq) (K := K) (L := L) (R := R) (x := x) (F := F) (M := M) (pt := pt) (B := B) (P := P) ha hb hw hm h (w + 1) 0 (by omega) (by omega)
  rw [qa_row_0, nI_0] at this
  exact this
def qa_ds (pt : Nat → Int) (C j : Nat) (z : Int) : Prop := ∀ k, k < C → k ≠ j → qa_fe (pt k) ≠ qa_fe z
theorem qx_sp29 {post : Int32 → St2 → Prop} (hC : C ≤ 16) {j : Nat} (hj : j < C) (z : Int) (h1 : qa_ds pt C j z → post 1 ((nI W), (nI C), (nI w), (nI m), cp, hq, (fun zi => nI (K zi)), L, R, (fun zi => qa_fe (x zi)), (fun zi => qa_fe (F zi)), (fun zi => qa_fe (M zi)), (fun zi => qa_fe ((qa_uz pt j z) zi)), (fun zi => qa_fe (B zi)), (fun zi => qa_fe (P zi)))) (h0 : ¬ qa_ds pt C j z → post 0 ((nI W), (nI C), (nI w), (nI m), cp, hq, (fun zi => nI (K zi)), L, R, (fun zi => qa_fe (x zi)), (fun zi => qa_fe (F zi)), (fun zi => qa_fe (M zi)), (fun zi => qa_fe (pt zi)), (fun zi => qa_fe (B zi)), (fun zi => qa_fe (P zi)))) : ∀ n k, k ≤ C → C - k < n → (∀ i, i < k → i ≠ j → qa_fe (pt i) ≠ qa_fe z) → wX_setPoint_29 post (nI j) (qa_fe z) (nI W) (nI C) (nI w) (nI m) cp hq (fun zi => nI (K zi)) L R (fun zi => qa_fe (x zi)) (fun zi => qa_fe (F zi)) (fun zi => qa_fe (M zi)) (fun zi => qa_fe (pt zi)) (fun zi => qa_fe (B zi)) (fun zi => qa_fe (P zi)) n (nI k) := by
  intro n
  induction n with
  | zero => intros; omega
  | succ n ih =>
    intro k hk hn hI
    by_cases h2 : k < C
    · refine br_f (nI_ge h2 (by omega)) ?_
      by_cases e : k = j
      · exact br_t (by rw [e]) (nm_r (nI_1 k) (ih (k + 1) (by omega) (by omega) fun i hi hn => hI i (by omega) hn))
      · refine br_f (by rw [nI_eq (by omega) (by omega)]; exact e) ⟨vp_in_nI (by omega) (by omega), ?_⟩
        rw [nI_clamp (by omega)]
        by_cases q : qa_fe (pt k) = qa_fe z
        · exact br_t q (h0 fun y => y k h2 e q)
        · refine br_f q (nm_r (nI_1 k) (ih (k + 1) (by omega) (by omega) fun i hi hn => ?_))
          by_cases y : i = k
          · rw [y]; exact q
          · exact hI i (by omega) hn
    · obtain rfl : k = C := by omega
      refine br_t (nI_le (Nat.le_refl _) (by omega)) ⟨vp_in_nI (by omega) (by omega), ?_⟩
      rw [nI_clamp (by omega)]
      exact nm_r (qa_upd _ _ _) (h1 hI)
theorem qx_wc {post : St2 → Prop} {x0 : Nat → Int} (hw : w ≤ 32) (hm : m ≤ 16) (hQ : qi_q cp w m M x0 pt B P) (h : ∀ P' : Nat → Int, qi_q cp w m M x pt B P' → post ((nI W), (nI C), (nI w), (nI m), cp, 0, (fun zi => nI (K zi)), L, R, (fun zi => qa_fe (x zi)), (fun zi => qa_fe (F zi)), (fun zi => qa_fe (M zi)), (fun zi => qa_fe (pt zi)), (fun zi => qa_fe (B zi)), (fun zi => qa_fe (P' zi)))) : wpX_witnessChanged post ((nI W), (nI C), (nI w), (nI m), cp, hq, (fun zi => nI (K zi)), L, R, (fun zi => qa_fe (x zi)), (fun zi => qa_fe (F zi)), (fun zi => qa_fe (M zi)), (fun zi => qa_fe (pt zi)), (fun zi => qa_fe (B zi)), (fun zi => qa_fe (P zi))) := by
  unfold wpX_witnessChanged
  rcases hQ with ⟨rfl, z⟩ | ⟨rfl, m0, q1, q2, q3, q4, q5⟩
  · exact br_t rfl (h P (Or.inl ⟨rfl, z⟩))
  · refine br_f (by decide) ?_
    refine qx_rf hw hm q1 (fun t k ht h1 h2 => by rw [q3 t k ht h2, if_neg (by omega)]) fun P' p1 p2 p3 p4 => ?_
    exact h P' (Or.inr ⟨rfl, m0, q1, fun k hk => by rw [p1 _ (by omega) (by omega), q2 k hk], p3, p4, fun k h1 h2 => by rw [p2 _ (by omega), q5 k h1 h2]⟩)
theorem qx_iw {post : Int32 → Prop} {j : Nat} (hw : w ≤ 32) (hj : j < w) (h : post 1) : wpX_isWire post ((nI W), (nI C), (nI w), (nI m), cp, hq, (fun zi => nI (K zi)), L, R, (fun zi => qa_fe (x zi)), (fun zi => qa_fe (F zi)), (fun zi => qa_fe (M zi)), (fun zi => qa_fe (pt zi)), (fun zi => qa_fe (B zi)), (fun zi => qa_fe (P zi))) (nI j) := by
  unfold wpX_isWire
  exact br_f (nI_pos (by omega)) (br_f (nI_ge hj (by omega)) h)
theorem qx_nw1 {post : Int32 → Prop} {p : Int32} (hp : p < 0) (h : post 0) : wpX_isWire post ((nI W), (nI C), (nI w), (nI m), cp, hq, (fun zi => nI (K zi)), L, R, (fun zi => qa_fe (x zi)), (fun zi => qa_fe (F zi)), (fun zi => qa_fe (M zi)), (fun zi => qa_fe (pt zi)), (fun zi => qa_fe (B zi)), (fun zi => qa_fe (P zi))) p := by
  unfold wpX_isWire
  exact br_t hp h
theorem qm_ge {p : Int32} {n : Nat} (hn : n < 2 ^ 31) (h : nI n ≤ p) : ¬ p < 0 ∧ ¬ p < nI n :=
  ⟨Int32.not_lt.mpr (Int32.le_trans (nI_pos' hn) h), Int32.not_lt.mpr h⟩
theorem qx_nw2 {post : Int32 → Prop} {p : Int32} (hw : w ≤ 32) (hp : nI w ≤ p) (h : post 0) : wpX_isWire post ((nI W), (nI C), (nI w), (nI m), cp, hq, (fun zi => nI (K zi)), L, R, (fun zi => qa_fe (x zi)), (fun zi => qa_fe (F zi)), (fun zi => qa_fe (M zi)), (fun zi => qa_fe (pt zi)), (fun zi => qa_fe (B zi)), (fun zi => qa_fe (P zi))) p := by
  unfold wpX_isWire
  exact br_f (qm_ge (by omega) hp).1 (br_t hp h)
theorem qx_nw {post : Int32 → Prop} {p : Int32} (hw : w ≤ 32) (hp : p < 0 ∨ nI w ≤ p) (h : post 0) : wpX_isWire post ((nI W), (nI C), (nI w), (nI m), cp, hq, (fun zi => nI (K zi)), L, R, (fun zi => qa_fe (x zi)), (fun zi => qa_fe (F zi)), (fun zi => qa_fe (M zi)), (fun zi => qa_fe (pt zi)), (fun zi => qa_fe (B zi)), (fun zi => qa_fe (P zi))) p :=
  hp.elim (fun z => qx_nw1 z h) (fun z => qx_nw2 hw z h)
end QX
