section QY
variable {W C w m : Nat} {cp hq : Int32} {K : Nat → Nat} {L R oa ob st ca cb cw hh rr col bas pm pp zz rm : Nat → Int32} {x F M pt : Nat → Int}
theorem qy_fp51 {post : SY → Prop} {J : Int32 → Int32 → Int32 → Int32 → Int32 → Int32 → Int32 → (Nat → Int32) → (Nat → Int32) → (Nat → Int32) → (Nat → Int32) → (Nat → Int32) → (Nat → Int32) → (Nat → Int32) → (Nat → Int32) → (Nat → Int32) → (Nat → Int32) → (Nat → Int32) → (Nat → Int32) → (Nat → Int32) → (Nat → Int32) → (Nat → Int32) → (Nat → Int32) → Prop} (hm : m ≤ 16) {t j : Nat} (ht : t < 3) (v : Int) (f b : Nat → Int) (hb : ∀ k, k < m → bas k = qa_fe (b k)) (h : J (nI (j + 1)) (nI W) (nI C) (nI w) (nI m) cp hq (fun zi => nI (K zi)) oa ob st ca cb cw (fun zi => qa_fe (pt zi)) hh rr col bas (qb_r pm (t * 16) 16 (qa_mix m (fun k => f k + v * b k) f)) pp zz rm) : ∀ n k, k ≤ m → m - k < n → wY_fillPoly_51 post J (nI t) (nI j) (qa_fe v) (nI W) (nI C) (nI w) (nI m) cp hq n (nI k) (fun zi => nI (K zi)) oa ob st ca cb cw (fun zi => qa_fe (pt zi)) hh rr col bas (qb_r pm (t * 16) 16 (qa_mix k (fun k => f k + v * b k) f)) pp zz rm := by
  intro n
  induction n with
  | zero => intros; omega
  | succ n ih =>
    intro k hk hn
    by_cases h1 : k < m
    · have h2 : ¬ m ≤ k := by omega
      have e1 : qb_r pm (t * 16) 16 (qa_mix k (fun k => f k + v * b k) f) (t * 16 + k) = qa_fe (f k) := by rw [qb_in (by omega), qa_mix_ge (Nat.le_refl k)]
      have e2 := qb_u (a := pm) (g := qa_mix k (fun k => f k + v * b k) f) (b := t * 16) (m := 16) (k := k) (by omega) (f k + v * b k)
      rw [qa_mix_s (fun k => f k + v * b k) f k] at e2
      simp (disch := omega) only [wY_fillPoly_51, h2, e1, e2, hb k h1, qy_ac, not_true, not_false_iff, true_implies, false_implies, true_and, and_true, forall_eq, nI_add, nI_1, nI_clamp, nI_leI, nI_ltI, nI_eq, qn_m32, qn_m16, qv_in, qx_mul, qx_add, qx_sub, qa_upd]
      exact ih (k + 1) (by omega) (by omega)
    · obtain rfl : k = m := by omega
      exact br_t (nI_le (Nat.le_refl _) (by omega)) (nm_r (nI_1 j) h)
theorem qy_fp28 {post : SY → Prop} (hW : qi_w w K L R oa ob F) (hX : qi_x w K x st) (hC : qi_c w m F M ca cb cw) (hw : w ≤ 32) (hm : m ≤ 16) {t : Nat} (ht : t < 3) (h : ∀ c b : Nat → Int32, post ((nI W), (nI C), (nI w), (nI m), cp, hq, (fun zi => nI (K zi)), oa, ob, st, ca, cb, cw, (fun zi => qa_fe (pt zi)), hh, rr, c, b, (qb_r pm (t * 16) 16 (qa_mix m (qa_pz M x pt w m t) (fun _ => 0))), pp, zz, rm)) : ∀ n j (c b : Nat → Int32), j ≤ m → m - j < n → wY_fillPoly_28 post (nI t) n (nI j) (nI W) (nI C) (nI w) (nI m) cp hq (fun zi => nI (K zi)) oa ob st ca cb cw (fun zi => qa_fe (pt zi)) hh rr c b (qb_r pm (t * 16) 16 (qa_mix m (qa_ps M x pt w m t j) (fun _ => 0))) pp zz rm := by
  intro n
  induction n with
  | zero => intros; omega
  | succ n ih =>
    intro j c b hj hn
    by_cases h1 : j < m
    · refine br_f (nI_ge h1 (by omega)) ?_
      refine qy_dot hW hX hC hw hm ht h1 fun c1 => ?_
      refine qy_fb hm h1 fun b1 hb1 => ⟨m + 1, ?_⟩
      have i2 := ih (j + 1) c1 b1 (by omega) (by omega)
      have e : qb_r pm (t * 16) 16 (qa_mix m (qa_ps M x pt w m t (j + 1)) (fun _ => 0)) = qb_r pm (t * 16) 16 (qa_mix m (fun k => qa_mix m (qa_ps M x pt w m t j) (fun _ => 0) k + qa_rv M x w t j * qa_bs pt m j k) (qa_mix m (qa_ps M x pt w m t j) (fun _ => 0))) := by
        refine qb_c fun k _ => ?_
        by_cases q : k < m
        · rw [qa_mix_lt q, qa_mix_lt q, qa_mix_lt q]
          rfl
        · rw [qa_mix_ge (by omega), qa_mix_ge (by omega), qa_mix_ge (by omega)]
      rw [e] at i2
      have := qy_fp51 (post := post) (J := wY_fillPoly_28 post (nI t) n) (W := W) (C := C) (w := w) (m := m) (cp := cp) (hq := hq) (K := K) (oa := oa) (ob := ob) (st := st) (ca := ca) (cb := cb) (cw := cw) (hh := hh) (rr := rr) (col := c1) (bas := b1) (pm := pm) (pp := pp) (zz := zz) (rm := rm) (pt := pt) hm ht (qa_rv M x w t j) (qa_mix m (qa_ps M x pt w m t j) (fun _ => 0)) (qa_bs pt m j) hb1 i2 (m + 1) 0 (by omega) (by omega)
      rw [qa_mix_0] at this
      exact this
    · obtain rfl : j = m := by omega
      exact br_t (nI_le (Nat.le_refl _) (by omega)) (h c b)
theorem qy_fp2 {post : SY → Prop} {t : Nat} (ht : t < 3) (h : ∃ n, wY_fillPoly_28 post (nI t) n 0 (nI W) (nI C) (nI w) (nI m) cp hq (fun zi => nI (K zi)) oa ob st ca cb cw (fun zi => qa_fe (pt zi)) hh rr col bas (qb_r pm (t * 16) 16 (fun _ => 0)) pp zz rm) : ∀ n k, k ≤ 16 → 16 - k < n → wY_fillPoly_2 post (nI t) (nI W) (nI C) (nI w) (nI m) cp hq n (nI k) (fun zi => nI (K zi)) oa ob st ca cb cw (fun zi => qa_fe (pt zi)) hh rr col bas (qb_r pm (t * 16) k (fun _ => 0)) pp zz rm := by
  intro n
  induction n with
  | zero => intros; omega
  | succ n ih =>
    intro k hk hn
    by_cases h1 : k < 16
    · refine br_f (by rw [qn_16]; exact nI_ge h1 (by omega)) ?_
      rw [qn_m16, nI_add, nI_clamp (by omega), qa_0]
      exact ⟨vp_in_nI (by omega) (by omega), nm_r (qb_s pm (fun _ => 0) (t * 16) k) (nm_r (nI_1 k) (ih (k + 1) (by omega) (by omega)))⟩
    · obtain rfl : k = 16 := by omega
      exact br_t (by decide) h
theorem qy_fp {post : SY → Prop} (hW : qi_w w K L R oa ob F) (hX : qi_x w K x st) (hC : qi_c w m F M ca cb cw) (hw : w ≤ 32) (hm : m ≤ 16) {t : Nat} (ht : t < 3) (h : ∀ c b p : Nat → Int32, (∀ k, k < m → p (t * 16 + k) = qa_fe (qa_pz M x pt w m t k)) → (∀ i, i < t * 16 ∨ t * 16 + 16 ≤ i → p i = pm i) → post ((nI W), (nI C), (nI w), (nI m), cp, hq, (fun zi => nI (K zi)), oa, ob, st, ca, cb, cw, (fun zi => qa_fe (pt zi)), hh, rr, c, b, p, pp, zz, rm)) : wpY_fillPoly post ((nI W), (nI C), (nI w), (nI m), cp, hq, (fun zi => nI (K zi)), oa, ob, st, ca, cb, cw, (fun zi => qa_fe (pt zi)), hh, rr, col, bas, pm, pp, zz, rm) (nI t) := by
  have h28 := qy_fp28 (W := W) (C := C) (w := w) (m := m) (cp := cp) (hq := hq) (K := K) (oa := oa) (ob := ob) (st := st) (ca := ca) (cb := cb) (cw := cw) (hh := hh) (rr := rr) (pm := pm) (pp := pp) (zz := zz) (rm := rm) (pt := pt) hW hX hC hw hm ht (fun c b => h c b _ (fun k hk => by rw [qb_in (by omega), qa_mix_lt hk]) (fun i hi => qb_out hi)) (m + 1) 0 col bas (by omega) (by omega)
  have e : qb_r pm (t * 16) 16 (qa_mix m (qa_ps M x pt w m t 0) (fun _ => 0)) = qb_r pm (t * 16) 16 (fun _ => 0) := by
    refine qb_c fun k _ => ?_
    by_cases q : k < m
    · rw [qa_mix_lt q]
      rfl
    · rw [qa_mix_ge (by omega)]
  rw [e, nI_0] at h28
  have := qy_fp2 (post := post) (W := W) (C := C) (w := w) (m := m) (cp := cp) (hq := hq) (K := K) (oa := oa) (ob := ob) (st := st) (ca := ca) (cb := cb) (cw := cw) (hh := hh) (rr := rr) (col := col) (bas := bas) (pm := pm) (pp := pp) (zz := zz) (rm := rm) (pt := pt) ht ⟨m + 1, h28⟩ 17 0 (by omega) (by omega)
  rw [qb_0] at this
  exact ⟨17, this⟩
theorem qy_P95 {post : SY → Prop} (hm : m ≤ 16) (f z : Nat → Int) (hz : ∀ k, k < m → pm (32 + k) = qa_fe (z k)) (h : post ((nI W), (nI C), (nI w), (nI m), cp, hq, (fun zi => nI (K zi)), oa, ob, st, ca, cb, cw, (fun zi => qa_fe (pt zi)), hh, rr, col, bas, pm, (qb_r pp 0 32 (qa_mix m (fun k => f k - z k) f)), zz, rm)) : ∀ n k, k ≤ m → m - k < n → wY_fillP_95 post (nI W) (nI C) (nI w) (nI m) cp hq n (nI k) (fun zi => nI (K zi)) oa ob st ca cb cw (fun zi => qa_fe (pt zi)) hh rr col bas pm (qb_r pp 0 32 (qa_mix k (fun k => f k - z k) f)) zz rm := by
  intro n
  induction n with
  | zero => intros; omega
  | succ n ih =>
    intro k hk hn
    by_cases h1 : k < m
    · have h2 : ¬ m ≤ k := by omega
      have e1 : qb_r pp 0 32 (qa_mix k (fun k => f k - z k) f) k = qa_fe (f k) := by rw [qb_in0 (by omega), qa_mix_ge (Nat.le_refl k)]
      have e2 := qb_u0 (a := pp) (g := qa_mix k (fun k => f k - z k) f) (m := 32) (k := k) (by omega) (f k - z k)
      rw [qa_mix_s (fun k => f k - z k) f k] at e2
      simp (disch := omega) only [wY_fillP_95, h2, e1, e2, qn_32a, hz k h1, qy_sub, not_true, not_false_iff, true_implies, false_implies, true_and, and_true, forall_eq, nI_add, nI_1, nI_clamp, nI_leI, nI_ltI, nI_eq, qn_m32, qn_m16, qv_in, qx_mul, qx_add, qx_sub, qa_upd]
      exact ih (k + 1) (by omega) (by omega)
    · obtain rfl : k = m := by omega
      exact br_t (nI_le (Nat.le_refl _) (by omega)) h
theorem qy_P33 {post : SY → Prop} {J : Int32 → (Nat → Int32) → (Nat → Int32) → (Nat → Int32) → (Nat → Int32) → (Nat → Int32) → (Nat → Int32) → (Nat → Int32) → (Nat → Int32) → (Nat → Int32) → (Nat → Int32) → (Nat → Int32) → (Nat → Int32) → (Nat → Int32) → (Nat → Int32) → (Nat → Int32) → (Nat → Int32) → Prop} (hm : m ≤ 16) {i : Nat} (hi : i < m) (f A B : Nat → Int) (hA : pm i = qa_fe (A i)) (hB : ∀ k, k < m → pm (16 + k) = qa_fe (B k)) (h : J (nI (i + 1)) (fun zi => nI (K zi)) oa ob st ca cb cw (fun zi => qa_fe (pt zi)) hh rr col bas pm (qb_r pp 0 32 (fun t => f t + qa_c2 A B i m t)) zz rm) : ∀ n k, k ≤ m → m - k < n → wY_fillP_33 post J (nI i) (nI W) (nI C) (nI w) (nI m) cp hq n (nI k) (fun zi => nI (K zi)) oa ob st ca cb cw (fun zi => qa_fe (pt zi)) hh rr col bas pm (qb_r pp 0 32 (fun t => f t + qa_c2 A B i k t)) zz rm := by
  have l16 : ∀ k, (16 : Int32) + nI k = nI (16 + k) := fun k => nI_add 16 k
  intro n
  induction n with
  | zero => intros; omega
  | succ n ih =>
    intro k hk hn
    by_cases h1 : k < m
    · have h2 : ¬ m ≤ k := by omega
      have e1 : qb_r pp 0 32 (fun t => f t + qa_c2 A B i k t) (i + k) = qa_fe (f (i + k) + qa_c2 A B i k (i + k)) := qb_in0 (by omega)
      have e2 := qb_u0 (a := pp) (g := fun t => f t + qa_c2 A B i k t) (m := 32) (k := i + k) (by omega) (f (i + k) + qa_c2 A B i k (i + k) + A i * B k)
      have e : qa_uz (fun t => f t + qa_c2 A B i k t) (i + k) (f (i + k) + qa_c2 A B i k (i + k) + A i * B k) = (fun t => f t + qa_c2 A B i (k + 1) t) := by
        funext t
        unfold qa_uz
        dsimp only
        rw [qa_c2_s]
        by_cases ht : t = i + k
        · rw [if_pos ht, if_pos ht.symm, ht, Int.add_assoc]
        · rw [if_neg ht, if_neg (fun q => ht q.symm), Int.add_zero]
      rw [e] at e2
      simp (disch := omega) only [wY_fillP_33, h2, e1, e2, l16, hA, hB k h1, qy_ac, not_true, not_false_iff, true_implies, false_implies, true_and, and_true, forall_eq, nI_add, nI_1, nI_clamp, nI_leI, nI_ltI, nI_eq, qn_m32, qn_m16, qv_in, qx_mul, qx_add, qx_sub, qa_upd]
      exact ih (k + 1) (by omega) (by omega)
    · obtain rfl : k = m := by omega
      exact br_t (nI_le (Nat.le_refl _) (by omega)) (nm_r (nI_1 i) h)
theorem qy_P23 {post : SY → Prop} (hm : m ≤ 16) (A B : Nat → Int) (hA : ∀ k, k < m → pm k = qa_fe (A k)) (hB : ∀ k, k < m → pm (16 + k) = qa_fe (B k)) (h : ∃ n, wY_fillP_95 post (nI W) (nI C) (nI w) (nI m) cp hq n 0 (fun zi => nI (K zi)) oa ob st ca cb cw (fun zi => qa_fe (pt zi)) hh rr col bas pm (qb_r pp 0 32 (qa_c1 A B m m)) zz rm) : ∀ n i, i ≤ m → m - i < n → wY_fillP_23 post (nI W) (nI C) (nI w) (nI m) cp hq n (nI i) (fun zi => nI (K zi)) oa ob st ca cb cw (fun zi => qa_fe (pt zi)) hh rr col bas pm (qb_r pp 0 32 (qa_c1 A B m i)) zz rm := by
  intro n
  induction n with
  | zero => intros; omega
  | succ n ih =>
    intro i hi hn
    by_cases h1 : i < m
    · refine br_f (nI_ge h1 (by omega)) ⟨m + 1, ?_⟩
      have := qy_P33 (post := post) (J := wY_fillP_23 post (nI W) (nI C) (nI w) (nI m) cp hq n) (W := W) (C := C) (w := w) (m := m) (cp := cp) (hq := hq) (K := K) (oa := oa) (ob := ob) (st := st) (ca := ca) (cb := cb) (cw := cw) (hh := hh) (rr := rr) (col := col) (bas := bas) (pm := pm) (pp := pp) (zz := zz) (rm := rm) (pt := pt) hm h1 (qa_c1 A B m i) A B (hA i h1) hB (ih (i + 1) (by omega) (by omega)) (m + 1) 0 (by omega) (by omega)
      rw [show (fun t => qa_c1 A B m i t + qa_c2 A B i 0 t) = qa_c1 A B m i from funext fun t => Int.add_zero _] at this
      exact this
    · obtain rfl : i = m := by omega
      exact br_t (nI_le (Nat.le_refl _) (by omega)) h
theorem qy_P2 {post : SY → Prop} (h : ∃ n, wY_fillP_23 post (nI W) (nI C) (nI w) (nI m) cp hq n 0 (fun zi => nI (K zi)) oa ob st ca cb cw (fun zi => qa_fe (pt zi)) hh rr col bas pm (qb_r pp 0 32 (fun _ => 0)) zz rm) : ∀ n k, k ≤ 32 → 32 - k < n → wY_fillP_2 post (nI W) (nI C) (nI w) (nI m) cp hq n (nI k) (fun zi => nI (K zi)) oa ob st ca cb cw (fun zi => qa_fe (pt zi)) hh rr col bas pm (qb_r pp 0 k (fun _ => 0)) zz rm := by
  intro n
  induction n with
  | zero => intros; omega
  | succ n ih =>
    intro k hk hn
    by_cases h1 : k < 32
    · refine br_f (by rw [qn_32]; exact nI_ge h1 (by omega)) ⟨vp_in_nI h1 (by omega), ?_⟩
      rw [nI_clamp (by omega), qa_0]
      exact nm_r (qb_s0 pp (fun _ => 0) k) (nm_r (nI_1 k) (ih (k + 1) (by omega) (by omega)))
    · obtain rfl : k = 32 := by omega
      exact br_t (by decide) h
theorem qy_P {post : SY → Prop} (hm : m ≤ 16) (hA : ∀ k, k < m → pm k = qa_fe (qa_pz M x pt w m 0 k)) (hB : ∀ k, k < m → pm (16 + k) = qa_fe (qa_pz M x pt w m 1 k)) (hC : ∀ k, k < m → pm (32 + k) = qa_fe (qa_pz M x pt w m 2 k)) (h : ∀ p : Nat → Int32, (∀ k, k < 32 → p k = qa_fe (qa_pp M x pt w m k)) → post ((nI W), (nI C), (nI w), (nI m), cp, hq, (fun zi => nI (K zi)), oa, ob, st, ca, cb, cw, (fun zi => qa_fe (pt zi)), hh, rr, col, bas, pm, p, zz, rm)) : wpY_fillP post ((nI W), (nI C), (nI w), (nI m), cp, hq, (fun zi => nI (K zi)), oa, ob, st, ca, cb, cw, (fun zi => qa_fe (pt zi)), hh, rr, col, bas, pm, pp, zz, rm) := by
  have h95 := qy_P95 (post := post) (W := W) (C := C) (w := w) (m := m) (cp := cp) (hq := hq) (K := K) (oa := oa) (ob := ob) (st := st) (ca := ca) (cb := cb) (cw := cw) (hh := hh) (rr := rr) (col := col) (bas := bas) (pm := pm) (pp := pp) (zz := zz) (rm := rm) (pt := pt) hm (qa_c1 (qa_pz M x pt w m 0) (qa_pz M x pt w m 1) m m) (qa_pz M x pt w m 2) hC (h _ (fun k hk => by
    rw [qb_in0 hk]
    unfold qa_pp
    by_cases q : k < m
    · rw [qa_mix_lt q, if_pos q]
    · rw [qa_mix_ge (by omega), if_neg q, Int.sub_zero])) (m + 1) 0 (by omega) (by omega)
  rw [qa_mix_0, nI_0] at h95
  have h23 := qy_P23 (post := post) (W := W) (C := C) (w := w) (m := m) (cp := cp) (hq := hq) (K := K) (oa := oa) (ob := ob) (st := st) (ca := ca) (cb := cb) (cw := cw) (hh := hh) (rr := rr) (col := col) (bas := bas) (pm := pm) (pp := pp) (zz := zz) (rm := rm) (pt := pt) hm _ _ hA hB ⟨m + 1, h95⟩ (m + 1) 0 (by omega) (by omega)
  rw [nI_0] at h23
  have := qy_P2 (post := post) (W := W) (C := C) (w := w) (m := m) (cp := cp) (hq := hq) (K := K) (oa := oa) (ob := ob) (st := st) (ca := ca) (cb := cb) (cw := cw) (hh := hh) (rr := rr) (col := col) (bas := bas) (pm := pm) (pp := pp) (zz := zz) (rm := rm) (pt := pt) ⟨m + 1, h23⟩ 33 0 (by omega) (by omega)
  rw [qb_0] at this
  exact ⟨33, this⟩
theorem qy_Z42 {post : SY → Prop} {J : Int32 → (Nat → Int32) → (Nat → Int32) → (Nat → Int32) → (Nat → Int32) → (Nat → Int32) → (Nat → Int32) → (Nat → Int32) → (Nat → Int32) → (Nat → Int32) → (Nat → Int32) → (Nat → Int32) → (Nat → Int32) → (Nat → Int32) → (Nat → Int32) → (Nat → Int32) → (Nat → Int32) → Prop} {i : Nat} (hi : i < 16) (z : Nat → Int) (h : J (nI (i + 1)) (fun zi => nI (K zi)) oa ob st ca cb cw (fun zi => qa_fe (pt zi)) hh rr col bas pm pp (qb_r zz 0 17 (qa_lin (pt i) z)) rm) : ∀ c n, c ≤ 17 → c < n → wY_fillZ_42 post J (nI i) (nI W) (nI C) (nI w) (nI m) cp hq n (qx_d c) (fun zi => nI (K zi)) oa ob st ca cb cw (fun zi => qa_fe (pt zi)) hh rr col bas pm pp (qb_r zz 0 17 (qa_mix c z (qa_lin (pt i) z))) rm := by
  intro c
  induction c with
  | zero =>
    intro n _ hn
    obtain ⟨n, rfl⟩ : ∃ k, n = k + 1 := ⟨n - 1, by omega⟩
    refine br_t qx_d0 (nm_r (nI_1 i) ?_)
    rw [qa_mix_0]
    exact h
  | succ c ih =>
    intro n hc hn
    obtain ⟨n, rfl⟩ : ∃ k, n = k + 1 := ⟨n - 1, by omega⟩
    rw [qx_ds]
    refine br_f (nI_pos (by omega)) ?_
    have e1 : qb_r zz 0 17 (qa_mix (c + 1) z (qa_lin (pt i) z)) c = qa_fe (z c) := by rw [qb_in0 (by omega), qa_mix_lt (by omega)]
    have e3 := qb_u0 (a := zz) (g := qa_mix (c + 1) z (qa_lin (pt i) z)) (m := 17) (k := c) (by omega) (qa_lin (pt i) z c)
    rw [qa_mix_d] at e3
    have i2 := ih n (by omega) (by omega)
    by_cases h0 : c = 0
    · subst h0
      refine br_t (by decide) ?_
      unfold wY_fillZ_62
      refine ⟨vp_in_nI (by omega) (by omega), vp_in_nI (by omega) (by omega), ?_⟩
      rw [nI_clamp (by omega), nI_clamp (by omega), e1, qa_0, qy_sc, ← qa_lin0]
      exact ⟨vp_in_nI (by omega) (by omega), nm_r e3 (nm_r (qx_dm 0) i2)⟩
    · obtain ⟨c, rfl⟩ : ∃ q, c = q + 1 := ⟨c - 1, by omega⟩
      have e0 : nI (c + 1) - 1 = nI c := nI_pred c
      have e2 : qb_r zz 0 17 (qa_mix (c + 1 + 1) z (qa_lin (pt i) z)) c = qa_fe (z c) := by rw [qb_in0 (by omega), qa_mix_lt (by omega)]
      refine br_f (nI_nle (by omega) (by omega)) ?_
      rw [e0, nI_clamp (by omega), e2]
      unfold wY_fillZ_62
      refine ⟨vp_in_nI (by omega) (by omega), vp_in_nI (by omega) (by omega), vp_in_nI (by omega) (by omega), ?_⟩
      rw [nI_clamp (by omega), nI_clamp (by omega), e1, qy_sc, ← qa_linS]
      exact ⟨vp_in_nI (by omega) (by omega), nm_r e3 (nm_r (qx_dm (c + 1)) i2)⟩
theorem qy_Z30 {post : SY → Prop} (hm : m ≤ 16) (h : post ((nI W), (nI C), (nI w), (nI m), cp, hq, (fun zi => nI (K zi)), oa, ob, st, ca, cb, cw, (fun zi => qa_fe (pt zi)), hh, rr, col, bas, pm, pp, (qb_r zz 0 17 (qa_zp pt m)), rm)) : ∀ n i, i ≤ m → m - i < n → wY_fillZ_30 post (nI W) (nI C) (nI w) (nI m) cp hq n (nI i) (fun zi => nI (K zi)) oa ob st ca cb cw (fun zi => qa_fe (pt zi)) hh rr col bas pm pp (qb_r zz 0 17 (qa_zp pt i)) rm := by
  intro n
  induction n with
  | zero => intros; omega
  | succ n ih =>
    intro i hi hn
    by_cases h1 : i < m
    · refine br_f (nI_ge h1 (by omega)) (nm_r (nI_1 i) ⟨19, ?_⟩)
      have := qy_Z42 (post := post) (J := wY_fillZ_30 post (nI W) (nI C) (nI w) (nI m) cp hq n) (W := W) (C := C) (w := w) (m := m) (cp := cp) (hq := hq) (K := K) (oa := oa) (ob := ob) (st := st) (ca := ca) (cb := cb) (cw := cw) (hh := hh) (rr := rr) (col := col) (bas := bas) (pm := pm) (pp := pp) (zz := zz) (rm := rm) (pt := pt) (show i < 16 by omega) (qa_zp pt i) (ih (i + 1) (by omega) (by omega)) (i + 2) 19 (by omega) (by omega)
      rw [qx_ds, qb_c (g' := qa_zp pt i) (fun k hk => ?_)] at this
      · exact this
      · by_cases q : k < i + 2
        · rw [qa_mix_lt q]
        · rw [qa_mix_ge (by omega), qa_zp_deg pt i k (by omega), qa_lin_deg (qa_zp_deg pt i) k (by omega)]
    · obtain rfl : i = m := by omega
      exact br_t (nI_le (Nat.le_refl _) (by omega)) h
theorem qy_Z2 {post : SY → Prop} (h : ∃ n, wY_fillZ_30 post (nI W) (nI C) (nI w) (nI m) cp hq n 0 (fun zi => nI (K zi)) oa ob st ca cb cw (fun zi => qa_fe (pt zi)) hh rr col bas pm pp (qb_r zz 0 17 qa_one) rm) : ∀ n k, k ≤ 17 → 17 - k < n → wY_fillZ_2 post (nI W) (nI C) (nI w) (nI m) cp hq n (nI k) (fun zi => nI (K zi)) oa ob st ca cb cw (fun zi => qa_fe (pt zi)) hh rr col bas pm pp (qb_r zz 0 k (fun _ => 0)) rm := by
  have l : (17 : Int32) = nI 17 := by decide
  intro n
  induction n with
  | zero => intros; omega
  | succ n ih =>
    intro k hk hn
    by_cases h1 : k < 17
    · refine br_f (by rw [l]; exact nI_ge h1 (by omega)) ⟨vp_in_nI h1 (by omega), ?_⟩
      rw [nI_clamp (by omega), qa_0]
      exact nm_r (qb_s0 zz (fun _ => 0) k) (nm_r (nI_1 k) (ih (k + 1) (by omega) (by omega)))
    · obtain rfl : k = 17 := by omega
      refine br_t (by decide) (nm_r ?_ h)
      have := qb_u0 (a := zz) (g := fun _ => 0) (m := 17) (k := 0) (by omega) 1
      rw [← qa_1] at this
      rw [this]
      refine qb_c fun i hi => ?_
      unfold qa_uz qa_one
      rfl
theorem qy_Z {post : SY → Prop} (hm : m ≤ 16) (h : ∀ z : Nat → Int32, (∀ k, k < 17 → z k = qa_fe (qa_zp pt m k)) → post ((nI W), (nI C), (nI w), (nI m), cp, hq, (fun zi => nI (K zi)), oa, ob, st, ca, cb, cw, (fun zi => qa_fe (pt zi)), hh, rr, col, bas, pm, pp, z, rm)) : wpY_fillZ post ((nI W), (nI C), (nI w), (nI m), cp, hq, (fun zi => nI (K zi)), oa, ob, st, ca, cb, cw, (fun zi => qa_fe (pt zi)), hh, rr, col, bas, pm, pp, zz, rm) := by
  have h30 := qy_Z30 (W := W) (C := C) (w := w) (m := m) (cp := cp) (hq := hq) (K := K) (oa := oa) (ob := ob) (st := st) (ca := ca) (cb := cb) (cw := cw) (hh := hh) (rr := rr) (col := col) (bas := bas) (pm := pm) (pp := pp) (zz := zz) (rm := rm) (pt := pt) hm (h _ (fun k hk => qb_in0 hk)) (m + 1) 0 (by omega) (by omega)
  rw [nI_0] at h30
  have := qy_Z2 (post := post) (W := W) (C := C) (w := w) (m := m) (cp := cp) (hq := hq) (K := K) (oa := oa) (ob := ob) (st := st) (ca := ca) (cb := cb) (cw := cw) (hh := hh) (rr := rr) (col := col) (bas := bas) (pm := pm) (pp := pp) (zz := zz) (rm := rm) (pt := pt) ⟨m + 1, h30⟩ 18 0 (by omega) (by omega)
  rw [qb_0] at this
  exact ⟨18, this⟩
end QY
