section QY
variable {W C w m : Nat} {cp hq : Int32} {K : Nat → Nat} {L R oa ob st ca cb cw hh rr col bas pm pp zz rm : Nat → Int32} {x F M pt : Nat → Int}
theorem qy_form_l {post : Int32 → SY → Prop} (hW : qi_w w K L R oa ob F) (hw : w ≤ 32) {a v : Nat} (ha : a < w) (hv : v < 32) (h : ∀ c : Nat → Int32, post (qa_fe (F (a * 32 + v))) ((nI W), (nI C), (nI w), (nI m), cp, hq, (fun zi => nI (K zi)), oa, ob, st, ca, cb, cw, (fun zi => qa_fe (pt zi)), hh, rr, c, bas, pm, pp, zz, rm)) : ∀ n i (c : Nat → Int32), i ≤ a + 1 → a + 1 - i < n → (∀ b, b < i → c b = qa_fe (F (b * 32 + v))) → wY_form_2 post (nI a) (nI v) (nI W) (nI C) (nI w) (nI m) cp hq n (nI i) (fun zi => nI (K zi)) oa ob st ca cb cw (fun zi => qa_fe (pt zi)) hh rr c bas pm pp zz rm := by
  have l2 : (2 : Int32) = nI 2 := by decide
  have l4 : (4 : Int32) = nI 4 := by decide
  intro n
  induction n with
  | zero => intros; omega
  | succ n ih =>
    intro i c hi hn hI
    by_cases h1 : i ≤ a
    · have h2 : ¬ a < i := by omega
      have h3 : ¬ (32 : Int32) ≤ nI i := by rw [qn_32]; exact nI_ge (by omega) (by omega)
      have step : ∀ z : Int, z = F (i * 32 + v) → wY_form_2 post (nI a) (nI v) (nI W) (nI C) (nI w) (nI m) cp hq n (nI (i + 1)) (fun zi => nI (K zi)) oa ob st ca cb cw (fun zi => qa_fe (pt zi)) hh rr (upd c i (qa_fe z)) bas pm pp zz rm := by
        intro z ez
        refine ih (i + 1) _ (by omega) (by omega) fun b hb => ?_
        by_cases e : b = i
        · rw [e, pk_us, ez]
        · rw [pk_un e]
          exact hI b (by omega)
      rcases hW.1 i (by omega) with ⟨k, a', b', h4, h5, e1, e2, e3⟩ | ⟨k, a', d, h4, e1, e2, e3⟩ | ⟨k, e3⟩
      · have k2 : (nI (K i) = 2) = True := eq_true (by rw [k]; decide)
        simp (disch := omega) only [wY_form_2, h2, h3, k2, e1, e2, hI a' h4, hI b' h5, qy_add, not_true, not_false_iff, true_implies, false_implies, true_and, and_true, forall_eq, nI_add, nI_1, nI_clamp, nI_leI, nI_ltI, nI_eq, qn_m32, qn_m16, qv_in, qx_mul, qx_add, qx_sub, qa_upd]
        exact step _ (e3 v hv).symm
      · have k2 : (nI (K i) = 2) = False := eq_false (by rw [k]; decide)
        have k4 : (nI (K i) = 4) = True := eq_true (by rw [k]; decide)
        simp (disch := omega) only [wY_form_2, h2, h3, k2, k4, e1, e2, hI a' h4, qy_mul, not_true, not_false_iff, true_implies, false_implies, true_and, and_true, forall_eq, nI_add, nI_1, nI_clamp, nI_leI, nI_ltI, nI_eq, qn_m32, qn_m16, qv_in, qx_mul, qx_add, qx_sub, qa_upd]
        exact step _ (e3 v hv).symm
      · have kk : K i ≠ 2 ∧ K i ≠ 4 ∧ K i < 5 := by
          rcases k with k | k | k
          · rw [k.1]; decide
          · rw [k]; decide
          · rw [k]; decide
        have k2 : (nI (K i) = 2) = False := eq_false (by rw [l2, nI_eq (by omega) (by omega)]; exact kk.1)
        have k4 : (nI (K i) = 4) = False := eq_false (by rw [l4, nI_eq (by omega) (by omega)]; exact kk.2.1)
        by_cases e : i = v
        · have e4 : (i = v) = True := eq_true e
          simp (disch := omega) only [wY_form_2, h2, h3, k2, k4, e4, not_true, not_false_iff, true_implies, false_implies, true_and, and_true, forall_eq, nI_add, nI_1, nI_clamp, nI_leI, nI_ltI, nI_eq, qn_m32, qn_m16, qv_in, qx_mul, qx_add, qx_sub, qa_upd]
          rw [qa_1]
          exact step 1 (by rw [e3 v hv, if_pos e])
        · have e4 : (i = v) = False := eq_false e
          simp (disch := omega) only [wY_form_2, h2, h3, k2, k4, e4, not_true, not_false_iff, true_implies, false_implies, true_and, and_true, forall_eq, nI_add, nI_1, nI_clamp, nI_leI, nI_ltI, nI_eq, qn_m32, qn_m16, qv_in, qx_mul, qx_add, qx_sub, qa_upd]
          rw [qa_0]
          exact step 0 (by rw [e3 v hv, if_neg e])
    · obtain rfl : i = a + 1 := by omega
      refine br_t (nI_lt (by omega) (by omega)) ⟨vp_in_nI (by omega) (by omega), ?_⟩
      rw [nI_clamp (by omega), hI a (by omega)]
      exact h c
theorem qy_form {post : Int32 → SY → Prop} (hW : qi_w w K L R oa ob F) (hw : w ≤ 32) {a v : Nat} (ha : a < w) (hv : v < 32) (h : ∀ c : Nat → Int32, post (qa_fe (F (a * 32 + v))) ((nI W), (nI C), (nI w), (nI m), cp, hq, (fun zi => nI (K zi)), oa, ob, st, ca, cb, cw, (fun zi => qa_fe (pt zi)), hh, rr, c, bas, pm, pp, zz, rm)) : wpY_form post ((nI W), (nI C), (nI w), (nI m), cp, hq, (fun zi => nI (K zi)), oa, ob, st, ca, cb, cw, (fun zi => qa_fe (pt zi)), hh, rr, col, bas, pm, pp, zz, rm) (nI a) (nI v) :=
  ⟨a + 2, qy_form_l hW hw ha hv h (a + 2) 0 col (by omega) (by omega) (fun b hb => by omega)⟩
theorem qy_var {post : Int32 → Prop} (hW : qi_w w K L R oa ob F) (hw : w ≤ 32) {v : Nat} (hv : v < w) (h1 : K v ≠ 2 → K v ≠ 4 → post 1) (h0 : K v = 2 ∨ K v = 4 → post 0) : wpY_isVar post ((nI W), (nI C), (nI w), (nI m), cp, hq, (fun zi => nI (K zi)), oa, ob, st, ca, cb, cw, (fun zi => qa_fe (pt zi)), hh, rr, col, bas, pm, pp, zz, rm) (nI v) := by
  have vi : vp_in (nI v) 32 := vp_in_nI (by omega) (by omega)
  have cl : (nI v).toNatClampNeg = v := nI_clamp (by omega)
  unfold wpY_isVar
  dsimp only
  rw [cl]
  rcases qi_var hW hv with k | k | k | k | k
  · exact ⟨vi, br_t (by rw [k]; decide) (h1 (by omega) (by omega))⟩
  · exact ⟨vi, br_f (by rw [k]; decide) ⟨vi, br_t (by rw [k]; decide) (h1 (by omega) (by omega))⟩⟩
  · exact ⟨vi, br_f (by rw [k]; decide) ⟨vi, br_f (by rw [k]; decide) ⟨vi, br_f (by rw [k]; decide) (h0 (Or.inl k))⟩⟩⟩
  · exact ⟨vi, br_f (by rw [k]; decide) ⟨vi, br_f (by rw [k]; decide) ⟨vi, br_t (by rw [k]; decide) (h1 (by omega) (by omega))⟩⟩⟩
  · exact ⟨vi, br_f (by rw [k]; decide) ⟨vi, br_f (by rw [k]; decide) ⟨vi, br_f (by rw [k]; decide) (h0 (Or.inr k))⟩⟩⟩
theorem qy_val_l {post : Int32 → SY → Prop} (hW : qi_w w K L R oa ob F) (hX : qi_x w K x st) (hw : w ≤ 32) {a : Nat} (ha : a < w) (h : ∀ c : Nat → Int32, post (qa_fe (qa_wv F x w a)) ((nI W), (nI C), (nI w), (nI m), cp, hq, (fun zi => nI (K zi)), oa, ob, st, ca, cb, cw, (fun zi => qa_fe (pt zi)), hh, rr, c, bas, pm, pp, zz, rm)) : ∀ n v (c : Nat → Int32), v ≤ w → w - v < n → wY_value_4 post (nI a) n (qa_fe (qa_sm (fun v => F (a * 32 + v) * x v) v)) (nI v) (nI W) (nI C) (nI w) (nI m) cp hq (fun zi => nI (K zi)) oa ob st ca cb cw (fun zi => qa_fe (pt zi)) hh rr c bas pm pp zz rm := by
  intro n
  induction n with
  | zero => intros; omega
  | succ n ih =>
    intro v c hv hn
    by_cases z : v < w
    · refine br_f (nI_ge z (by omega)) ?_
      refine qy_var hW hw z (fun n2 n4 => ?_) (fun k => ?_)
      · refine br_f (by decide) ?_
        refine qy_form hW hw ha (by omega) fun c' => ?_
        by_cases e : v = 0
        · refine br_t (by rw [e]; rfl) ?_
          unfold wY_value_42
          rw [qa_1, qy_ac]
          refine nm_r (nI_1 v) ?_
          have := ih (v + 1) c' (by omega) (by omega)
          rw [qa_sm] at this
          rw [show x v = 1 by rw [e]; exact hX.1] at this
          exact this
        · refine br_f (nI_ne0 (by omega) (by omega)) ⟨vp_in_nI (by omega) (by omega), ?_⟩
          rw [nI_clamp (by omega), hX.2.1 v (by omega) (by omega)]
          unfold wY_value_42
          rw [qy_ac]
          exact nm_r (nI_1 v) (ih (v + 1) c' (by omega) (by omega))
      · refine br_t rfl (nm_r (nI_1 v) ?_)
        have := ih (v + 1) c (by omega) (by omega)
        rw [qa_sm] at this
        rw [hX.2.2 v (by omega) (Or.inr k), Int.mul_zero, Int.add_zero] at this
        exact this
    · obtain rfl : v = w := by omega
      exact br_t (nI_le (Nat.le_refl _) (by omega)) (h c)
theorem qy_val {post : Int32 → SY → Prop} (hW : qi_w w K L R oa ob F) (hX : qi_x w K x st) (hw : w ≤ 32) {a : Nat} (ha : a < w) (h : ∀ c : Nat → Int32, post (qa_fe (qa_wv F x w a)) ((nI W), (nI C), (nI w), (nI m), cp, hq, (fun zi => nI (K zi)), oa, ob, st, ca, cb, cw, (fun zi => qa_fe (pt zi)), hh, rr, c, bas, pm, pp, zz, rm)) : wpY_value post ((nI W), (nI C), (nI w), (nI m), cp, hq, (fun zi => nI (K zi)), oa, ob, st, ca, cb, cw, (fun zi => qa_fe (pt zi)), hh, rr, col, bas, pm, pp, zz, rm) (nI a) :=
  ⟨w + 1, qy_val_l hW hX hw ha h (w + 1) 0 col (by omega) (by omega)⟩
theorem qy_ent {post : Int32 → SY → Prop} (hW : qi_w w K L R oa ob F) (hC : qi_c w m F M ca cb cw) (hw : w ≤ 32) (hm : m ≤ 16) {t j v : Nat} (ht : t < 3) (hj : j < m) (hv : v < 32) (h : ∀ c : Nat → Int32, post (qa_fe (M (qa_mi t j v))) ((nI W), (nI C), (nI w), (nI m), cp, hq, (fun zi => nI (K zi)), oa, ob, st, ca, cb, cw, (fun zi => qa_fe (pt zi)), hh, rr, c, bas, pm, pp, zz, rm)) : wpY_entry post ((nI W), (nI C), (nI w), (nI m), cp, hq, (fun zi => nI (K zi)), oa, ob, st, ca, cb, cw, (fun zi => qa_fe (pt zi)), hh, rr, col, bas, pm, pp, zz, rm) (nI t) (nI j) (nI v) := by
  have vi : vp_in (nI j) 16 := vp_in_nI (by omega) (by omega)
  have cl : (nI j).toNatClampNeg = j := nI_clamp (by omega)
  obtain ⟨a, b, ha, hb, e1, e2, hR⟩ := hC.1 j hj
  have ht' : t = 0 ∨ t = 1 ∨ t = 2 := by omega
  unfold wpY_entry
  dsimp only
  rw [cl, e1, e2]
  rcases hR with ⟨c, hc, e3, hM⟩ | ⟨e3, hM⟩
  · obtain ⟨m0, m1, m2⟩ := hM v hv
    rw [e3]
    refine ⟨vi, br_f (nI_pos (by omega)) ?_⟩
    rcases ht' with rfl | rfl | rfl
    · rw [m0] at h
      exact br_t (by decide) ⟨vi, qy_form hW hw ha hv h⟩
    · rw [m1] at h
      exact br_f (by decide) (br_t (by decide) ⟨vi, qy_form hW hw hb hv h⟩)
    · rw [m2] at h
      refine br_f (by decide) (br_f (by decide) ⟨vi, ?_⟩)
      by_cases e : v = c
      · rw [if_pos e, ← qa_1] at h
        exact br_t (by rw [e]) (h col)
      · rw [if_neg e, ← qa_0] at h
        exact br_f (by rw [nI_eq (by omega) (by omega)]; exact e) (h col)
  · obtain ⟨m0, m1, m2⟩ := hM v hv
    rw [e3]
    refine ⟨vi, br_t (by decide) ?_⟩
    rcases ht' with rfl | rfl | rfl
    · rw [m0] at h
      refine br_t (by decide) ⟨vi, qy_form hW hw ha hv fun c => ⟨vi, ?_⟩⟩
      dsimp only
      rw [e2]
      refine qy_form hW hw hb hv fun c' => ?_
      dsimp only
      rw [qy_sub]
      exact h c'
    · rw [m1] at h
      refine br_f (by decide) (br_t (by decide) ?_)
      by_cases e : v = 0
      · rw [if_pos e, ← qa_1] at h
        exact br_t (by rw [e]; rfl) (h col)
      · rw [if_neg e, ← qa_0] at h
        exact br_f (nI_ne0 (by omega) (by omega)) (h col)
    · rw [m2, ← qa_0] at h
      exact br_f (by decide) (br_f (by decide) (h col))
theorem qy_dot_l {post : Int32 → SY → Prop} (hW : qi_w w K L R oa ob F) (hX : qi_x w K x st) (hC : qi_c w m F M ca cb cw) (hw : w ≤ 32) (hm : m ≤ 16) {t j : Nat} (ht : t < 3) (hj : j < m) (h : ∀ c : Nat → Int32, post (qa_fe (qa_rv M x w t j)) ((nI W), (nI C), (nI w), (nI m), cp, hq, (fun zi => nI (K zi)), oa, ob, st, ca, cb, cw, (fun zi => qa_fe (pt zi)), hh, rr, c, bas, pm, pp, zz, rm)) : ∀ n v (c : Nat → Int32), v ≤ w → w - v < n → wY_dot_5 post (nI t) (nI j) n (qa_fe (qa_sm (fun v => M (qa_mi t j v) * x v) v)) (nI v) (nI W) (nI C) (nI w) (nI m) cp hq (fun zi => nI (K zi)) oa ob st ca cb cw (fun zi => qa_fe (pt zi)) hh rr c bas pm pp zz rm := by
  intro n
  induction n with
  | zero => intros; omega
  | succ n ih =>
    intro v c hv hn
    by_cases z : v < w
    · refine br_f (nI_ge z (by omega)) ?_
      refine qy_var hW hw z (fun n2 n4 => ?_) (fun k => ?_)
      · refine br_f (by decide) ?_
        refine qy_ent hW hC hw hm ht hj (by omega) fun c' => ?_
        by_cases e : v = 0
        · refine br_t (by rw [e]; rfl) ?_
          unfold wY_dot_49
          rw [qa_1, qy_ac]
          refine nm_r (nI_1 v) ?_
          have := ih (v + 1) c' (by omega) (by omega)
          rw [qa_sm] at this
          rw [show x v = 1 by rw [e]; exact hX.1] at this
          exact this
        · refine br_f (nI_ne0 (by omega) (by omega)) ⟨vp_in_nI (by omega) (by omega), ?_⟩
          rw [nI_clamp (by omega), hX.2.1 v (by omega) (by omega)]
          unfold wY_dot_49
          rw [qy_ac]
          exact nm_r (nI_1 v) (ih (v + 1) c' (by omega) (by omega))
      · refine br_t rfl (nm_r (nI_1 v) ?_)
        have := ih (v + 1) c (by omega) (by omega)
        rw [qa_sm] at this
        rw [hX.2.2 v (by omega) (Or.inr k), Int.mul_zero, Int.add_zero] at this
        exact this
    · obtain rfl : v = w := by omega
      exact br_t (nI_le (Nat.le_refl _) (by omega)) (h c)
theorem qy_dot {post : Int32 → SY → Prop} (hW : qi_w w K L R oa ob F) (hX : qi_x w K x st) (hC : qi_c w m F M ca cb cw) (hw : w ≤ 32) (hm : m ≤ 16) {t j : Nat} (ht : t < 3) (hj : j < m) (h : ∀ c : Nat → Int32, post (qa_fe (qa_rv M x w t j)) ((nI W), (nI C), (nI w), (nI m), cp, hq, (fun zi => nI (K zi)), oa, ob, st, ca, cb, cw, (fun zi => qa_fe (pt zi)), hh, rr, c, bas, pm, pp, zz, rm)) : wpY_dot post ((nI W), (nI C), (nI w), (nI m), cp, hq, (fun zi => nI (K zi)), oa, ob, st, ca, cb, cw, (fun zi => qa_fe (pt zi)), hh, rr, col, bas, pm, pp, zz, rm) (nI t) (nI j) :=
  ⟨w + 1, qy_dot_l hW hX hC hw hm ht hj h (w + 1) 0 col (by omega) (by omega)⟩
theorem qy_sat_l {post : Int32 → SY → Prop} (hW : qi_w w K L R oa ob F) (hX : qi_x w K x st) (hC : qi_c w m F M ca cb cw) (hw : w ≤ 32) (hm : m ≤ 16) (h1 : qa_sat M x w m → ∀ c : Nat → Int32, post 1 ((nI W), (nI C), (nI w), (nI m), cp, hq, (fun zi => nI (K zi)), oa, ob, st, ca, cb, cw, (fun zi => qa_fe (pt zi)), hh, rr, c, bas, pm, pp, zz, rm)) (h0 : ¬ qa_sat M x w m → ∀ c : Nat → Int32, post 0 ((nI W), (nI C), (nI w), (nI m), cp, hq, (fun zi => nI (K zi)), oa, ob, st, ca, cb, cw, (fun zi => qa_fe (pt zi)), hh, rr, c, bas, pm, pp, zz, rm)) : ∀ n j (c : Nat → Int32), j ≤ m → m - j < n → (∀ i, i < j → qa_fe (qa_rv M x w 0 i * qa_rv M x w 1 i) = qa_fe (qa_rv M x w 2 i)) → wY_satisfied_2 post n (nI j) (nI W) (nI C) (nI w) (nI m) cp hq (fun zi => nI (K zi)) oa ob st ca cb cw (fun zi => qa_fe (pt zi)) hh rr c bas pm pp zz rm := by
  intro n
  induction n with
  | zero => intros; omega
  | succ n ih =>
    intro j c hj hn hI
    by_cases z : j < m
    · refine br_f (nI_ge z (by omega)) ?_
      refine qy_dot (t := 0) hW hX hC hw hm (by omega) z fun c1 => ?_
      refine qy_dot (t := 1) hW hX hC hw hm (by omega) z fun c2 => ?_
      refine qy_dot (t := 2) hW hX hC hw hm (by omega) z fun c3 => ?_
      dsimp only
      rw [qy_mul]
      by_cases e : qa_fe (qa_rv M x w 0 j * qa_rv M x w 1 j) = qa_fe (qa_rv M x w 2 j)
      · refine br_t e (nm_r (nI_1 j) ?_)
        refine ih (j + 1) c3 (by omega) (by omega) fun i hi => ?_
        by_cases q : i = j
        · rw [q]; exact e
        · exact hI i (by omega)
      · exact br_f e (h0 (fun q => e (q j z)) c3)
    · obtain rfl : j = m := by omega
      exact br_t (nI_le (Nat.le_refl _) (by omega)) (h1 hI c)
theorem qy_sat {post : Int32 → SY → Prop} (hW : qi_w w K L R oa ob F) (hX : qi_x w K x st) (hC : qi_c w m F M ca cb cw) (hw : w ≤ 32) (hm : m ≤ 16) (h1 : qa_sat M x w m → ∀ c : Nat → Int32, post 1 ((nI W), (nI C), (nI w), (nI m), cp, hq, (fun zi => nI (K zi)), oa, ob, st, ca, cb, cw, (fun zi => qa_fe (pt zi)), hh, rr, c, bas, pm, pp, zz, rm)) (h0 : ¬ qa_sat M x w m → ∀ c : Nat → Int32, post 0 ((nI W), (nI C), (nI w), (nI m), cp, hq, (fun zi => nI (K zi)), oa, ob, st, ca, cb, cw, (fun zi => qa_fe (pt zi)), hh, rr, c, bas, pm, pp, zz, rm)) : wpY_satisfied post ((nI W), (nI C), (nI w), (nI m), cp, hq, (fun zi => nI (K zi)), oa, ob, st, ca, cb, cw, (fun zi => qa_fe (pt zi)), hh, rr, col, bas, pm, pp, zz, rm) :=
  ⟨m + 1, qy_sat_l hW hX hC hw hm h1 h0 (m + 1) 0 col (by omega) (by omega) (fun i hi => by omega)⟩
theorem qy_inv_l {post : Int32 → Prop} (a : Int) (h : post (qa_fe (qa_iv a))) : ∀ n i, i ≤ 31 → 31 - i < n → wY_inv_11 post 2147483645 (nI W) (nI C) (nI w) (nI m) cp hq (fun zi => nI (K zi)) oa ob st ca cb cw (fun zi => qa_fe (pt zi)) hh rr col bas pm pp zz rm n (qa_fe (qa_pw a i).1) (qa_fe (qa_pw a i).2) (nI i) := by
  have l : (31 : Int32) = nI 31 := by decide
  intro n
  induction n with
  | zero => intros; omega
  | succ n ih =>
    intro i hi hn
    by_cases h1 : i < 31
    · have h2 : ¬ (31 : Int32) ≤ nI i := by rw [l]; exact nI_ge h1 (by omega)
      have i2 := ih (i + 1) (by omega) (by omega)
      by_cases hb : (((2147483645 : Int32) >>> (nI i &&& 31)) &&& 1) = 1
      · refine br_f h2 (br_t hb ?_)
        rw [qy_mul]
        unfold wY_inv_39
        rw [qy_mul]
        rw [qa_pw, if_pos hb] at i2
        exact nm_r (nI_1 i) i2
      · refine br_f h2 (br_f hb ?_)
        unfold wY_inv_39
        rw [qy_mul]
        rw [qa_pw, if_neg hb] at i2
        exact nm_r (nI_1 i) i2
    · obtain rfl : i = 31 := by omega
      exact br_t (by decide) h
theorem qy_inv {post : Int32 → Prop} (a : Int) (h : post (qa_fe (qa_iv a))) : wpY_inv post ((nI W), (nI C), (nI w), (nI m), cp, hq, (fun zi => nI (K zi)), oa, ob, st, ca, cb, cw, (fun zi => qa_fe (pt zi)), hh, rr, col, bas, pm, pp, zz, rm) (qa_fe a) := by
  have := qy_inv_l (W := W) (C := C) (w := w) (m := m) (cp := cp) (hq := hq) (K := K) (oa := oa) (ob := ob) (st := st) (ca := ca) (cb := cb) (cw := cw) (hh := hh) (rr := rr) (col := col) (bas := bas) (pm := pm) (pp := pp) (zz := zz) (rm := rm) (pt := pt) a h 32 0 (by omega) (by omega)
  rw [qa_pw, ← qa_1, nI_0] at this
  exact ⟨32, this⟩
end QY
