def qj_h (cp hq : Int32) (w m : Nat) (M x pt P : Nat → Int) : Prop := hq = 0 ∨ (hq = 1 ∧ cp = 1 ∧ ∀ k, k < 32 → P (160 + k) = qa_hh (qa_zp pt m) (qa_pp M x pt w m) m k ∧ P (192 + k) = qa_rr (qa_zp pt m) (qa_pp M x pt w m) m k)
def qj_k (w : Nat) (K : Nat → Nat) (L R : Nat → Int32) : Prop := (∀ i, i < w → K i < 5) ∧ (∀ i, i < w → K i = 3 → ∃ a b, a < 32 ∧ b < 32 ∧ L i = nI a ∧ R i = nI b)
def qj_d (pt : Nat → Int) : Prop := ∀ i j, i < 8 → j < 8 → i ≠ j → qa_fe (pt i) ≠ qa_fe (pt j)
def qj_p (w m : Nat) (cp hq : Int32) (K : Nat → Nat) (L R : Nat → Int32) (x M pt B P : Nat → Int) : Prop := 1 ≤ w ∧ w ≤ 16 ∧ m ≤ 8 ∧ qj_k w K L R ∧ qj_d pt ∧ qi_q cp w m M x pt B P ∧ qj_h cp hq w m M x pt P
def qj_I (u : St2) : Prop := ∃ (w m : Nat) (cp hq : Int32) (K : Nat → Nat) (L R : Nat → Int32) (x F M pt B P : Nat → Int), u = ((nI 16), (nI 8), (nI w), (nI m), cp, hq, (fun zi => nI (K zi)), L, R, (fun zi => qa_fe (x zi)), (fun zi => qa_fe (F zi)), (fun zi => qa_fe (M zi)), (fun zi => qa_fe (pt zi)), (fun zi => qa_fe (B zi)), (fun zi => qa_fe (P zi))) ∧ qj_p w m cp hq K L R x M pt B P
section QJ
variable {w m : Nat} {cp hq : Int32} {K : Nat → Nat} {L R : Nat → Int32} {x F M pt B P : Nat → Int}
theorem qj_mk (h : qj_p w m cp hq K L R x M pt B P) : qj_I ((nI 16), (nI 8), (nI w), (nI m), cp, hq, (fun zi => nI (K zi)), L, R, (fun zi => qa_fe (x zi)), (fun zi => qa_fe (F zi)), (fun zi => qa_fe (M zi)), (fun zi => qa_fe (pt zi)), (fun zi => qa_fe (B zi)), (fun zi => qa_fe (P zi))) := ⟨w, m, cp, hq, K, L, R, x, F, M, pt, B, P, rfl, h⟩
theorem qi_cp (hQ : qi_q cp w m M x pt B P) : cp = 0 ∨ cp = 1 := hQ.elim (fun z => Or.inl z.1) (fun z => Or.inr z.1)
theorem qi_q0 {w' m' : Nat} {M' x' pt' B' : Nat → Int} (hQ : qi_q 0 w m M x pt B P) : qi_q 0 w' m' M' x' pt' B' P := hQ.elim (fun z => Or.inl z) (fun z => absurd z.1 (by decide))
theorem qj_h0 {w' m' : Nat} {M' x' pt' P' : Nat → Int} (hH : qj_h 0 hq w m M x pt P) : qj_h 0 hq w' m' M' x' pt' P' := hH.elim (fun z => Or.inl z) (fun z => absurd z.2.1 (by decide))
theorem qj_ks (hk : qj_k w K L R) (kd : Nat) (h5 : kd < 5) {L' R' : Nat → Int32} (hL : ∀ i, i < w → L' i = L i) (hR : ∀ i, i < w → R' i = R i) (h3 : kd = 3 → ∃ a b, a < 32 ∧ b < 32 ∧ L' w = nI a ∧ R' w = nI b) : qj_k (w + 1) (qa_un K w kd) L' R' := by
  refine ⟨fun i hi => ?_, fun i hi e => ?_⟩
  · by_cases q : i = w
    · rw [q, qa_uns]; exact h5
    · rw [qa_unn q]; exact hk.1 i (by omega)
  · by_cases q : i = w
    · rw [q, qa_uns] at e
      rw [q]
      exact h3 e
    · rw [qa_unn q] at e
      rw [hL i (by omega), hR i (by omega)]
      exact hk.2 i (by omega) e
theorem qj_addInput {post : Int32 → St2 → Prop} {u : St2} (I : qj_I u) (h : ∀ r u', qj_I u' → post r u') : wpX_addInput post u := by
  obtain ⟨w, m, cp, hq, K, L, R, x, F, M, pt, B, P, rfl, I⟩ := I
  have s := qj_mk (F := F) I
  obtain ⟨n1, n2, n3, hk, hd, hQ, hH⟩ := I
  rcases qi_cp hQ with rfl | rfl
  · by_cases e : w = 16
    · subst e
      exact br_t rfl (br_t rfl (h _ _ s))
    · refine br_t rfl (br_f (by rw [nI_eq (by omega) (by omega)]; exact e) (qx_mv (by omega) 1 (h _ _ ?_)))
      exact qj_mk ⟨by omega, by omega, n3, qj_ks hk 1 (by omega) (fun _ _ => rfl) (fun _ _ => rfl) (fun e => absurd e (by omega)), hd, qi_q0 hQ, qj_h0 hH⟩
  · exact br_f (by decide) (h _ _ s)
theorem qj_addGate {post : Int32 → St2 → Prop} {u : St2} (I : qj_I u) (v1 v2 v3 : Int32) (h : ∀ r u', qj_I u' → post r u') : wpX_addGate post u v1 v2 v3 := by
  obtain ⟨w, m, cp, hq, K, L, R, x, F, M, pt, B, P, rfl, I⟩ := I
  have s := qj_mk (F := F) I
  obtain ⟨n1, n2, n3, hk, hd, hQ, hH⟩ := I
  unfold wpX_addGate
  rcases qi_cp hQ with rfl | rfl
  · refine br_t rfl ?_
    by_cases hv : v1 = 2 ∨ v1 = 3 ∨ v1 = 4
    · have gk : ∀ post : Int32 → Prop, post 1 → wpX_isGateKind post () v1 := by
        intro post h
        rcases hv with e | e | e
        · exact br_t e h
        · exact br_f (by rw [e]; decide) (br_t e h)
        · exact br_f (by rw [e]; decide) (br_f (by rw [e]; decide) (br_t e h))
      refine gk _ (br_f (by decide) ?_)
      rcases pk_ix v2 (n := w) (by omega) with z | z | ⟨a, ha, rfl⟩
      · exact qx_nw (by omega) (Or.inl z) (br_t rfl (h _ _ s))
      · exact qx_nw (by omega) (Or.inr z) (br_t rfl (h _ _ s))
      · refine qx_iw (by omega) ha (br_f (by decide) ?_)
        by_cases g4 : v1 = 4
        · subst g4
          refine br_t rfl ?_
          by_cases e : w = 16
          · subst e
            exact br_t rfl (h _ _ s)
          · refine br_f (by rw [nI_eq (by omega) (by omega)]; exact e) (br_f (by decide) (br_f (by decide) (br_f (by decide) ?_)))
            rw [qx_red]
            refine qx_mm _ ha (by omega) (h _ _ ?_)
            exact qj_mk ⟨by omega, by omega, n3, qj_ks hk 4 (by omega) (fun _ _ => rfl) (fun _ _ => rfl) (fun e => absurd e (by omega)), hd, qi_q0 hQ, qj_h0 hH⟩
        · refine br_f g4 ?_
          rcases pk_ix v3 (n := w) (by omega) with z | z | ⟨b, hb, rfl⟩
          · exact qx_nw (by omega) (Or.inl z) (br_t rfl (h _ _ s))
          · exact qx_nw (by omega) (Or.inr z) (br_t rfl (h _ _ s))
          · refine qx_iw (by omega) hb (br_f (by decide) ?_)
            by_cases e : w = 16
            · subst e
              exact br_t rfl (h _ _ s)
            · refine br_f (by rw [nI_eq (by omega) (by omega)]; exact e) ?_
              by_cases g3 : v1 = 3
              · subst g3
                refine br_t rfl ?_
                by_cases em : m = 8
                · subst em
                  exact br_t rfl (h _ _ s)
                · refine br_f (by rw [nI_eq (by omega) (by omega)]; exact em) (br_t rfl (qx_mp ha hb (by omega) (by omega) (h _ _ ?_)))
                  exact qj_mk ⟨by omega, by omega, by omega, qj_ks hk 3 (by omega) (fun i hi => pk_un (by omega)) (fun i hi => pk_un (by omega)) (fun _ => ⟨a, b, by omega, by omega, pk_us, pk_us⟩), hd, qi_q0 hQ, qj_h0 hH⟩
              · have g2 : v1 = 2 := by
                  rcases hv with y | y | y
                  · exact y
                  · exact absurd y g3
                  · exact absurd y g4
                subst g2
                refine br_f (by decide) (br_f (by decide) (br_t rfl (qx_ms ha hb (by omega) (h _ _ ?_))))
                exact qj_mk ⟨by omega, by omega, n3, qj_ks hk 2 (by omega) (fun _ _ => rfl) (fun _ _ => rfl) (fun e => absurd e (by omega)), hd, qi_q0 hQ, qj_h0 hH⟩
    · have q2 : ¬ v1 = 2 := fun z => hv (Or.inl z)
      have q3 : ¬ v1 = 3 := fun z => hv (Or.inr (Or.inl z))
      have q4 : ¬ v1 = 4 := fun z => hv (Or.inr (Or.inr z))
      exact br_f q2 (br_f q3 (br_f q4 (br_t rfl (h _ _ s))))
  · exact br_f (by decide) (h _ _ s)
theorem qj_assertEqual {post : Int32 → St2 → Prop} {u : St2} (I : qj_I u) (v1 v2 : Int32) (h : ∀ r u', qj_I u' → post r u') : wpX_assertEqual post u v1 v2 := by
  obtain ⟨w, m, cp, hq, K, L, R, x, F, M, pt, B, P, rfl, I⟩ := I
  have s := qj_mk (F := F) I
  obtain ⟨n1, n2, n3, hk, hd, hQ, hH⟩ := I
  unfold wpX_assertEqual
  rcases qi_cp hQ with rfl | rfl
  · refine br_t rfl ?_
    rcases pk_ix v1 (n := w) (by omega) with z | z | ⟨a, ha, rfl⟩
    · exact qx_nw (by omega) (Or.inl z) (br_t rfl (h _ _ s))
    · exact qx_nw (by omega) (Or.inr z) (br_t rfl (h _ _ s))
    · refine qx_iw (by omega) ha (br_f (by decide) ?_)
      rcases pk_ix v2 (n := w) (by omega) with z | z | ⟨b, hb, rfl⟩
      · exact qx_nw (by omega) (Or.inl z) (br_t rfl (h _ _ s))
      · exact qx_nw (by omega) (Or.inr z) (br_t rfl (h _ _ s))
      · refine qx_iw (by omega) hb (br_f (by decide) ?_)
        by_cases em : m = 8
        · subst em
          exact br_t rfl (h _ _ s)
        · refine br_f (by rw [nI_eq (by omega) (by omega)]; exact em) (qx_ae ha hb (by omega) (by omega) (h _ _ ?_))
          exact qj_mk ⟨n1, n2, by omega, hk, hd, qi_q0 hQ, qj_h0 hH⟩
  · exact br_f (by decide) (h _ _ s)
theorem qj_setPoint {post : Int32 → St2 → Prop} {u : St2} (I : qj_I u) (v1 v2 : Int32) (h : ∀ r u', qj_I u' → post r u') : wpX_setPoint post u v1 v2 := by
  obtain ⟨w, m, cp, hq, K, L, R, x, F, M, pt, B, P, rfl, I⟩ := I
  have s := qj_mk (F := F) I
  obtain ⟨n1, n2, n3, hk, hd, hQ, hH⟩ := I
  rcases qi_cp hQ with rfl | rfl
  · rcases pk_ix v1 (n := 8) (by omega) with z | z | ⟨j, hj, rfl⟩
    · exact br_t rfl (br_t z (h _ _ s))
    · have q := qm_ge (by omega) z
      exact br_t rfl (br_f q.1 (br_f q.2 (h _ _ s)))
    · refine br_t rfl (br_f (nI_pos (by omega)) (br_t (nI_lt hj (by omega)) ?_))
      rw [qx_red]
      refine ⟨9, qx_sp29 (C := 8) (by omega) hj v2.toInt (fun d => h _ _ ?_) (fun _ => h _ _ s) 9 0 (by omega) (by omega) (fun i hi => by omega)⟩
      refine qj_mk ⟨n1, n2, n3, hk, fun i l hi hl hne => ?_, qi_q0 hQ, qj_h0 hH⟩
      by_cases e : i = j
      · subst e
        rw [qa_uzs, qa_uzn (by omega)]
        exact fun y => d l hl (by omega) y.symm
      · by_cases e2 : l = j
        · subst e2
          rw [qa_uzs, qa_uzn (by omega)]
          exact d i hi e
        · rw [qa_uzn e, qa_uzn e2]
          exact hd i l hi hl hne
  · exact br_f (by decide) (h _ _ s)
theorem qj_compile {post : Int32 → St2 → Prop} {u : St2} (I : qj_I u) (h : ∀ r u', qj_I u' → post r u') : wpX_compile post u := by
  obtain ⟨w, m, cp, hq, K, L, R, x, F, M, pt, B, P, rfl, I⟩ := I
  have s := qj_mk (F := F) I
  obtain ⟨n1, n2, n3, hk, hd, hQ, hH⟩ := I
  rcases id hQ with ⟨rfl, hP⟩ | ⟨rfl, -⟩
  · have hq0 : hq = 0 := hH.elim id (fun z => absurd z.2.1 (by decide))
    subst hq0
    by_cases e : m = 0
    · subst e
      exact br_t rfl (br_t rfl (h _ _ s))
    · exact qx_cp (by omega) (by omega) (by omega) hP fun B' P' hQ' => h _ _ (qj_mk ⟨n1, n2, n3, hk, hd, hQ', Or.inl rfl⟩)
  · exact br_f (by decide) (h _ _ s)
theorem qj_set30 {post : Int32 → St2 → Prop} (n1 : 1 ≤ w) (n2 : w ≤ 16) (n3 : m ≤ 8) (hk : qj_k w K L R) (hd : qj_d pt) (hQ : qi_q cp w m M x pt B P) {j : Nat} (hj : j < w) (v : Int32) (h : ∀ r u', qj_I u' → post r u') : wX_setWitness_30 post (nI j) v (nI 16) (nI 8) (nI w) (nI m) cp hq (fun zi => nI (K zi)) L R (fun zi => qa_fe (x zi)) (fun zi => qa_fe (F zi)) (fun zi => qa_fe (M zi)) (fun zi => qa_fe (pt zi)) (fun zi => qa_fe (B zi)) (fun zi => qa_fe (P zi)) := by
  unfold wX_setWitness_30
  rw [qx_red]
  refine ⟨vp_in_nI (by omega) (by omega), ?_⟩
  rw [nI_clamp (by omega)]
  exact nm_r (qa_upd _ _ _) (qx_wc (by omega) (by omega) hQ fun P' hQ' => h _ _ (qj_mk ⟨n1, n2, n3, hk, hd, hQ', Or.inl rfl⟩))
theorem qj_setWitness {post : Int32 → St2 → Prop} {u : St2} (I : qj_I u) (v1 v2 : Int32) (h : ∀ r u', qj_I u' → post r u') : wpX_setWitness post u v1 v2 := by
  obtain ⟨w, m, cp, hq, K, L, R, x, F, M, pt, B, P, rfl, I⟩ := I
  have s := qj_mk (F := F) I
  obtain ⟨n1, n2, n3, hk, hd, hQ, hH⟩ := I
  unfold wpX_setWitness
  rcases pk_ix v1 (n := w) (by omega) with z | z | ⟨j, hj, rfl⟩
  · exact qx_nw (by omega) (Or.inl z) (br_t rfl (h _ _ s))
  · exact qx_nw (by omega) (Or.inr z) (br_t rfl (h _ _ s))
  · have vi : vp_in (nI j) 32 := vp_in_nI (by omega) (by omega)
    refine qx_iw (by omega) hj (br_f (by decide) ⟨vi, br_c (fun _ => ?_) (fun _ => ⟨vi, br_c (fun _ => ?_) (fun _ => h _ _ s)⟩)⟩)
    · exact qj_set30 n1 n2 n3 hk hd hQ hj v2 h
    · exact qj_set30 n1 n2 n3 hk hd hQ hj v2 h
theorem qj_solve4 {post : Int32 → St2 → Prop} {x0 : Nat → Int} (n1 : 1 ≤ w) (n2 : w ≤ 16) (n3 : m ≤ 8) (hk : qj_k w K L R) (hd : qj_d pt) (hQ : qi_q cp w m M x0 pt B P) (h : ∀ r u', qj_I u' → post r u') : ∀ n i (r : Int32) (x : Nat → Int), i ≤ w → w - i < n → wX_solve_4 post (nI 16) (nI 8) (nI w) (nI m) cp hq n r (nI i) (fun zi => nI (K zi)) L R (fun zi => qa_fe (x zi)) (fun zi => qa_fe (F zi)) (fun zi => qa_fe (M zi)) (fun zi => qa_fe (pt zi)) (fun zi => qa_fe (B zi)) (fun zi => qa_fe (P zi)) := by
  intro n
  induction n with
  | zero => intros; omega
  | succ n ih =>
    intro i r x hi hn
    by_cases z : i < w
    · have vi : vp_in (nI i) 32 := vp_in_nI (by omega) (by omega)
      have cl : (nI i).toNatClampNeg = i := nI_clamp (by omega)
      refine br_f (nI_ge z (by omega)) ⟨vi, ?_⟩
      rw [cl]
      by_cases k3 : K i = 3
      · obtain ⟨a, b, ha, hb, o3, o4⟩ := hk.2 i z k3
        refine br_t (congrArg nI k3) ⟨vi, ?_⟩
        rw [o3, o4]
        refine qx_wv (by omega) (by omega) ⟨vi, ?_⟩
        refine qx_wv (by omega) (by omega) ?_
        rw [qx_mul]
        refine ⟨vi, br_c (fun _ => nm_r (nI_1 i) (ih (i + 1) r x (by omega) (by omega))) (fun _ => ⟨vi, nm_r (qa_upd _ _ _) (nm_e (nm_r (nI_1 i) (ih (i + 1) (r + 1) _ (by omega) (by omega))))⟩)⟩
      · have e3 : ¬ nI (K i) = 3 := by
          have := hk.1 i z
          rw [show (3 : Int32) = nI 3 by decide, nI_eq (by omega) (by omega)]
          exact k3
        exact br_f e3 (nm_r (nI_1 i) (ih (i + 1) r x (by omega) (by omega)))
    · obtain rfl : i = w := by omega
      exact br_t (nI_le (Nat.le_refl _) (by omega)) (qx_wc (by omega) (by omega) hQ fun P' hQ' => h _ _ (qj_mk ⟨n1, n2, n3, hk, hd, hQ', Or.inl rfl⟩))
theorem qj_solve {post : Int32 → St2 → Prop} {u : St2} (I : qj_I u) (h : ∀ r u', qj_I u' → post r u') : wpX_solve post u := by
  obtain ⟨w, m, cp, hq, K, L, R, x, F, M, pt, B, P, rfl, I⟩ := I
  obtain ⟨n1, n2, n3, hk, hd, hQ, hH⟩ := I
  exact ⟨w + 1, qj_solve4 n1 n2 n3 hk hd hQ h (w + 1) 0 0 x (by omega) (by omega)⟩
theorem qj_dd (hd : qj_d pt) (n3 : m ≤ 8) : ∀ i j, i < m → j < m → i ≠ j → (pt i - pt j) % 2147483647 ≠ 0 := by
  intro i j hi hj hne h
  refine hd i j (by omega) (by omega) hne (qa_cong ?_)
  omega
theorem qj_div {post : Int32 → St2 → Prop} (I : qj_p w m 1 hq K L R x M pt B P) (h1 : qa_sat M x w m → ∀ u', qj_I u' → post 1 u') (h0 : ¬ qa_sat M x w m → ∀ u', qj_I u' → post 0 u') : wpX_divide post ((nI 16), (nI 8), (nI w), (nI m), 1, hq, (fun zi => nI (K zi)), L, R, (fun zi => qa_fe (x zi)), (fun zi => qa_fe (F zi)), (fun zi => qa_fe (M zi)), (fun zi => qa_fe (pt zi)), (fun zi => qa_fe (B zi)), (fun zi => qa_fe (P zi))) := by
  obtain ⟨n1, n2, n3, hk, hd, hQ, hH⟩ := I
  rcases id hQ with ⟨y, -⟩ | ⟨-, m0, q1, q2, q3, q4, q5⟩
  · exact absurd y (by decide)
  · have c1 : ¬ (1 : Int32) = 0 := by decide
    refine br_f c1 ?_
    refine qx_bq m0 (by omega) (qa_zp pt m) q2 fun P' p1 p2 p3 => ?_
    have cg : ∀ s t, t < 32 → qa_rm (qa_zp pt m) (fun k => P (128 + k)) m s t = qa_rm (qa_zp pt m) (qa_pp M x pt w m) m s t := by
      intro s
      induction s with
      | zero => exact q4
      | succ s ih =>
        intro t ht
        rw [qa_rm, qa_rm]
        unfold qa_dst
        rw [ih t ht, ih (m - 2 - s + m) (by omega)]
    have eH : ∀ k, k < 32 → P' (160 + k) = qa_hh (qa_zp pt m) (qa_pp M x pt w m) m k := by
      intro k hk
      rw [p2 k hk]
      unfold qa_hh
      by_cases y : k + 1 < m
      · rw [if_pos y, if_pos y, if_pos y, cg _ _ (by omega)]
      · rw [if_neg y, if_neg y, q5 k (by omega) hk]
    have eR : ∀ k, k < 32 → P' (192 + k) = qa_rr (qa_zp pt m) (qa_pp M x pt w m) m k := by
      intro k hk
      rw [p3 k hk]
      exact cg _ _ hk
    have hQ' : qi_q 1 w m M x pt B P' := Or.inr ⟨rfl, m0, q1, fun k hk => by rw [p1 _ (by omega), q2 k hk], fun t k ht hk => by rw [p1 _ (by omega), q3 t k ht hk], fun k hk => by rw [p1 _ (by omega), q4 k hk], fun k h1 h2 => by rw [eH k h2]; unfold qa_hh; rw [if_neg (by omega)]⟩
    have s' := qj_mk (F := F) (show qj_p w m 1 1 K L R x M pt B P' from ⟨n1, n2, n3, hk, hd, hQ', Or.inr ⟨rfl, rfl, fun k hk => ⟨eH k hk, eR k hk⟩⟩⟩)
    have iff : qa_rz P' m ↔ qa_sat M x w m := by
      rw [qe_sat m0 (qj_dd hd n3)]
      exact ⟨fun h k hk => by rw [← eR k (by omega)]; exact h k hk, fun h k hk => by rw [eR k (by omega)]; exact h k hk⟩
    exact qx_rz (by omega) (fun d => br_f c1 (h1 (iff.mp d) _ s')) (fun d => br_t rfl (h0 (fun y => d (iff.mpr y)) _ s'))
theorem qj_i0 {post : Int32 → Prop} (p : Int32) (h : post (nI w)) : wpX_info post ((nI 16), (nI 8), (nI w), (nI m), cp, hq, (fun zi => nI (K zi)), L, R, (fun zi => qa_fe (x zi)), (fun zi => qa_fe (F zi)), (fun zi => qa_fe (M zi)), (fun zi => qa_fe (pt zi)), (fun zi => qa_fe (B zi)), (fun zi => qa_fe (P zi))) 0 p := br_f (by decide) (br_f (by decide) (br_t rfl h))
theorem qj_i1 {post : Int32 → Prop} (p : Int32) (h : post (nI m)) : wpX_info post ((nI 16), (nI 8), (nI w), (nI m), cp, hq, (fun zi => nI (K zi)), L, R, (fun zi => qa_fe (x zi)), (fun zi => qa_fe (F zi)), (fun zi => qa_fe (M zi)), (fun zi => qa_fe (pt zi)), (fun zi => qa_fe (B zi)), (fun zi => qa_fe (P zi))) 1 p := br_f (by decide) (br_f (by decide) (br_f (by decide) (br_t rfl h)))
theorem qj_i2 {post : Int32 → Prop} (p : Int32) (h1 : ¬ cp = 0 → post 1) (h0 : cp = 0 → post 0) : wpX_info post ((nI 16), (nI 8), (nI w), (nI m), cp, hq, (fun zi => nI (K zi)), L, R, (fun zi => qa_fe (x zi)), (fun zi => qa_fe (F zi)), (fun zi => qa_fe (M zi)), (fun zi => qa_fe (pt zi)), (fun zi => qa_fe (B zi)), (fun zi => qa_fe (P zi))) 2 p := br_f (by decide) (br_f (by decide) (br_f (by decide) (br_f (by decide) (br_t rfl (br_c h0 h1)))))
theorem qj_i3 {post : Int32 → Prop} (p : Int32) (h1 : ¬ hq = 0 → post 1) (h0 : hq = 0 → post 0) : wpX_info post ((nI 16), (nI 8), (nI w), (nI m), cp, hq, (fun zi => nI (K zi)), L, R, (fun zi => qa_fe (x zi)), (fun zi => qa_fe (F zi)), (fun zi => qa_fe (M zi)), (fun zi => qa_fe (pt zi)), (fun zi => qa_fe (B zi)), (fun zi => qa_fe (P zi))) 3 p := br_f (by decide) (br_f (by decide) (br_f (by decide) (br_f (by decide) (br_f (by decide) (br_t rfl (br_c h0 h1))))))
theorem qj_i4 {post : Int32 → Prop} (n2 : w ≤ 16) (n3 : m ≤ 8) (p : Int32) (h1 : qa_sat M x w m → post 1) (h0 : ¬ qa_sat M x w m → post 0) : wpX_info post ((nI 16), (nI 8), (nI w), (nI m), cp, hq, (fun zi => nI (K zi)), L, R, (fun zi => qa_fe (x zi)), (fun zi => qa_fe (F zi)), (fun zi => qa_fe (M zi)), (fun zi => qa_fe (pt zi)), (fun zi => qa_fe (B zi)), (fun zi => qa_fe (P zi))) 4 p := by
  refine br_f (by decide) (br_f (by decide) (br_f (by decide) (br_f (by decide) (br_f (by decide) (br_f (by decide) (br_t rfl ?_))))))
  exact qx_sat (by omega) (by omega) (fun s => br_f (by decide) (h1 s)) (fun s => br_t rfl (h0 s))
theorem qj_divideOk {post : Int32 → St2 → Prop} {u : St2} (I : qj_I u) (h : ∀ u', qj_I u' → post 1 u') : wpL_divideOk post u := by
  obtain ⟨w, m, cp, hq, K, L, R, x, F, M, pt, B, P, rfl, I⟩ := I
  have s := qj_mk (F := F) I
  have I2 := I
  obtain ⟨n1, n2, n3, hk, hd, hQ, hH⟩ := I2
  unfold wpL_divideOk
  rcases qi_cp hQ with rfl | rfl
  · exact qj_i2 0 (fun y => absurd rfl y) (fun _ => br_f (by decide) (h _ s))
  · refine qj_i2 0 (fun _ => br_t rfl ?_) (fun y => absurd y (by decide))
    refine qj_i4 n2 n3 0 (fun sa => ?_) (fun sa => ?_)
    · refine qj_div I (fun _ u' J => ?_) (fun y => absurd sa y)
      obtain ⟨w, m, cp, hq, K, L, R, x, F, M, pt, B, P, rfl, J⟩ := J
      exact br_t rfl (br_t rfl (br_t rfl (h _ (qj_mk J))))
    · refine qj_div I (fun y => absurd y sa) (fun _ u' J => ?_)
      obtain ⟨w, m, cp, hq, K, L, R, x, F, M, pt, B, P, rfl, J⟩ := J
      exact br_f (by decide) (br_f (by decide) (br_t rfl (h _ (qj_mk J))))
end QJ
