/-! ===== sights: agrees ===== -/
theorem pl_fst (G : Nat → Prop) : ∀ n : Nat, ∃ e0, e0 ≤ n ∧ (∀ e, e < e0 → G e) ∧ (e0 < n → ¬ G e0) := by
  intro n
  induction n with
  | zero => exact ⟨0, by omega, fun e he => by omega, fun h => by omega⟩
  | succ n ih =>
    obtain ⟨e0, h1, h2, h3⟩ := ih
    by_cases h : e0 < n
    · exact ⟨e0, by omega, h2, fun _ => h3 h⟩
    · have h4 : e0 = n := by omega
      subst h4
      by_cases g : G e0
      · exact ⟨e0 + 1, by omega, fun e he => by rcases Nat.lt_succ_iff_lt_or_eq.mp he with q | q; exact h2 e q; rw [q]; exact g, fun q => by omega⟩
      · exact ⟨e0, by omega, h2, fun _ => g⟩
theorem z12n {j : Nat} (h : j < 12) : ¬ nI j = nI 12 := by rw [pz_eq (by omega) (by omega)]; omega
theorem agr {s m : ba_St} {N ns : Nat} (h : res 46 s m N) (S : iS s m ns) : ∃ x, (x = nI 0 ∨ x = nI 1) ∧ xc_agrees s 46 12 = some x ∧ ∀ m0, xm_lives m0 = some m → xm_isSeen m0 = some (x, m) := by
  obtain ⟨n8, S1, S2, S3⟩ := S
  have hN : N ≤ 12 := by obtain ⟨_, _, _, _, _, c, _⟩ := h; exact c
  obtain ⟨G, hG⟩ : ∃ G : Nat → Prop, ∀ e, G e ↔ ((∀ k, xc_agrees_l2 46 12 s k (nI e) = k (nI (e + 1))) ∧ ∀ k, xm_isSeen_l8 m k (nI 1, nI e) = k (nI 1, nI (e + 1))) := ⟨_, fun _ => Iff.rfl⟩
  have step : ∀ e, e < ns → (G e ∨ ((∀ k, xc_agrees_l2 46 12 s k (nI e) = some (.inr 0)) ∧ ∀ k, xm_isSeen_l8 m k (nI 1, nI e) = k (nI 0, nI (e + 1)))) ∧ ∀ k, xm_isSeen_l8 m k (nI 0, nI e) = k (nI 0, nI (e + 1)) := by
    intro e he
    obtain ⟨t, r, c, kk, b1, b2, b3, b4, a1, a2, a3, a4, c1, c2, c3, c4⟩ := S3 e he
    obtain ⟨v, v1, v2, v3⟩ := rd_sees h b1 b2 b3
    have l : ¬ ns ≤ e := by omega
    have n0 : xl_number s 12 (nI e) 0 = some (nI t) := by rw [show (0 : Int32) = nI 0 from rfl, pl_number s 12 (by omega) (by omega)]; exact congrArg some a1
    have n1 : xl_number s 12 (nI e) 1 = some (nI r) := by rw [show (1 : Int32) = nI 1 from rfl, pl_number s 12 (by omega) (by omega)]; exact congrArg some a2
    have n2 : xl_number s 12 (nI e) 2 = some (nI c) := by rw [show (2 : Int32) = nI 2 from rfl, pl_number s 12 (by omega) (by omega)]; exact congrArg some a3
    have n3 : xl_number s 12 (nI e) 3 = some (nI kk) := by rw [show (3 : Int32) = nI 3 from rfl, pl_number s 12 (by omega) (by omega)]; exact congrArg some a4
    have ex : nI r * 9 + nI c = nI (r * 9 + c) := by rw [pz_lit 9, pk_mul, nI_add]
    have q0 : 4 * nI e = nI (4 * e) := by rw [pz_lit 4, pk_mul]
    have q1 : nI (4 * e) + 1 = nI (4 * e + 1) := by rw [pz_lit 1, nI_add]
    have q2 : nI (4 * e) + 2 = nI (4 * e + 2) := by rw [pz_lit 2, nI_add]
    have q3 : nI (4 * e) + 3 = nI (4 * e + 3) := by rw [pz_lit 3, nI_add]
    have i0 : ba_inb (nI (4 * e)) 32 = true := pz_inb (by omega) (by omega)
    have i1 : ba_inb (nI (4 * e + 1)) 32 = true := pz_inb (by omega) (by omega)
    have i2 : ba_inb (nI (4 * e + 2)) 32 = true := pz_inb (by omega) (by omega)
    have i3 : ba_inb (nI (4 * e + 3)) 32 = true := pz_inb (by omega) (by omega)
    have x0 : ba_ix (nI (4 * e)) = 4 * e := pz_ix (by omega)
    have x1 : ba_ix (nI (4 * e + 1)) = 4 * e + 1 := pz_ix (by omega)
    have x2 : ba_ix (nI (4 * e + 2)) = 4 * e + 2 := pz_ix (by omega)
    have x3 : ba_ix (nI (4 * e + 3)) = 4 * e + 3 := pz_ix (by omega)
    have cl : ∀ k, xc_agrees_l2 46 12 s k (nI e) = if (if v = pn then nI 12 else v) = nI kk then k (nI (e + 1)) else some (.inr 0) := by
      intro k
      unfold xc_agrees_l2 xc_agrees_j53_2
      simp (disch := omega) only [S1, pz_le, l, if_false, n0, n1, n2, n3, pz_bnd, pz_lt, ex, v1, pz_succ]
      by_cases hv : v = pn
      · subst hv; simp only [↓pz_m1, eq_self, if_true]; rfl
      · simp only [↓pz_m1, hv, if_false]
    have mo : ∀ k, xm_isSeen_l8 m k (nI 1, nI e) = if v = (if nI kk = nI 12 then pn else nI kk) then k (nI 1, nI (e + 1)) else k (nI 0, nI (e + 1)) := by
      intro k
      unfold xm_isSeen_l8 xm_isSeen_j74_8 xm_isSeen_j81_8
      simp (disch := omega) only [S2, pz_le, l, if_false, q0, q1, q2, q3, i0, i1, i2, i3, x0, x1, x2, x3, pz_grt, pz_lt, c1, c2, c3, c4, v2, pz_bnd, z1n0, pz_succ]
      by_cases hk : nI kk = nI 12
      · simp only [show (12 : Int32) = nI 12 from rfl, hk, if_true]; rfl
      · simp only [show (12 : Int32) = nI 12 from rfl, hk, if_false]; rfl
    have m0 : ∀ k, xm_isSeen_l8 m k (nI 0, nI e) = k (nI 0, nI (e + 1)) := by
      intro k
      unfold xm_isSeen_l8 xm_isSeen_j81_8
      simp (disch := omega) only [S2, pz_le, l, if_false, q0, q3, i3, pz_grt, pz_lt, z00, if_true, pz_succ]; rfl
    have hit : ((if v = pn then nI 12 else v) = nI kk) ↔ v = (if nI kk = nI 12 then pn else nI kk) := by
      rcases v3 with rfl | ⟨j, j1, rfl⟩
      · rw [if_pos rfl]
        by_cases hk : nI kk = nI 12
        · rw [if_pos hk]; exact ⟨fun _ => rfl, fun _ => hk.symm⟩
        · rw [if_neg hk]; exact ⟨fun q => (hk q.symm).elim, fun q => (pz_nopn (by omega) q.symm).elim⟩
      · rw [if_neg (pz_nopn (by omega))]
        by_cases hk : nI kk = nI 12
        · rw [if_pos hk, hk]; exact ⟨fun q => (z12n (by omega) q).elim, fun q => (pz_nopn (by omega) q).elim⟩
        · rw [if_neg hk]
    refine ⟨?_, m0⟩
    by_cases hh : (if v = pn then nI 12 else v) = nI kk
    · refine Or.inl ((hG e).mpr ⟨fun k => ?_, fun k => ?_⟩)
      · rw [cl, if_pos hh]
      · rw [mo, if_pos (hit.mp hh)]
    · refine Or.inr ⟨fun k => ?_, fun k => ?_⟩
      · rw [cl, if_neg hh]
      · rw [mo, if_neg (fun q => hh (hit.mpr q))]
  obtain ⟨e0, g1, g2, g3⟩ := pl_fst G ns
  obtain ⟨o, po, e1⟩ := pf_one (F := xc_agrees_l2 46 12 s) (fun i a => a = nI i) (fun o => o = if e0 < ns then .inr 0 else .inl ()) e0
    (fun i a hi ha => ⟨nI (i + 1), rfl, fun k => by rw [ha]; exact ((hG i).mp (g2 i hi)).1 k⟩)
    (fun a ha => by
      by_cases hl : e0 < ns
      · rcases (step e0 hl).1 with q | q
        · exact (g3 hl q).elim
        · exact ⟨.inr 0, by rw [if_pos hl], fun k => by rw [ha]; exact q.1 k⟩
      · have hn : e0 = ns := by omega
        refine ⟨.inl (), by rw [if_neg hl], fun k => ?_⟩
        rw [ha, hn]
        unfold xc_agrees_l2
        simp only [S1, Int32.le_refl, if_true]) 1000 0 (nI 0) (by omega) (by omega) rfl
  obtain ⟨u, pu, e2⟩ := pf_one (F := xm_isSeen_l8 m) (fun i a => a = ((if i ≤ e0 then nI 1 else nI 0), nI i)) (fun u => u = if ns ≤ e0 then nI 1 else nI 0) ns
    (fun i a hi ha => by
      refine ⟨((if i + 1 ≤ e0 then nI 1 else nI 0), nI (i + 1)), rfl, fun k => ?_⟩
      rw [ha]
      by_cases h1 : i < e0
      · rw [if_pos (by omega), if_pos (by omega)]; exact ((hG i).mp (g2 i h1)).2 k
      · by_cases h2 : i = e0
        · subst h2
          rw [if_pos (by omega), if_neg (by omega)]
          rcases (step i hi).1 with q | q
          · exact (g3 hi q).elim
          · exact q.2 k
        · rw [if_neg (by omega), if_neg (by omega)]; exact (step i hi).2 k)
    (fun a ha => by
      refine ⟨if ns ≤ e0 then nI 1 else nI 0, rfl, fun k => ?_⟩
      rw [ha]
      unfold xm_isSeen_l8
      simp only [S2, Int32.le_refl, if_true]) 1000 0 (nI 1, nI 0) (by omega) (by omega) (by rw [if_pos (by omega)])
  have f1 : ba_fix (xc_agrees_l2 46 12 s) 1000 0 = some o := e1
  have f2 : ba_fix (xm_isSeen_l8 m) 1000 (1, 0) = some u := e2
  by_cases hl : e0 < ns
  · rw [if_pos hl] at po
    rw [if_neg (by omega)] at pu
    subst po; subst pu
    refine ⟨nI 0, Or.inl rfl, ?_, fun m0 hm => ?_⟩
    · unfold xc_agrees; rw [f1]; rfl
    · unfold xm_isSeen; rw [hm, pz_bnd, f2]; rfl
  · rw [if_neg hl] at po
    rw [if_pos (by omega)] at pu
    subst po; subst pu
    refine ⟨nI 1, Or.inr rfl, ?_, fun m0 hm => ?_⟩
    · unfold xc_agrees; rw [f1]; rfl
    · unfold xm_isSeen; rw [hm, pz_bnd, f2]; rfl
