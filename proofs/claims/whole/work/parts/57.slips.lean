/-! ===== event, back, seen, forget ===== -/
def wEv (p j : Nat) : Prop := p = 11 ∨ (p = 10 ∧ j = 1) ∨ (p = 0 ∧ (j = 8 ∨ j = 9 ∨ j = 12 ∨ j = 16))
def vEv (p j : Nat) : Prop := p = 10 ∨ (p = 0 ∧ j = 13)
theorem rr_ev {s m s' m' : ba_St} (h : RR s m) (F : fr wEv s s') (G : fr vEv m m') {ne' : Nat} (hV : iV s' m' ne') (k' : cK s') : RR s' m' := by
  obtain ⟨n0, n1, n2, B0, B1, B2, ne, ns, ⟨⟨T0, T1, T2, l1, l2⟩, hB, -, hS, ⟨r, r1, r2, r3, r4⟩, hg, hH, hf⟩, k⟩ := h
  have ff : ∀ p j, p ≠ 10 → p ≠ 11 → (p ≠ 0 ∨ j = 7) → s'.1 p j = s.1 p j := fun p j h1 h2 h3 => F.2 p j (by unfold wEv; omega)
  have gg : ∀ p j, p ≠ 10 → (p ≠ 0 ∨ j ≠ 13) → m'.1 p j = m.1 p j := fun p j h1 h2 => G.2 p j (by unfold vEv; omega)
  exact ⟨n0, n1, n2, B0, B1, B2, ne', ns, ⟨⟨T0.up (ff _ _ (by omega) (by omega) (by omega)) (fun j => ff _ _ (by omega) (by omega) (by omega)) (gg _ _ (by omega) (by omega)) (fun j _ => gg _ _ (by omega) (by omega)), T1.up (ff _ _ (by omega) (by omega) (by omega)) (fun j => ff _ _ (by omega) (by omega) (by omega)) (gg _ _ (by omega) (by omega)) (fun j _ => gg _ _ (by omega) (by omega)), T2.up (ff _ _ (by omega) (by omega) (by omega)) (fun j => ff _ _ (by omega) (by omega) (by omega)) (gg _ _ (by omega) (by omega)) (fun j _ => gg _ _ (by omega) (by omega)), l1, l2⟩, hB.up (fun p j h1 h2 h3 => ff p j (by omega) (by omega) (by omega)), hV, hS.up (ff _ _ (by omega) (by omega) (by omega)) (fun j => ff _ _ (by omega) (by omega) (by omega)) (gg _ _ (by omega) (by omega)) (fun j => gg _ _ (by omega) (by omega)), ⟨r, r1, r2, by rw [ff 3 8 (by omega) (by omega) (by omega)]; exact r3, by rw [gg 0 12 (by omega) (by omega)]; exact r4⟩, by rw [gg 0 15 (by omega) (by omega)]; exact hg, fun i hi => (hH i hi).up (fun j => ff _ _ (by omega) (by omega) (by omega)) (fun j => ff _ _ (by omega) (by omega) (by omega)) (gg _ _ (by omega) (by omega)) (gg _ _ (by omega) (by omega)) (fun j _ => gg _ _ (by omega) (by omega)), by rw [ff 0 7 (by omega) (by omega) (by omega), gg 0 4 (by omega) (by omega)]; exact hf⟩, k'⟩
/-- event(): with the frames that read() needs -/
theorem k_event {s m : ba_St} (h : RR s m) (a b c : Int32) : ∃ v s' m', xb_event s a b c = some (v, s') ∧ xm_event m a b c = some (v, m') ∧ RR s' m' ∧ fr wEv s s' ∧ fr vEv m m' := by
  have h' := h
  obtain ⟨n0, n1, n2, B0, B1, B2, ne, ns, ⟨-, -, ⟨v1, v2, v3, v4⟩, -⟩, k⟩ := h'
  have bad : ∀ v, xb_event s a b c = some (v, s) → xm_event m a b c = some (v, m) → ∃ v s' m', xb_event s a b c = some (v, s') ∧ xm_event m a b c = some (v, m') ∧ RR s' m' ∧ fr wEv s s' ∧ fr vEv m m' := fun v h1 h2 => ⟨v, s, m, h1, h2, h, fr.rf _ _, fr.rf _ _⟩
  rcases arg_3 a with ⟨x, x1, rfl, wa, ga⟩ | ⟨wa, ga⟩
  · rcases arg_24 b with ⟨t, t1, rfl, wb, gb⟩ | ⟨wb, gb⟩
    · rcases arg_12 c with ⟨u, u1, rfl, wc, gc⟩ | ⟨wc, gc⟩
      · have he : xb_isEvent (nI x) (nI t) (nI u) = some 1 := by unfold xb_isEvent; simp only [wa, wb, wc, pz_bnd, p_10, if_false]
        by_cases hn : ne < 8
        · obtain ⟨s1, a1, a2, a3, a4, a5, a6, a7, a8⟩ := pl_append s 10 hn v2 (nI x) (nI t) (nI u) 0
          obtain ⟨s2, e2, F2, K2⟩ := pb_forget s1
          have F : fr wEv s s2 := (a2.mono (fun p j w => by unfold wAp at w; unfold wEv; omega)).tr (F2.mono (fun p j w => by unfold wFo at w; unfold wEv; omega))
          have d : ∀ p j, p ≠ 0 → s2.1 p j = s1.1 p j := fun p j hp => F2.2 p j (by unfold wFo; omega)
          have n8 : ¬ nI ne = 8 := by rw [pz_lit 8, pz_eq (by omega) (by omega)]; omega
          have y0 : 3 * nI ne = nI (3 * ne) := by rw [pz_lit 3, pk_mul]
          have y1 : nI (3 * ne) + 1 = nI (3 * ne + 1) := by rw [pz_lit 1, nI_add]
          have y2 : nI (3 * ne) + 2 = nI (3 * ne + 2) := by rw [pz_lit 2, nI_add]
          have i0 : ba_inb (nI (3 * ne)) 24 = true := pz_inb (by omega) (by omega)
          have i1 : ba_inb (nI (3 * ne + 1)) 24 = true := pz_inb (by omega) (by omega)
          have i2 : ba_inb (nI (3 * ne + 2)) 24 = true := pz_inb (by omega) (by omega)
          have x0 : ba_ix (nI (3 * ne)) = 3 * ne := pz_ix (by omega)
          have x1' : ba_ix (nI (3 * ne + 1)) = 3 * ne + 1 := pz_ix (by omega)
          have x2 : ba_ix (nI (3 * ne + 2)) = 3 * ne + 2 := pz_ix (by omega)
          have q1 : (ba_w m 10 (3 * ne) (nI x)).1 0 13 = nI ne := by rw [pw_p _ _ _ _ (by omega)]; exact v3
          have q2 : (ba_w (ba_w m 10 (3 * ne) (nI x)) 10 (3 * ne + 1) (nI t)).1 0 13 = nI ne := by rw [pw_p _ _ _ _ (by omega)]; exact q1
          have q3 : (ba_w (ba_w (ba_w m 10 (3 * ne) (nI x)) 10 (3 * ne + 1) (nI t)) 10 (3 * ne + 2) (nI u)).1 0 13 = nI ne := by rw [pw_p _ _ _ _ (by omega)]; exact q2
          have G : fr vEv m (ba_w (ba_w (ba_w (ba_w m 10 (3 * ne) (nI x)) 10 (3 * ne + 1) (nI t)) 10 (3 * ne + 2) (nI u)) 0 13 (nI (ne + 1))) := ((((fr.rf vEv m).w _ _ _ (by unfold vEv; omega)).w _ _ _ (by unfold vEv; omega)).w _ _ _ (by unfold vEv; omega)).w _ _ _ (by unfold vEv; omega)
          refine ⟨nI (ne + 1), s2, _, ?_, ?_, rr_ev h F G (ne' := ne + 1) ⟨by omega, by rw [d _ _ (by omega)]; exact a3, pw_s _ _ _ _, fun e he => ?_⟩ K2, F, G⟩
          · have hf : xl_isFull s 10 = some 0 := by rw [pl_full s 10 (by omega) v2, if_pos hn]
            have d1 : s2.1 10 1 = nI (ne + 1) := by rw [d _ _ (by omega)]; exact a3
            unfold xb_event
            simp only [he, pz_bnd, p_10, if_false, hf, p_00, if_true, a1, e2, d1]
          · unfold xm_event
            simp only [ga, gb, gc, pz_bnd, p_10, if_false, v3, n8, y0, y1, y2, i0, i1, i2, x0, x1', x2, pz_grt, pz_lt, q1, q2, q3, pz_succ, pw_s]
          · by_cases ee : e = ne
            · subst ee
              refine ⟨x, t, u, by omega, t1, u1, ?_, ?_, ?_, ?_, ?_, ?_⟩
              · rw [d _ _ (by omega)]; exact a4
              · rw [d _ _ (by omega)]; exact a5
              · rw [d _ _ (by omega)]; exact a6
              · rw [pw_p _ _ _ _ (by omega), pw_i _ _ _ (by omega), pw_i _ _ _ (by omega), pw_s]
              · rw [pw_p _ _ _ _ (by omega), pw_i _ _ _ (by omega), pw_s]
              · rw [pw_p _ _ _ _ (by omega), pw_s]
            · have b8 : ∀ j, j < ne * 4 → s2.1 11 j = s.1 11 j := fun j hj => by rw [d _ _ (by omega)]; exact a8 j hj
              have c8 : ∀ j, j < 3 * ne → (ba_w (ba_w (ba_w (ba_w m 10 (3 * ne) (nI x)) 10 (3 * ne + 1) (nI t)) 10 (3 * ne + 2) (nI u)) 0 13 (nI (ne + 1))).1 10 j = m.1 10 j := fun j hj => by
                rw [pw_p _ _ _ _ (by omega), pw_i _ _ _ (by omega), pw_i _ _ _ (by omega), pw_i _ _ _ (by omega)]
              rw [b8 _ (by omega), b8 _ (by omega), b8 _ (by omega), c8 _ (by omega), c8 _ (by omega), c8 _ (by omega)]
              exact v4 e (by omega)
        · have n8 : nI ne = 8 := by rw [show ne = 8 by omega]; rfl
          have hf : xl_isFull s 10 = some 1 := by rw [pl_full s 10 (by omega) v2, if_neg hn]
          refine bad (-4) ?_ ?_
          · unfold xb_event
            simp only [he, pz_bnd, p_10, if_false, hf]
          · unfold xm_event
            simp only [ga, gb, gc, pz_bnd, p_10, if_false, v3, n8, if_true]
      · exact bad (-2) (by unfold xb_event xb_isEvent xb_isEvent_j30; simp only [wa, wb, wc, pz_bnd, p_10, p_00, if_true, if_false]) (by unfold xm_event; simp only [ga, gb, gc, pz_bnd, p_10, p_00, if_true, if_false])
    · exact bad (-2) (by unfold xb_event xb_isEvent xb_isEvent_j30; simp only [wa, wb, pz_bnd, p_10, p_00, if_true, if_false]) (by unfold xm_event; simp only [ga, gb, pz_bnd, p_10, p_00, if_true, if_false])
  · exact bad (-2) (by unfold xb_event xb_isEvent xb_isEvent_j30; simp only [wa, pz_bnd, p_10, p_00, if_true, if_false]) (by unfold xm_event; simp only [ga, pz_bnd, p_10, p_00, if_true, if_false])
theorem q_event {s m : ba_St} (h : RR s m) (a b c : Int32) : ∃ v s' m', xb_event s a b c = some (v, s') ∧ xm_event m a b c = some (v, m') ∧ RR s' m' := by
  obtain ⟨v, s', m', h1, h2, h3, -, -⟩ := k_event h a b c
  exact ⟨v, s', m', h1, h2, h3⟩
theorem pk_sub1 {n : Nat} (h : 0 < n) : nI n - 1 = nI (n - 1) := by
  obtain ⟨j, rfl⟩ : ∃ j, n = j + 1 := ⟨n - 1, by omega⟩
  rw [show nI (j + 1) = nI j + 1 from (pz_succ j).symm, Int32.add_sub_cancel]; rfl
theorem q_back {s m : ba_St} (h : RR s m) : ∃ v s' m', xb_back s = some (v, s') ∧ xm_back m = some (v, m') ∧ RR s' m' := by
  have h' := h
  obtain ⟨n0, n1, n2, B0, B1, B2, ne, ns, ⟨-, -, ⟨v1, v2, v3, v4⟩, -⟩, k⟩ := h'
  unfold xb_back xm_back
  rw [v2, v3]
  by_cases hn : ne = 0
  · subst hn
    exact ⟨-3, s, m, by simp only [n0e0, if_true], by simp only [n0e0, if_true], h⟩
  · have z : ¬ nI ne = 0 := by rw [pz_lit 0, pz_eq (by omega) (by omega)]; exact hn
    obtain ⟨s2, e2, F2, K2⟩ := pb_forget (ba_w s 10 1 (nI (ne - 1)))
    have F : fr wEv s s2 := ((fr.rf wEv s).w 10 1 _ (by unfold wEv; omega)).tr (F2.mono (fun p j w => by unfold wFo at w; unfold wEv; omega))
    have G : fr vEv m (ba_w m 0 13 (nI (ne - 1))) := (fr.rf vEv m).w 0 13 _ (by unfold vEv; omega)
    have d : s2.1 10 1 = nI (ne - 1) := by rw [F2.2 10 1 (by unfold wFo; omega), pw_s]
    have d11 : ∀ j, s2.1 11 j = s.1 11 j := fun j => by rw [F2.2 11 j (by unfold wFo; omega), pw_p _ _ _ _ (by omega)]
    have c10 : ∀ j, (ba_w m 0 13 (nI (ne - 1))).1 10 j = m.1 10 j := fun j => pw_p _ _ _ _ (by omega)
    refine ⟨nI (ne - 1), s2, ba_w m 0 13 (nI (ne - 1)), ?_, ?_, rr_ev h F G (ne' := ne - 1) ⟨by omega, d, pw_s _ _ _ _, fun e he => by rw [d11, d11, d11, c10, c10, c10]; exact v4 e (by omega)⟩ K2⟩
    · simp only [z, if_false, pk_sub1 (show 0 < ne by omega), pz_lt, e2, pz_bnd, d]
    · simp only [z, if_false, pk_sub1 (show 0 < ne by omega), pz_lt, pw_s]
def wSe (p j : Nat) : Prop := p = 13 ∨ (p = 12 ∧ j = 1)
def vSe (p j : Nat) : Prop := p = 23 ∨ (p = 0 ∧ j = 29)
theorem RR.se {s m s' m' : ba_St} (h : RR s m) (F : fr wSe s s') (G : fr vSe m m') {ns' : Nat} (hS : iS s' m' ns') : RR s' m' := by
  obtain ⟨n0, n1, n2, B0, B1, B2, ne, ns, ⟨⟨T0, T1, T2, l1, l2⟩, hB, hV, -, ⟨r, r1, r2, r3, r4⟩, hg, hH, hf⟩, k⟩ := h
  have ff : ∀ p j, p ≠ 12 → p ≠ 13 → s'.1 p j = s.1 p j := fun p j h1 h2 => F.2 p j (by unfold wSe; omega)
  have gg : ∀ p j, p ≠ 23 → (p ≠ 0 ∨ j ≠ 29) → m'.1 p j = m.1 p j := fun p j h1 h2 => G.2 p j (by unfold vSe; omega)
  exact ⟨n0, n1, n2, B0, B1, B2, ne, ns', ⟨⟨T0.up (ff _ _ (by omega) (by omega)) (fun j => ff _ _ (by omega) (by omega)) (gg _ _ (by omega) (by omega)) (fun j _ => gg _ _ (by omega) (by omega)), T1.up (ff _ _ (by omega) (by omega)) (fun j => ff _ _ (by omega) (by omega)) (gg _ _ (by omega) (by omega)) (fun j _ => gg _ _ (by omega) (by omega)), T2.up (ff _ _ (by omega) (by omega)) (fun j => ff _ _ (by omega) (by omega)) (gg _ _ (by omega) (by omega)) (fun j _ => gg _ _ (by omega) (by omega)), l1, l2⟩, hB.up (fun p j h1 h2 h3 => ff p j (by omega) (by omega)), hV.up (ff _ _ (by omega) (by omega)) (fun j => ff _ _ (by omega) (by omega)) (gg _ _ (by omega) (by omega)) (fun j => gg _ _ (by omega) (by omega)), hS, ⟨r, r1, r2, by rw [ff 3 8 (by omega) (by omega)]; exact r3, by rw [gg 0 12 (by omega) (by omega)]; exact r4⟩, by rw [gg 0 15 (by omega) (by omega)]; exact hg, fun i hi => (hH i hi).up (fun j => ff _ _ (by omega) (by omega)) (fun j => ff _ _ (by omega) (by omega)) (gg _ _ (by omega) (by omega)) (gg _ _ (by omega) (by omega)) (fun j _ => gg _ _ (by omega) (by omega)), by rw [ff 0 7 (by omega) (by omega), gg 0 4 (by omega) (by omega)]; exact hf⟩, k.mv2 (fun p j h1 h2 => ff p j (by omega) (by omega)) (fun j => ff 15 j (by omega) (by omega)) (fun p j h1 h2 => ff p j (by omega) (by omega)) (fun j h1 h2 => ff 0 j (by omega) (by omega))⟩
theorem q_forget {s m : ba_St} (h : RR s m) : ∃ v s' m', xb_forget s = some (v, s') ∧ xm_forget m = some (v, m') ∧ RR s' m' := by
  have h' := h
  obtain ⟨n0, n1, n2, B0, B1, B2, ne, ns, ⟨-, -, -, ⟨v1, v2, v3, v4⟩, -⟩, k⟩ := h'
  refine ⟨nI ns, ba_w s 12 1 0, ba_w m 0 29 0, by unfold xb_forget; rw [v2]; rfl, by unfold xm_forget; rw [v3]; rfl, h.se ((fr.rf wSe s).w 12 1 _ (by unfold wSe; omega)) ((fr.rf vSe m).w 0 29 _ (by unfold vSe; omega)) (ns' := 0) ⟨by omega, pw_s _ _ _ _, pw_s _ _ _ _, fun e he => by omega⟩⟩
theorem q_seen {s m : ba_St} (h : RR s m) (a b c z : Int32) : ∃ v s' m', xb_seen s a b c z = some (v, s') ∧ xm_seen m a b c z = some (v, m') ∧ RR s' m' := by
  have h' := h
  obtain ⟨n0, n1, n2, B0, B1, B2, nx, ne, ⟨-, -, -, ⟨v1, v2, v3, v4⟩, -⟩, k⟩ := h'
  rcases arg_24 a with ⟨t, t1, rfl, wa, ga⟩ | ⟨wa, ga⟩
  · rcases arg_8 b with ⟨r, r1, rfl, wb, gb⟩ | ⟨wb, gb⟩
    · rcases arg_9 c with ⟨u, u1, rfl, wc, gc⟩ | ⟨wc, gc⟩
      · rcases arg_13 z with ⟨l, l1, rfl, wz, gz⟩ | ⟨wz, gz⟩
        · by_cases hn : ne < 8
          · obtain ⟨s1, a1, a2, a3, a4, a5, a6, a7, a8⟩ := pl_append s 12 hn v2 (nI t) (nI r) (nI u) (nI l)
            have F : fr wSe s s1 := a2.mono (fun p j w => by unfold wAp at w; unfold wSe; omega)
            have n8 : ¬ nI ne = 8 := by rw [pz_lit 8, pz_eq (by omega) (by omega)]; omega
            have y0 : 4 * nI ne = nI (4 * ne) := by rw [pz_lit 4, pk_mul]
            have y1 : nI (4 * ne) + 1 = nI (4 * ne + 1) := by rw [pz_lit 1, nI_add]
            have y2 : nI (4 * ne) + 2 = nI (4 * ne + 2) := by rw [pz_lit 2, nI_add]
            have y3 : nI (4 * ne) + 3 = nI (4 * ne + 3) := by rw [pz_lit 3, nI_add]
            have i0 : ba_inb (nI (4 * ne)) 32 = true := pz_inb (by omega) (by omega)
            have i1 : ba_inb (nI (4 * ne + 1)) 32 = true := pz_inb (by omega) (by omega)
            have i2 : ba_inb (nI (4 * ne + 2)) 32 = true := pz_inb (by omega) (by omega)
            have i3 : ba_inb (nI (4 * ne + 3)) 32 = true := pz_inb (by omega) (by omega)
            have x0 : ba_ix (nI (4 * ne)) = 4 * ne := pz_ix (by omega)
            have x1 : ba_ix (nI (4 * ne + 1)) = 4 * ne + 1 := pz_ix (by omega)
            have x2 : ba_ix (nI (4 * ne + 2)) = 4 * ne + 2 := pz_ix (by omega)
            have x3 : ba_ix (nI (4 * ne + 3)) = 4 * ne + 3 := pz_ix (by omega)
            have q1 : (ba_w m 23 (4 * ne) (nI t)).1 0 29 = nI ne := by rw [pw_p _ _ _ _ (by omega)]; exact v3
            have q2 : (ba_w (ba_w m 23 (4 * ne) (nI t)) 23 (4 * ne + 1) (nI r)).1 0 29 = nI ne := by rw [pw_p _ _ _ _ (by omega)]; exact q1
            have q3 : (ba_w (ba_w (ba_w m 23 (4 * ne) (nI t)) 23 (4 * ne + 1) (nI r)) 23 (4 * ne + 2) (nI u)).1 0 29 = nI ne := by rw [pw_p _ _ _ _ (by omega)]; exact q2
            have q4 : (ba_w (ba_w (ba_w (ba_w m 23 (4 * ne) (nI t)) 23 (4 * ne + 1) (nI r)) 23 (4 * ne + 2) (nI u)) 23 (4 * ne + 3) (nI l)).1 0 29 = nI ne := by rw [pw_p _ _ _ _ (by omega)]; exact q3
            have G : fr vSe m (ba_w (ba_w (ba_w (ba_w (ba_w m 23 (4 * ne) (nI t)) 23 (4 * ne + 1) (nI r)) 23 (4 * ne + 2) (nI u)) 23 (4 * ne + 3) (nI l)) 0 29 (nI (ne + 1))) := (((((fr.rf vSe m).w _ _ _ (by unfold vSe; omega)).w _ _ _ (by unfold vSe; omega)).w _ _ _ (by unfold vSe; omega)).w _ _ _ (by unfold vSe; omega)).w _ _ _ (by unfold vSe; omega)
            refine ⟨nI (ne + 1), s1, _, ?_, ?_, h.se F G (ns' := ne + 1) ⟨by omega, a3, pw_s _ _ _ _, fun e he => ?_⟩⟩
            · have hf : xl_isFull s 12 = some 0 := by rw [pl_full s 12 (by omega) v2, if_pos hn]
              unfold xb_seen
              simp only [wa, wb, wc, wz, pz_bnd, p_10, if_false, hf, p_00, if_true, a1, a3]
            · unfold xm_seen
              simp only [ga, gb, gc, gz, pz_bnd, p_10, if_false, v3, n8, y0, y1, y2, y3, i0, i1, i2, i3, x0, x1, x2, x3, pz_grt, pz_lt, q1, q2, q3, q4, pz_succ, pw_s]
            · by_cases ee : e = ne
              · subst ee
                refine ⟨t, r, u, l, t1, r1, u1, by omega, a4, a5, a6, a7, ?_, ?_, ?_, ?_⟩
                · rw [pw_p _ _ _ _ (by omega), pw_i _ _ _ (by omega), pw_i _ _ _ (by omega), pw_i _ _ _ (by omega), pw_s]
                · rw [pw_p _ _ _ _ (by omega), pw_i _ _ _ (by omega), pw_i _ _ _ (by omega), pw_s]
                · rw [pw_p _ _ _ _ (by omega), pw_i _ _ _ (by omega), pw_s]
                · rw [pw_p _ _ _ _ (by omega), pw_s]
              · have c8 : ∀ j, j < 4 * ne → (ba_w (ba_w (ba_w (ba_w (ba_w m 23 (4 * ne) (nI t)) 23 (4 * ne + 1) (nI r)) 23 (4 * ne + 2) (nI u)) 23 (4 * ne + 3) (nI l)) 0 29 (nI (ne + 1))).1 23 j = m.1 23 j := fun j hj => by
                  rw [pw_p _ _ _ _ (by omega), pw_i _ _ _ (by omega), pw_i _ _ _ (by omega), pw_i _ _ _ (by omega), pw_i _ _ _ (by omega)]
                have b8 : ∀ j, j < ne * 4 → s1.1 13 j = s.1 13 j := a8
                rw [b8 _ (by omega), b8 _ (by omega), b8 _ (by omega), b8 _ (by omega), c8 _ (by omega), c8 _ (by omega), c8 _ (by omega), c8 _ (by omega)]
                exact v4 e (by omega)
          · have n8 : nI ne = 8 := by rw [show ne = 8 by omega]; rfl
            have hf : xl_isFull s 12 = some 1 := by rw [pl_full s 12 (by omega) v2, if_neg hn]
            refine ⟨-4, s, m, ?_, ?_, h⟩
            · unfold xb_seen
              simp only [wa, wb, wc, wz, pz_bnd, p_10, if_false, hf]
            · unfold xm_seen
              simp only [ga, gb, gc, gz, pz_bnd, p_10, if_false, v3, n8, if_true]
        · exact ⟨-2, s, m, by unfold xb_seen; simp only [wa, wb, wc, wz, pz_bnd, p_10, p_00, if_true, if_false], by unfold xm_seen; simp only [ga, gb, gc, gz, pz_bnd, p_10, p_00, if_true, if_false], h⟩
      · exact ⟨-2, s, m, by unfold xb_seen; simp only [wa, wb, wc, pz_bnd, p_10, p_00, if_true, if_false], by unfold xm_seen; simp only [ga, gb, gc, pz_bnd, p_10, p_00, if_true, if_false], h⟩
    · exact ⟨-2, s, m, by unfold xb_seen; simp only [wa, wb, pz_bnd, p_10, p_00, if_true, if_false], by unfold xm_seen; simp only [ga, gb, pz_bnd, p_10, p_00, if_true, if_false], h⟩
  · exact ⟨-2, s, m, by unfold xb_seen; simp only [wa, pz_bnd, p_10, p_00, if_true, if_false], by unfold xm_seen; simp only [ga, pz_bnd, p_10, p_00, if_true, if_false], h⟩
