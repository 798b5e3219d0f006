/-! ===== shoot, time, bend ===== -/
theorem pz_succ (k : Nat) : nI k + 1 = nI (k + 1) := by rw [pz_lit 1, nI_add]
def wCh (p j : Nat) : Prop := 46 ≤ p ∨ (p = 0 ∧ 9 ≤ j ∧ j ≤ 11)
def wMs (th nu p j : Nat) : Prop := wL p j ∨ (p = mp th ∧ j = mi th nu)
/-- the reference's answer to a search -/
def xsr (th nu : Nat) (w : Int32) (m : ba_St) : Option (Int32 × ba_St) :=
  if th = 0 then xm_ballBetter m (nI (2 * nu + 1)) 1 10 w else if th = 1 then xm_ballBetter m (nI (2 * nu)) 0 24 w else xm_bendOf m (nI nu) w
theorem xsr_eq {th nu : Nat} (hth : th < 3) (hnu : nu < 12) (w : Int32) (m : ba_St) : xsr th nu w m = ba_bnd (ba_fix (xsM (mp th) (mi th nu) (hiC th)) 1000 (m, pn, pn, nI (lo th))) fun o => some (if w = 0 then o.2.1 else o.2.2, ba_w o.1 (mp th) (mi th nu) (m.1 (mp th) (mi th nu))) := by
  have h3 : th = 0 ∨ th = 1 ∨ th = 2 := by omega
  rcases h3 with h | h | h <;> subst h
  · have h1 : ba_inb (nI (2 * nu + 1)) 24 = true := pz_inb (by omega) (by omega)
    have h2 : ba_ix (nI (2 * nu + 1)) = 2 * nu + 1 := pz_ix (by omega)
    show xm_ballBetter m (nI (2 * nu + 1)) 1 (nI 10) w = _
    unfold xm_ballBetter
    simp only [h1, h2, pz_grt, pz_lt]
    rw [xsM_ball (i := 2 * nu + 1) (h := 10) (by omega)]
    congr 1; funext ⟨o1, o2, o3⟩; show (if w = 0 then _ else _) = some ((if w = 0 then _ else _), _); split <;> rfl
  · have h1 : ba_inb (nI (2 * nu)) 24 = true := pz_inb (by omega) (by omega)
    have h2 : ba_ix (nI (2 * nu)) = 2 * nu := pz_ix (by omega)
    show xm_ballBetter m (nI (2 * nu)) 0 (nI 24) w = _
    unfold xm_ballBetter
    simp only [h1, h2, pz_grt, pz_lt]
    rw [xsM_ball (i := 2 * nu) (h := 24) (by omega)]
    congr 1; funext ⟨o1, o2, o3⟩; show (if w = 0 then _ else _) = some ((if w = 0 then _ else _), _); split <;> rfl
  · have e : 3 * nI nu + 2 = nI (3 * nu + 2) := by rw [pz_lit 3, pz_lit 2, pk_mul, nI_add]
    have h1 : ba_inb (nI (3 * nu + 2)) 36 = true := pz_inb (by omega) (by omega)
    have h2 : ba_ix (nI (3 * nu + 2)) = 3 * nu + 2 := pz_ix (by omega)
    show xm_bendOf m (nI nu) w = _
    unfold xm_bendOf
    simp only [e, h1, h2, pz_grt, pz_lt]
    rw [xsM_bend hnu]
    congr 1; funext ⟨o1, o2, o3⟩; show (if w = 0 then _ else _) = some ((if w = 0 then _ else _), _); split <;> rfl
theorem ptv_hi {th : Nat} (hth : th < 3) : ba_tv [9, 23, 3] (nI th) = nI (hiC th - 1) ∧ ba_tv [1, 0, 0] (nI th) = nI (lo th) ∧ lo th < hiC th ∧ hiC th ≤ 24 := by
  have h3 : th = 0 ∨ th = 1 ∨ th = 2 := by omega
  rcases h3 with h | h | h <;> subst h <;> exact ⟨by decide, by decide, by decide, by decide⟩
/-- the search in both -/
theorem srch {s m : ba_St} {N np ne : Nat} {pc : Nat → Nat} (K : kT s m N np ne pc) {th nu : Nat} (hth : th < 3) (hnu : nu < bnd3 th N np) (hne : s.1 0 9 ≠ nI (th * 12 + nu)) : ∃ s' m', (∀ z, xb_bestChoice s (nI th) (nI nu) z = some (if z = 0 then s'.1 0 10 else s'.1 0 11, s')) ∧ (∀ w, xsr th nu w m = some (if w = 0 then s'.1 0 10 else s'.1 0 11, m')) ∧ fr wCh s s' ∧ s'.1 0 9 = nI (th * 12 + nu) ∧ fr wL m m' := by
  have hN := K.1.1
  have hnp := K.1.2.1
  have hnu12 : nu < 12 := by unfold bnd3 at hnu; split at hnu <;> omega
  obtain ⟨tv1, tv2, tv3, tv4⟩ := ptv_hi hth
  obtain ⟨s0, hs0⟩ : ∃ s0, s0 = ba_w (ba_w s 0 9 (nI (th * 12 + nu))) 0 11 pn := ⟨_, rfl⟩
  have F0 : fr wCh s s0 := by rw [hs0]; exact ((fr.rf wCh s).w 0 9 _ (by unfold wCh; omega)).w 0 11 _ (by unfold wCh; omega)
  have q9 : s0.1 0 9 = nI (th * 12 + nu) := by rw [hs0, pw_i _ _ _ (by omega), pw_s]
  have q11 : s0.1 0 11 = pn := by rw [hs0, pw_s]
  obtain ⟨s1, t1, t2, t3, t4, t5⟩ := pc_takeTold s0 (b := 46) (by omega)
  have wr : ∀ p j, wCh p j → wRun p j := fun p j w => by unfold wCh at w; unfold wRun; omega
  have K0 : kT s0 m N np ne pc := K.mv (F0.mono wr) (fr.rf wL m)
  have E1 := te_told (by omega) K0 t2 t3 t4 t5
  have F1 : fr wCh s s1 := F0.tr (t2.mono (fun p j w => by unfold wTT at w; unfold wCh; omega))
  have g9 : s1.1 0 9 = nI (th * 12 + nu) := by rw [t2.2 0 9 (by unfold wTT; omega)]; exact q9
  have g11 : s1.1 0 11 = pn := by rw [t2.2 0 11 (by unfold wTT; omega)]; exact q11
  obtain ⟨n, hn⟩ : ∃ n, n = hiC th - lo th := ⟨_, rfl⟩
  have main : ∀ z, ∃ o u, (∃ be sc, u = (u.1, be, sc) ∧ o.1 0 10 = be ∧ o.1 0 11 = sc ∧ fr wCh s o ∧ o.1 0 9 = nI (th * 12 + nu) ∧ fr (wMs th nu) m u.1) ∧ ba_fix (xb_bestChoice_l42 (nI th) (nI nu) z) 1000 (s1, nI (lo th)) = some o ∧ ba_fix (xsM (mp th) (mi th nu) (hiC th)) 1000 (m, pn, pn, nI (lo th)) = some u := by
    intro z
    refine pf_two (F := xb_bestChoice_l42 (nI th) (nI nu) z) (E := xsM (mp th) (mi th nu) (hiC th)) (fun i a b => ∃ sa mb be sc, a = (sa, nI (lo th + i)) ∧ b = (mb, be, sc, nI (lo th + i)) ∧ te_E 46 sa mb N np ne pc ∧ sa.1 0 11 = sc ∧ sa.1 0 9 = nI (th * 12 + nu) ∧ ((i = 0 ∧ sc = pn) ∨ (0 < i ∧ sa.1 0 10 = be ∧ ∃ x, x ≤ 300 ∧ sc = nI x)) ∧ fr wCh s sa ∧ fr (wMs th nu) m mb)
      (fun o u => ∃ be sc, u = (u.1, be, sc) ∧ o.1 0 10 = be ∧ o.1 0 11 = sc ∧ fr wCh s o ∧ o.1 0 9 = nI (th * 12 + nu) ∧ fr (wMs th nu) m u.1) n ?_ ?_ 1000 1000 0 _ _ (by omega) (by omega) (by omega) ?_
    · rintro i a b hi ⟨sa, mb, be, sc, rfl, rfl, E, a1, a2, a3, a4, a5⟩
      have E2 := te_alt (b := 46) (by omega) E hth hnu (v := lo th + i) (by omega) (by omega)
      obtain ⟨s2, m2, d1, d2, hres, hF, hM, E'⟩ := te_go (by omega) E2
      obtain ⟨x, x1, x2, x3⟩ := rd_score hres
      have b11 : s2.1 0 11 = sc := by rw [hF.2 0 11 (by omega) (by omega), pw_p _ _ _ _ (by omega)]; exact a1
      have b10 : s2.1 0 10 = sa.1 0 10 := by rw [hF.2 0 10 (by omega) (by omega), pw_p _ _ _ _ (by omega)]
      have b9 : s2.1 0 9 = nI (th * 12 + nu) := by rw [hF.2 0 9 (by omega) (by omega), pw_p _ _ _ _ (by omega)]; exact a2
      have FS : fr wCh s s2 := (a4.w (46 + 3 - th) nu _ (by unfold wCh; omega)).tr ⟨hF.1, fun p j w => hF.2 p j (by unfold wCh at w; omega) (by unfold wCh at w; omega)⟩
      have FM : fr (wMs th nu) m m2 := (a5.w (mp th) (mi th nu) _ (Or.inr ⟨rfl, rfl⟩)).tr (hM.fr.mono (fun p j w => Or.inl w))
      have i3 : ba_inb (nI th) 3 = true := pz_inb hth (by omega)
      have cF : ∀ k, xb_bestChoice_l42 (nI th) (nI nu) z k (sa, nI (lo th + i)) = if nI x ≤ sc then k (s2, nI (lo th + i + 1)) else k (ba_w (ba_w s2 0 10 (nI (lo th + i))) 0 11 (nI x), nI (lo th + i + 1)) := by
        intro k
        have hnl : ¬ hiC th - 1 < lo th + i := by omega
        unfold xb_bestChoice_l42
        simp (disch := omega) only [i3, pz_grt, tv1, pz_ltN, hnl, if_false, pc_choose sa 46 hth hnu12, pz_bnd, d1, x2, b11, pz_lt, pz_succ]
      have cM : ∀ k, xsM (mp th) (mi th nu) (hiC th) k (mb, be, sc, nI (lo th + i)) = k (m2, (if nI x ≤ sc then be else nI (lo th + i)), (if sc < nI x then nI x else sc), nI (lo th + i + 1)) := by
        intro k
        have hnl : ¬ hiC th ≤ lo th + i := by omega
        unfold xsM
        simp (disch := omega) only [pz_le, hnl, if_false, d2, pz_bnd, x3, pz_lit, nI_add]
      by_cases hc : nI x ≤ sc
      · have hi0 : 0 < i ∧ sa.1 0 10 = be ∧ ∃ x, x ≤ 300 ∧ sc = nI x := by
          rcases a3 with ⟨-, e⟩ | h
          · rw [e, pz_lepn (by omega)] at hc; exact hc.elim
          · exact h
        obtain ⟨-, c1, y, c2, c3⟩ := hi0
        have hnl : ¬ sc < nI x := by rw [c3, pz_ltN (by omega) (by omega)]; rw [c3, pz_le (by omega) (by omega)] at hc; omega
        refine ⟨(s2, nI (lo th + i + 1)), (m2, be, sc, nI (lo th + i + 1)), ⟨s2, m2, be, sc, by rw [Nat.add_assoc], by rw [Nat.add_assoc], E', b11, b9, Or.inr ⟨by omega, by rw [b10]; exact c1, y, c2, c3⟩, FS, FM⟩, fun k => by rw [cF, if_pos hc], fun k => by rw [cM, if_pos hc, if_neg hnl]⟩
      · have hl : sc < nI x := by
          rcases a3 with ⟨-, e⟩ | ⟨-, -, y, c2, c3⟩
          · rw [e, pz_pnlt (by omega)]; trivial
          · rw [c3, pz_ltN (by omega) (by omega)]; rw [c3, pz_le (by omega) (by omega)] at hc; omega
        refine ⟨(ba_w (ba_w s2 0 10 (nI (lo th + i))) 0 11 (nI x), nI (lo th + i + 1)), (m2, nI (lo th + i), nI x, nI (lo th + i + 1)), ⟨_, m2, _, _, by rw [Nat.add_assoc], by rw [Nat.add_assoc], ?_, pw_s _ _ _ _, ?_, Or.inr ⟨by omega, ?_, x, x1, rfl⟩, (FS.w 0 10 _ (by unfold wCh; omega)).w 0 11 _ (by unfold wCh; omega), FM⟩, fun k => by rw [cF, if_neg hc], fun k => by rw [cM, if_neg hc, if_pos hl]⟩
        · refine E'.up (by omega) (fun p j _ h0 => ?_) ?_ (fun _ _ _ _ => rfl) (fun _ _ => ⟨rfl, rfl⟩) (fun _ => rfl) (fun _ => rfl) (fun i hi => ?_) (fun e he => ?_) (fun k hk => ?_)
          · rw [pw_p _ _ _ _ h0, pw_p _ _ _ _ h0]
          · rw [pw_p _ _ _ _ (by omega), pw_p _ _ _ _ (by omega)]
          · rw [pw_p _ _ _ _ (by omega), pw_p _ _ _ _ (by omega)]; exact E'.2.2.2.2.1 i hi
          · rw [pw_p _ _ _ _ (by omega), pw_p _ _ _ _ (by omega)]; exact E'.2.2.2.2.2.2.1 e he
          · rw [pw_p _ _ _ _ (by omega), pw_p _ _ _ _ (by omega), pw_p _ _ _ _ (by omega), pw_p _ _ _ _ (by omega)]; exact E'.2.2.2.2.2.2.2 k hk
        · rw [pw_i _ _ _ (by omega), pw_i _ _ _ (by omega)]; exact b9
        · rw [pw_i _ _ _ (by omega), pw_s]
    · rintro a b ⟨sa, mb, be, sc, rfl, rfl, E, a1, a2, a3, a4, a5⟩
      have i3 : ba_inb (nI th) 3 = true := pz_inb hth (by omega)
      rcases a3 with ⟨h0, -⟩ | ⟨-, c1, -⟩
      · omega
      · refine ⟨sa, (mb, be, sc), ⟨be, sc, rfl, c1, a1, a4, a2, a5⟩, fun k => ?_, fun k => ?_⟩
        · have hl : hiC th - 1 < lo th + n := by omega
          unfold xb_bestChoice_l42
          simp (disch := omega) only [i3, pz_grt, tv1, pz_ltN, hl, if_true]
        · have hl : hiC th ≤ lo th + n := by omega
          unfold xsM
          simp (disch := omega) only [pz_le, hl, if_true]
    · exact ⟨s1, m, pn, pn, rfl, rfl, E1, g11, g9, Or.inl ⟨rfl, rfl⟩, F1, fr.rf _ _⟩
  obtain ⟨o, u, ⟨be, sc, u1, u2, u3, u4, u5, u6⟩, e1, e2⟩ := main 0
  have e1' : ∀ z, ba_fix (xb_bestChoice_l42 (nI th) (nI nu) z) 1000 (s1, nI (lo th)) = some o := fun z => e1
  have ex : nI th * 12 + nI nu = nI (th * 12 + nu) := by rw [pz_lit 12, pk_mul, nI_add]
  have i3 : ba_inb (nI th) 3 = true := pz_inb hth (by omega)
  refine ⟨o, ba_w u.1 (mp th) (mi th nu) (m.1 (mp th) (mi th nu)), fun z => ?_, fun w => ?_, u4, u5, ⟨?_, fun p j w => ?_⟩⟩
  · unfold xb_bestChoice
    simp only [ex, pz_lt, hne, if_false, pz_m1, ← hs0, t1, pz_bnd, i3, pz_grt, tv2, e1' z]
    unfold xb_bestChoice_j106
    split <;> rfl
  · rw [xsr_eq hth hnu12, e2, pz_bnd, u1]
    simp only [u2, u3]
  · rw [pw_2]; exact u6.1
  · rw [pw]
    split
    · rename_i h; rw [h.1, h.2]
    · rename_i h
      exact u6.2 p j (fun q => q.elim w h)
