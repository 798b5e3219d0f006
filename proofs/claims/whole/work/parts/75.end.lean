/-! ===== whole_start, and the claim ===== -/
set_option maxHeartbeats 4000000 in
set_option maxRecDepth 100000 in
theorem whole_start {p : Program} {e : Env} {s : State} {m : MethodId} {below : List Frame} {meth : Method} {c : Code} (l : Launch) (hflags : l.flags = flags0) {b L : Nat} {xs : Nat → Int32} (hL : L ≤ 3072) (C0 : lw_At p s m meth c b L xs) : W p l e room_1 s m #[Value.ref b] below meth c s.heap [] 0 0 (lw_Z below #[Value.ref b] s) (entryFrame m ([Value.ref b] : List Value).toArray 4) := by
  have hts := lc_tb C0
  obtain ⟨hx, hb, hr, hml, hown, hto, hX, hbl, hlocks, hgv⟩ := id C0
  obtain ⟨D, cA, hK⟩ := lb_K hts hto
  obtain ⟨t0, z0, y0⟩ := ls_0 hto hgv
  obtain ⟨t1, z1, y1⟩ := ls_1 hto hgv
  obtain ⟨t2, z2, y2⟩ := ls_2 hto hgv
  obtain ⟨t3, z3, y3⟩ := ls_3 hto hgv
  have hSt : gw_St s.heap.size t0 s s.heap := ⟨z0, y0, va_AO.of (hto _ (List.mem_of_getElem? (i := 98) (by decide +kernel))), va_AO.of (hto _ (List.mem_of_getElem? (i := 252) (by decide +kernel))), va_Nw.of rfl (hto _ (List.mem_of_getElem? (i := 107) (by decide +kernel))), va_Nw.of rfl (hto _ (List.mem_of_getElem? (i := 250) (by decide +kernel))), va_Nw.of rfl (hto _ (List.mem_of_getElem? (i := 271) (by decide +kernel)))⟩
  have hA : ∀ q : Nat, s.heap.size ≤ q → (fun q : Nat => s.heap.size ≤ q) q := fun _ h => h
  have hS : va_S (fun q : Nat => s.heap.size ≤ q) s.heap s.heap [] := va_S.rf
  have hP : va_P D ba_cl [] s.heap := fun k q h => by simp at h
  have hD : va_D (fun q : Nat => s.heap.size ≤ q) [] := ⟨fun i j p q h => by simp at h, fun k q h => by simp at h⟩
  have hl := lv_entry ([.ref b]) (n := 4) (Nat.le_of_ble_eq_true rfl)
  rw [lg_entry_eq]
  generalize (lg_sl ([.ref b]) ++ List.replicate (4 - (lg_sl ([.ref b])).length) Slot.unset).toArray = ls at hl ⊢
  have hl : lv_has ls 4 [(0, .ref b)] := hl
  refine va_new (ci := 5) (fs := [.null, .null, .null, .null, .null, .null, .null, .int 0, .int 0, .int 0, .int 0, .int 0, .int 0, .int 0, .int 0, .int 0, .int 0, .null, .null]) (C := RX5) (T := TX5) (N := 19) hx hb hts kinX5 tyX5 tyX5_ok hown (hts _ kw_89) (hts _ kw_90) (hts _ kw_78) hK hP hD hS hA rfl gdf_5 (Nat.le_of_ble_eq_true rfl) (Nat.le_of_ble_eq_true rfl) dL_law_0 (fun q0 H hP hD hS => ?_)
  have hP : va_P D ba_cl ([(q0, .inr (5, [.null, .null, .null, .null, .null, .null, .null, .int 0, .int 0, .int 0, .int 0, .int 0, .int 0, .int 0, .int 0, .int 0, .int 0, .null, .null]))] ++ []) H := hP
  have hD : va_D (fun q : Nat => s.heap.size ≤ q) ([(q0, .inr (5, [.null, .null, .null, .null, .null, .null, .null, .int 0, .int 0, .int 0, .int 0, .int 0, .int 0, .int 0, .int 0, .int 0, .int 0, .null, .null]))] ++ []) := hD
  refine lv_dup hx hb dL_law_3 rfl ?_
  refine va_callv (va_runI (As := []) (rest := [.ref q0]) (Ts := ba_tb) ⟨hx, hb, hml, hown, hts⟩ (gc_Bag (D := D) (cA := cA) (h := s.heap.size) (ta := t0) q0 l []) ⟨callB_of 0 hts (ba_good (fun _ h => h) kw_93) rfl rfl rfl (hts _ kw_78) (hts _ kw_91) ⟨by decide +kernel, by decide +kernel, by decide +kernel⟩ ⟨Nat.le_of_ble_eq_true rfl, Nat.le_of_ble_eq_true rfl⟩, rfl, hts _ kw_92⟩ ⟨gw_blind, fun U hU hW => ⟨rfl, by rw [hU]; exact hS.1, by rw [hU]; exact hP, hD, va_K.moved hW.alike hK, by rw [hU]; exact hSt.go hS hW⟩⟩ rfl rfl hl.1 rfl (lv_room (Nat.le_of_ble_eq_true rfl)) dL_law_4 ⟨Nat.le_of_ble_eq_true rfl, Nat.le_of_ble_eq_true rfl⟩) hS (fun q _ h => h) (fun q h => h) (fun u t H1 locs ht hvm hw hB hz1 hk1 hS => ?_)
  rw [ht] at hB
  obtain ⟨hP, hD⟩ := hB
  refine lv_astore_n (lv' := [(1, .ref q0), (0, .ref b)]) hx hb dL_law_7 rfl hl (by decide) rfl (fun ls hl => ?_)
  refine va_new (ci := 6) (fs := [.null, .null, .null, .null, .int 0, .null, .null, .int 0, .null, .null, .int 0, .null, .int 0, .int 0, .null, .int 0, .null, .null, .null, .null, .null, .null, .null, .null, .null, .null, .null, .null, .int 0, .int 0, .null, .null, .int 0]) (C := RX6) (T := TX6) (N := 33) hx hb hts kinX6 tyX6 tyX6_ok hown (hts _ kw_785) (hts _ kw_786) (hts _ kw_85) hK hP hD hS hA rfl gdf_6 (Nat.le_of_ble_eq_true rfl) (Nat.le_of_ble_eq_true rfl) dL_law_8 (fun q1 H hP hD hS => ?_)
  have hP : va_P D ba_cl ([(q1, .inr (6, [.null, .null, .null, .null, .int 0, .null, .null, .int 0, .null, .null, .int 0, .null, .int 0, .int 0, .null, .int 0, .null, .null, .null, .null, .null, .null, .null, .null, .null, .null, .null, .null, .int 0, .int 0, .null, .null, .int 0]))] ++ (gx_Bag cA q0 u ++ [])) H := gw_Prot hP
  have hD : va_D (fun q : Nat => s.heap.size ≤ q) ([(q1, .inr (6, [.null, .null, .null, .null, .int 0, .null, .null, .int 0, .null, .null, .int 0, .null, .int 0, .int 0, .null, .int 0, .null, .null, .null, .null, .null, .null, .null, .null, .null, .null, .null, .null, .int 0, .int 0, .null, .null, .int 0]))] ++ (gx_Bag cA q0 u ++ [])) := gw_Drot hD
  refine lv_dup hx hb dL_law_11 rfl ?_
  refine va_callv (va_runI (As := []) (rest := [.ref q1]) (Ts := ba_tb) ⟨hx, hb, hml, hown, hts⟩ (gc_Model (D := D) (cA := cA) (h := s.heap.size) (ta := t0) q1 l (gx_Bag cA q0 u ++ [])) ⟨callB_of 0 hts (ba_good (fun _ h => h) kw_789) rfl rfl rfl (hts _ kw_85) (hts _ kw_787) ⟨by decide +kernel, by decide +kernel, by decide +kernel⟩ ⟨Nat.le_of_ble_eq_true rfl, Nat.le_of_ble_eq_true rfl⟩, rfl, hts _ kw_788⟩ ⟨gw_blind, fun U hU hW => ⟨rfl, by rw [hU]; exact hS.1, by rw [hU]; exact hP, hD, va_K.moved hW.alike hK, by rw [hU]; exact hSt.go hS hW⟩⟩ rfl rfl hl.1 rfl (lv_room (Nat.le_of_ble_eq_true rfl)) dL_law_12 ⟨Nat.le_of_ble_eq_true rfl, Nat.le_of_ble_eq_true rfl⟩) hS (fun q _ h => h) (fun q h => h) (fun u2 t H1 locs ht hvm hw hB hz1 hk1 hS => ?_)
  rw [ht] at hB
  obtain ⟨hP, hD⟩ := hB
  refine W.widen (k := 86) (n := 6522) (Nat.le_of_ble_eq_true rfl) (Nat.le_of_ble_eq_true rfl) ?_
  refine lv_astore_n (lv' := [(2, .ref q1), (1, .ref q0), (0, .ref b)]) hx hb dL_law_15 rfl hl (by decide) rfl (fun ls hl => ?_)
  refine lv_iconst (v := 0) hx hb dL_law_16 (by decide) ?_
  refine lv_istore_n (lv' := [(3, .int 0), (2, .ref q1), (1, .ref q0), (0, .ref b)]) hx hb dL_law_17 rfl hl (by decide) rfl (fun ls hl => ?_)
  obtain ⟨sa, hsa⟩ : ∃ sa : Nat → Nat, sa = fun i => [t0, t1, t2, t3].getD i 0 := ⟨_, rfl⟩
  have hPC := pw_C (sa := sa) (lb_Pr hP)
  have hPM := pw_M (sa := sa) hP
  obtain ⟨jC, rC⟩ := ij_C (D := D) (sa := sa) (lb_Dr hD)
  obtain ⟨jM, rM⟩ := ij_M (D := D) (sa := sa) hD
  have dj : ∀ i j, i < 61 → j < 25 → ad_C q0 u i ≠ ad_M q1 u2 j := by
    intro i j hi hj e
    obtain ⟨x, hx⟩ := at_C cA q0 u [] i hi
    obtain ⟨y, hy⟩ := at_M cA q1 u2 (gx_Bag cA q0 u ++ []) j hj
    have hx2 : (gx_Model cA q1 u2 ++ (gx_Bag cA q0 u ++ []))[25 + po_C i]? = some (ad_C q0 u i, x) := by
      rw [List.getElem?_append_right (show (gx_Model cA q1 u2).length ≤ 25 + po_C i from Nat.le_add_right 25 _)]
      rw [show 25 + po_C i - (gx_Model cA q1 u2).length = po_C i from Nat.add_sub_cancel_left 25 _]
      exact hx
    have h25 : ∀ j, j < 25 → po_M j < 25 := by decide +kernel
    have := hD.1 _ _ _ _ hx2 hy e
    have := h25 j hj
    omega
  have hSC : ba_SC ba_tC (ad_C q0 u, cA, D, sa) s s.heap := by
    have nar : ∀ q, ba_A ba_tC (ad_C q0 u, cA, D, sa) q → s.heap.size ≤ q := fun q z => by
      obtain ⟨k, hk, e⟩ := z
      rw [e]; exact rC k hk
    intro i q hq
    rw [hsa]
    match i, hq with
    | 0, hq => cases hq; exact ⟨z0.narrow (by rw [← hsa]; exact nar), y0.narrow (by rw [← hsa]; exact nar)⟩
    | 1, hq => cases hq; exact ⟨z1.narrow (by rw [← hsa]; exact nar), y1.narrow (by rw [← hsa]; exact nar)⟩
    | 2, hq => cases hq; exact ⟨z2.narrow (by rw [← hsa]; exact nar), y2.narrow (by rw [← hsa]; exact nar)⟩
    | 3, hq => cases hq; exact ⟨z3.narrow (by rw [← hsa]; exact nar), y3.narrow (by rw [← hsa]; exact nar)⟩
    | i + 4, hq =>
      have hq' : ([] : List (String × String × List Int32))[i]? = some q := hq
      rw [List.getElem?_nil] at hq'; cases hq'
  have hNW : ba_NW ba_tC s := by
    intro w hw
    have hw' : w ∈ [Cond.methodLinkNest RX4 23 yX5_within "Bagatelle", Cond.methodLinkNest RX2 32 yX5_within "Bagatelle"] := hw
    rcases List.mem_cons.mp hw' with rfl | hw'
    · exact ⟨⟨_, _, _, _, rfl⟩, va_Nw.of rfl (hto _ (List.mem_of_getElem? (i := 385) (by decide +kernel)))⟩
    · rcases List.mem_cons.mp hw' with rfl | hw'
      · exact ⟨⟨_, _, _, _, rfl⟩, va_Nw.of rfl (hto _ (List.mem_of_getElem? (i := 707) (by decide +kernel)))⟩
      · cases hw'
  have hSCM : ba_SC ba_tM (ad_M q1 u2, cA, D, sa) s s.heap := by
    intro i q hq
    have hq' : ([] : List (String × String × List Int32))[i]? = some q := hq
    rw [List.getElem?_nil] at hq'; cases hq'
  have hNWM : ba_NW ba_tM s := by
    intro w hw
    have hw' : w ∈ ([] : List Cond) := hw
    cases hw'
  have V : lc_V (ad_C q0 u, cA, D, sa) (ad_M q1 u2, cA, D, sa) (p, l, e, s, m, below, meth, c, b, L, xs) := ⟨hL, C0, jC, jM, rC, rM, dj, hK, hK, ⟨hSC, hNW⟩, hSCM, hNWM⟩
  exact law_loop V jC jM (L + 1) 0 st_C st_M (Nat.zero_le _) (by show L + 1 ≤ 0 + (L + 1); omega) RR_0 H1 locs ls hPC hPM hS (lv_sub hl [3, 2, 1, 0] rfl)
set_option maxHeartbeats 4000000 in
theorem lw_walk (l : Launch) (hflags : l.flags = flags0) (b : Addr) (xs : List Int32) : MetFree l x (headSpec (Jvm.Cond.code x code maxLocals ret :: tables_1) room_1) (lw_P b xs) (fun _ _ _ _ _ => True) lw_Q := by
  refine MetFree.of_bodyS (code := code) (maxLocals := maxLocals) (ret := ret) (by decide) ?_ ?_
  · intro args s m h hn
    obtain ⟨meth, c, h1, h2, h3, h4, h5, h6, -, -⟩ := Cond.code_spec hn (atoms_spec (ws := Jvm.Cond.code x code maxLocals ret :: tables_1) h _ List.mem_cons_self)
    exact ⟨meth, c, h1, h2, h3, h4, h5, h6⟩
  · intro p e s m args below meth c s₁ B hml0 hP _
    obtain ⟨rfl, hx, hbd, hgv⟩ := hP
    obtain ⟨scr, harrAt, hlist, hof, hsmall⟩ := hx
    obtain ⟨hcb, hkn, -, -⟩ := State.arrayAt?_spec harrAt
    have hown : s.vm.findClass R_law = some m.cls := findClass_of_methodNamed B.named
    have hts0 : ∀ c ∈ (Jvm.Cond.code x code maxLocals ret :: tables_1), c.before #[Value.ref b] s = true := atoms_spec (ws := Jvm.Cond.code x code maxLocals ret :: tables_1) B.pre
    have hts : ∀ w ∈ lw_tbl, w.before #[Value.ref b] s = true := k2_hts_sels lw_privs (fun w hw => hts0 w (List.mem_cons_of_mem _ hw)) lw_privs_ok
    have hml : c.maxLocals = 4 := B.maxLocals_eq (hts0 _ List.mem_cons_self)
    have X₀ : Stand p l e room_1 s m #[Value.ref b] below meth c s₁ [] 0 0 := Stand.of_body B
    have hh0 : s₁.heap = s.heap := by rw [B.state]; rfl
    have hsz : scr.slots.size = xs.length := by rw [← Array.length_toList, hlist, List.length_map]
    have hval : ∀ j : Nat, j < xs.length → scr.slots[j]? = some (.int (xs.getD j 0)) := fun j hj => by
      rw [← Array.getElem?_toList, hlist]
      simp [hj]
    have hbl : b < s.heap.size := (Array.getElem?_eq_some_iff.mp hcb).1
    have hX : va_X b xs.length (fun j => xs.getD j 0) s s.heap := ⟨scr, hcb, hof, hkn, hsz, hval⟩
    have K : W p l e room_1 s m #[Value.ref b] below meth c s₁.heap [] 0 0 (lw_Z below #[Value.ref b] s) (entryFrame m ([Value.ref b] : List Value).toArray 4) := by
      rw [hh0]
      exact whole_start l hflags hbd ⟨B.exec, B.bytes, B.returns, hml, hown, hts, hX, hbl, B.notSynchronized, hgv⟩
    obtain ⟨t, a1, o, b1, b2, b3⟩ := K s₁ rfl X₀
    exact ⟨t, o, a1, b1, b2, b3⟩
theorem lw_pre_spec {args : Array Value} {s : State} (h : (Jvm.Cond.and given_1 narrow_1).before args s = true) (hr : rest_1_c.before args s = true) : ∃ (b : Addr) (xs : List Int32), lw_P b xs args s := by
  have hs := flat_of_before _ h
  have hq := flat_of_before _ hr
  have hc : (Cond.count 1).before args s = true := hs _ (by decide +kernel)
  have harr : (Cond.arrayOf (.arg 0) .int).before args s = true := hs _ (by decide +kernel)
  have hle : (Cond.le (.length (.arg 0)) (.int 3072)).before args s = true := hs _ (by decide +kernel)
  have hlen : (Cond.isInt (.length (.arg 0))).before args s = true := hq _ (by decide +kernel)
  have hall : (Cond.all (.arg 0) (.isInt (.elem (.arg 0) (.index 0)))).before args s = true := hq _ (by decide +kernel)
  obtain ⟨b, xs, hb, hx⟩ := State.ints_of_pre rfl harr hlen hall
  have hsm : xs.length < 2 ^ 31 := hx.choose_spec.2.2.2
  have hev : (Term.length (.arg 0)).eval args s none [] s = some (.int xs.length.toInt32) := hx.length_eval hb
  have hv := Cond.le_ints hev (show (Term.int 3072).eval args s none [] s = some (.int 3072) from rfl)
  have hd : xs.length.toInt32 ≤ 3072 := by
    simpa [Cond.before, Cond.holds, hv] using hle
  have hN : xs.length ≤ 3072 := (Int32.ofNat_le_ofNat hsm (by decide)).mp (show Int32.ofNat xs.length ≤ Int32.ofNat 3072 from hd)
  exact ⟨b, xs, Cond.one_arg hc (show args[0]? = some (.ref b) from hb), hx, hN, h⟩
theorem lw_comes (l : Launch) (hflags : l.flags = flags0) : Comes l x (Jvm.Cond.code x code maxLocals ret :: tables_1) room_1 (fun tb e args s => Calls_1 tb e args s ∧ rest_1 tb e args s ∧ Pre_1 tb e args s)
    (fun _ _ args s o t => lw_Q args s o t) := by
  intro p e ha hc hk s m args below hf hfit hheap happ hpre
  obtain ⟨b, xs, hP⟩ := lw_pre_spec hpre.2.2 hpre.2.1
  obtain ⟨k, o, h1, h2, h3, hQ⟩ := lw_walk l hflags b xs p e ha hc hk s m args below hf ((Spec.applies_iff_loose hf).mp happ).1 hP trivial
  exact ⟨k, o, h1, h2, h3, hQ⟩
theorem lw_frame {s t : State} {o : Outcome} {args : Array Value} (h : Framed s o t [] 600000 7302250) :
    Framed s o t (fieldLocs frame_1_writes args s ++ arrayLocs frame_1_arrays args s ++ staticLocs frame_1_statics s) 600000 7302250 := h
theorem lw_limb (L : Cond) (hL : ∀ (args : Array Value) (s t : State), L.after args s (.returned (some (.int 1))) t = true) :
    ArmFor flags0 classFile x code maxLocals ret World_1 tables_1 room_1 Calls_1 rest_1 Pre_1
      (fun tb e a s o t => postC L tb e a s o t ∧ Framed s o t (fieldLocs frame_1_writes a s ++ arrayLocs frame_1_arrays a s ++ staticLocs frame_1_statics s) 600000 7302250) := by
  intro l hflags _ _ p e ha hc hk s m args below hf hfit hheap happ hpre
  obtain ⟨k, o, h1, h2, h3, rfl, hF⟩ := lw_comes l hflags p e ha hc hk s m args below hf hfit hheap happ hpre
  exact ⟨k, _, h1, h2, h3, hL args s _, lw_frame hF⟩
theorem i_vc : Claimed_1_1 ∧ Claimed_1_2 := ⟨lw_limb limb_1_1 (fun args s t => by simp [limb_1_1, Cond.after, Cond.holds, Cond.value]), lw_limb limb_1_2 (fun args s t => Cond.after_iff.mpr (by
  first | (rw [show limb_1_2 = Cond.eq .result (.int 1) from rfl, Cond.eq_ints (x := 1) (y := 1) rfl rfl]; simp; done) | (simp [limb_1_2, Cond.value, Term.eval]; done)))⟩
