/-! ===== the worlds behind the constructors, as worlds of a fixed shape (by program: start.py) ===== -/
theorem arrV_same {cI : ClassId} {n : Nat} {f g : Nat → Value} (h : ∀ i, i < n → f i = g i) : arrV cI n f = arrV cI n g := by
  unfold arrV
  congr 1
  apply Array.ext
  · rw [Array.size_ofFn, Array.size_ofFn]
  · intro i h1 h2
    rw [Array.getElem_ofFn, Array.getElem_ofFn]
    exact h i (by rw [Array.size_ofFn] at h1; exact h1)
theorem st_ref {D : va_G} {cl : List vw_C} {q n : Nat} {c : ClassId} {f g : Nat → Option Nat} {H : Heap} (h : va_at D cl (q, .inl (c, n, .inr (.inr (.inr (.inr f))))) H) (e : ∀ i, i < n → f i = g i) : va_at D cl (q, .inl (c, n, .inr (.inr (.inr (.inr g))))) H := by
  show H[q]? = some (vp_cell c (n, .inr (.inr (.inr (.inr g)))))
  have h' : H[q]? = some (vp_cell c (n, .inr (.inr (.inr (.inr f))))) := h
  rw [h', vp_cell_q, vp_cell_q, arrV_same (fun i hi => by rw [e i hi])]
def ad_C (a : Nat) (u : Nat → Nat) (p : Nat) : Nat := [a, (u 0), (u 1), (u 2), (u 3), (u 4), (u 5), (u 6), (u 7), (u 8), (u 9), (u 10), (u 41), (u 42), (u 43), (u 44), (u 45), (u 46), (u 47), (u 48), (u 49), (u 50), (u 51), (u 52), (u 53), (u 54), (u 55), (u 56), (u 57), (u 58), (u 59), (u 11), (u 12), (u 13), (u 14), (u 15), (u 16), (u 17), (u 18), (u 19), (u 20), (u 21), (u 22), (u 23), (u 24), (u 25), (u 26), (u 27), (u 28), (u 29), (u 30), (u 31), (u 32), (u 33), (u 34), (u 35), (u 36), (u 37), (u 38), (u 39), (u 40)].getD p 0
def po_C (p : Nat) : Nat := [60, 59, 58, 57, 56, 55, 54, 53, 52, 51, 50, 49, 18, 17, 16, 15, 14, 13, 12, 11, 10, 9, 8, 7, 6, 5, 4, 3, 2, 1, 0, 48, 47, 46, 45, 44, 43, 42, 41, 40, 39, 38, 37, 36, 35, 34, 33, 32, 31, 30, 29, 28, 27, 26, 25, 24, 23, 22, 21, 20, 19].getD p 0
def st_C1 (p : Nat) : Nat → Int32 := match p with
  | 0 => fun j => match j with
    | 9 => (-1)
    | 10 => (-1)
    | 13 => (-1)
    | 14 => (-1)
    | 15 => (-1)
    | _ => 0
  | 2 => upd (upd (upd (fun _ => 0) 0 (-1)) 1 (-1)) 2 (-1)
  | 3 => fun j => match j with
    | 8 => 2
    | _ => 0
  | 6 => fun j => if j < 72 then (-1) else (fun _ => 0) j
  | 23 => fun j => match j with
    | 3 => 1
    | _ => 0
  | 25 => fun j => match j with
    | 3 => 1
    | _ => 0
  | 27 => fun j => match j with
    | 3 => 1
    | _ => 0
  | 29 => fun j => match j with
    | 3 => 1
    | _ => 0
  | _ => fun _ => 0
def st_C : ba_St := (st_C1, fun _ _ => 0)
set_option maxHeartbeats 4000000 in
set_option maxRecDepth 100000 in
theorem at_C (cA : Nat → ClassId) (a : Nat) (u : Nat → Nat) (R : va_W) : ∀ k, k < 61 → ∃ e, (gx_Bag cA a u ++ R)[po_C k]? = some (ad_C a u k, e) := by
  intro k hk
  match k, hk with
  | 0, _ => exact ⟨_, rfl⟩
  | 1, _ => exact ⟨_, rfl⟩
  | 2, _ => exact ⟨_, rfl⟩
  | 3, _ => exact ⟨_, rfl⟩
  | 4, _ => exact ⟨_, rfl⟩
  | 5, _ => exact ⟨_, rfl⟩
  | 6, _ => exact ⟨_, rfl⟩
  | 7, _ => exact ⟨_, rfl⟩
  | 8, _ => exact ⟨_, rfl⟩
  | 9, _ => exact ⟨_, rfl⟩
  | 10, _ => exact ⟨_, rfl⟩
  | 11, _ => exact ⟨_, rfl⟩
  | 12, _ => exact ⟨_, rfl⟩
  | 13, _ => exact ⟨_, rfl⟩
  | 14, _ => exact ⟨_, rfl⟩
  | 15, _ => exact ⟨_, rfl⟩
  | 16, _ => exact ⟨_, rfl⟩
  | 17, _ => exact ⟨_, rfl⟩
  | 18, _ => exact ⟨_, rfl⟩
  | 19, _ => exact ⟨_, rfl⟩
  | 20, _ => exact ⟨_, rfl⟩
  | 21, _ => exact ⟨_, rfl⟩
  | 22, _ => exact ⟨_, rfl⟩
  | 23, _ => exact ⟨_, rfl⟩
  | 24, _ => exact ⟨_, rfl⟩
  | 25, _ => exact ⟨_, rfl⟩
  | 26, _ => exact ⟨_, rfl⟩
  | 27, _ => exact ⟨_, rfl⟩
  | 28, _ => exact ⟨_, rfl⟩
  | 29, _ => exact ⟨_, rfl⟩
  | 30, _ => exact ⟨_, rfl⟩
  | 31, _ => exact ⟨_, rfl⟩
  | 32, _ => exact ⟨_, rfl⟩
  | 33, _ => exact ⟨_, rfl⟩
  | 34, _ => exact ⟨_, rfl⟩
  | 35, _ => exact ⟨_, rfl⟩
  | 36, _ => exact ⟨_, rfl⟩
  | 37, _ => exact ⟨_, rfl⟩
  | 38, _ => exact ⟨_, rfl⟩
  | 39, _ => exact ⟨_, rfl⟩
  | 40, _ => exact ⟨_, rfl⟩
  | 41, _ => exact ⟨_, rfl⟩
  | 42, _ => exact ⟨_, rfl⟩
  | 43, _ => exact ⟨_, rfl⟩
  | 44, _ => exact ⟨_, rfl⟩
  | 45, _ => exact ⟨_, rfl⟩
  | 46, _ => exact ⟨_, rfl⟩
  | 47, _ => exact ⟨_, rfl⟩
  | 48, _ => exact ⟨_, rfl⟩
  | 49, _ => exact ⟨_, rfl⟩
  | 50, _ => exact ⟨_, rfl⟩
  | 51, _ => exact ⟨_, rfl⟩
  | 52, _ => exact ⟨_, rfl⟩
  | 53, _ => exact ⟨_, rfl⟩
  | 54, _ => exact ⟨_, rfl⟩
  | 55, _ => exact ⟨_, rfl⟩
  | 56, _ => exact ⟨_, rfl⟩
  | 57, _ => exact ⟨_, rfl⟩
  | 58, _ => exact ⟨_, rfl⟩
  | 59, _ => exact ⟨_, rfl⟩
  | 60, _ => exact ⟨_, rfl⟩
  | k + 61, hk => exact absurd hk (by omega)
theorem pi_C : ∀ i, i < 61 → ∀ j, j < 61 → po_C i = po_C j → i = j := by decide +kernel
theorem ij_C {cA : Nat → ClassId} {D : va_G} {sa : Nat → Nat} {A : Nat → Prop} {a : Nat} {u : Nat → Nat} {R : va_W} (hD : va_D A (gx_Bag cA a u ++ R)) : ba_inj ba_tC (ad_C a u, cA, D, sa) ∧ ∀ k, k < 61 → A (ad_C a u k) := by
  refine ⟨fun i j hi hj e => ?_, fun k hk => ?_⟩
  · obtain ⟨x, hx⟩ := at_C cA a u R i hi
    obtain ⟨y, hy⟩ := at_C cA a u R j hj
    exact pi_C i hi j hj (hD.1 _ _ _ _ hx hy e)
  · obtain ⟨x, hx⟩ := at_C cA a u R k hk
    exact hD.2 _ _ hx
set_option maxHeartbeats 4000000 in
set_option maxRecDepth 100000 in
theorem pw_C {cA : Nat → ClassId} {D : va_G} {sa : Nat → Nat} {a : Nat} {u : Nat → Nat} {R : va_W} {H : Heap} (hP : va_P D ba_cl (gx_Bag cA a u ++ R) H) : va_P D ba_cl (ba_ws ba_tC (ad_C a u, cA, D, sa) st_C) H := by
  intro k q hq
  have hk : k < 61 := by
    have := (List.getElem?_eq_some_iff.mp hq).1
    unfold ba_ws at this
    rw [List.length_map, List.length_range] at this
    exact this
  rw [ba_ws_at (T := ba_tC) hk] at hq
  have e := (Option.some.inj hq).symm
  rw [e]
  match k, hk with
  | 0, _ => exact hP 60 _ rfl
  | 1, _ => exact st_ref (hP 59 _ rfl) (fun i (hi : i < 3) => by
      match i, hi with
      | 0, _ => rfl
      | 1, _ => rfl
      | 2, _ => rfl
      | i + 3, hi => exact absurd hi (by omega))
  | 2, _ => exact hP 58 _ rfl
  | 3, _ => exact hP 57 _ rfl
  | 4, _ => exact hP 56 _ rfl
  | 5, _ => exact hP 55 _ rfl
  | 6, _ => exact hP 54 _ rfl
  | 7, _ => exact hP 53 _ rfl
  | 8, _ => exact hP 52 _ rfl
  | 9, _ => exact hP 51 _ rfl
  | 10, _ => exact hP 50 _ rfl
  | 11, _ => exact hP 49 _ rfl
  | 12, _ => exact hP 18 _ rfl
  | 13, _ => exact hP 17 _ rfl
  | 14, _ => exact st_ref (hP 16 _ rfl) (fun i (hi : i < 4) => by
      match i, hi with
      | 0, _ => rfl
      | 1, _ => rfl
      | 2, _ => rfl
      | 3, _ => rfl
      | i + 4, hi => exact absurd hi (by omega))
  | 15, _ => exact hP 15 _ rfl
  | 16, _ => exact hP 14 _ rfl
  | 17, _ => exact hP 13 _ rfl
  | 18, _ => exact hP 12 _ rfl
  | 19, _ => exact hP 11 _ rfl
  | 20, _ => exact hP 10 _ rfl
  | 21, _ => exact hP 9 _ rfl
  | 22, _ => exact hP 8 _ rfl
  | 23, _ => exact hP 7 _ rfl
  | 24, _ => exact hP 6 _ rfl
  | 25, _ => exact hP 5 _ rfl
  | 26, _ => exact hP 4 _ rfl
  | 27, _ => exact hP 3 _ rfl
  | 28, _ => exact hP 2 _ rfl
  | 29, _ => exact hP 1 _ rfl
  | 30, _ => exact hP 0 _ rfl
  | 31, _ => exact hP 48 _ rfl
  | 32, _ => exact hP 47 _ rfl
  | 33, _ => exact hP 46 _ rfl
  | 34, _ => exact hP 45 _ rfl
  | 35, _ => exact hP 44 _ rfl
  | 36, _ => exact hP 43 _ rfl
  | 37, _ => exact hP 42 _ rfl
  | 38, _ => exact hP 41 _ rfl
  | 39, _ => exact hP 40 _ rfl
  | 40, _ => exact hP 39 _ rfl
  | 41, _ => exact hP 38 _ rfl
  | 42, _ => exact hP 37 _ rfl
  | 43, _ => exact hP 36 _ rfl
  | 44, _ => exact hP 35 _ rfl
  | 45, _ => exact hP 34 _ rfl
  | 46, _ => exact hP 33 _ rfl
  | 47, _ => exact hP 32 _ rfl
  | 48, _ => exact hP 31 _ rfl
  | 49, _ => exact hP 30 _ rfl
  | 50, _ => exact hP 29 _ rfl
  | 51, _ => exact hP 28 _ rfl
  | 52, _ => exact hP 27 _ rfl
  | 53, _ => exact hP 26 _ rfl
  | 54, _ => exact hP 25 _ rfl
  | 55, _ => exact hP 24 _ rfl
  | 56, _ => exact hP 23 _ rfl
  | 57, _ => exact hP 22 _ rfl
  | 58, _ => exact hP 21 _ rfl
  | 59, _ => exact hP 20 _ rfl
  | 60, _ => exact hP 19 _ rfl
  | k + 61, hk => exact absurd hk (by omega)
def ad_M (a : Nat) (u : Nat → Nat) (p : Nat) : Nat := [a, (u 0), (u 1), (u 2), (u 3), (u 4), (u 5), (u 6), (u 7), (u 8), (u 9), (u 10), (u 11), (u 12), (u 13), (u 14), (u 15), (u 16), (u 17), (u 18), (u 19), (u 20), (u 21), (u 22), (u 23)].getD p 0
def po_M (p : Nat) : Nat := [24, 23, 22, 21, 20, 19, 18, 17, 16, 15, 14, 13, 12, 11, 10, 9, 8, 7, 6, 5, 4, 3, 2, 1, 0].getD p 0
def st_M1 (p : Nat) : Nat → Int32 := match p with
  | 0 => fun j => match j with
    | 12 => 2
    | _ => 0
  | 1 => upd (upd (upd (upd (fun _ => 0) 0 (-1)) 1 (-1)) 2 (-1)) 3 (-1)
  | _ => fun _ => 0
def st_M : ba_St := (st_M1, fun _ _ => 0)
set_option maxHeartbeats 4000000 in
set_option maxRecDepth 100000 in
theorem at_M (cA : Nat → ClassId) (a : Nat) (u : Nat → Nat) (R : va_W) : ∀ k, k < 25 → ∃ e, (gx_Model cA a u ++ R)[po_M k]? = some (ad_M a u k, e) := by
  intro k hk
  match k, hk with
  | 0, _ => exact ⟨_, rfl⟩
  | 1, _ => exact ⟨_, rfl⟩
  | 2, _ => exact ⟨_, rfl⟩
  | 3, _ => exact ⟨_, rfl⟩
  | 4, _ => exact ⟨_, rfl⟩
  | 5, _ => exact ⟨_, rfl⟩
  | 6, _ => exact ⟨_, rfl⟩
  | 7, _ => exact ⟨_, rfl⟩
  | 8, _ => exact ⟨_, rfl⟩
  | 9, _ => exact ⟨_, rfl⟩
  | 10, _ => exact ⟨_, rfl⟩
  | 11, _ => exact ⟨_, rfl⟩
  | 12, _ => exact ⟨_, rfl⟩
  | 13, _ => exact ⟨_, rfl⟩
  | 14, _ => exact ⟨_, rfl⟩
  | 15, _ => exact ⟨_, rfl⟩
  | 16, _ => exact ⟨_, rfl⟩
  | 17, _ => exact ⟨_, rfl⟩
  | 18, _ => exact ⟨_, rfl⟩
  | 19, _ => exact ⟨_, rfl⟩
  | 20, _ => exact ⟨_, rfl⟩
  | 21, _ => exact ⟨_, rfl⟩
  | 22, _ => exact ⟨_, rfl⟩
  | 23, _ => exact ⟨_, rfl⟩
  | 24, _ => exact ⟨_, rfl⟩
  | k + 25, hk => exact absurd hk (by omega)
theorem pi_M : ∀ i, i < 25 → ∀ j, j < 25 → po_M i = po_M j → i = j := by decide +kernel
theorem ij_M {cA : Nat → ClassId} {D : va_G} {sa : Nat → Nat} {A : Nat → Prop} {a : Nat} {u : Nat → Nat} {R : va_W} (hD : va_D A (gx_Model cA a u ++ R)) : ba_inj ba_tM (ad_M a u, cA, D, sa) ∧ ∀ k, k < 25 → A (ad_M a u k) := by
  refine ⟨fun i j hi hj e => ?_, fun k hk => ?_⟩
  · obtain ⟨x, hx⟩ := at_M cA a u R i hi
    obtain ⟨y, hy⟩ := at_M cA a u R j hj
    exact pi_M i hi j hj (hD.1 _ _ _ _ hx hy e)
  · obtain ⟨x, hx⟩ := at_M cA a u R k hk
    exact hD.2 _ _ hx
set_option maxHeartbeats 4000000 in
set_option maxRecDepth 100000 in
theorem pw_M {cA : Nat → ClassId} {D : va_G} {sa : Nat → Nat} {a : Nat} {u : Nat → Nat} {R : va_W} {H : Heap} (hP : va_P D ba_cl (gx_Model cA a u ++ R) H) : va_P D ba_cl (ba_ws ba_tM (ad_M a u, cA, D, sa) st_M) H := by
  intro k q hq
  have hk : k < 25 := by
    have := (List.getElem?_eq_some_iff.mp hq).1
    unfold ba_ws at this
    rw [List.length_map, List.length_range] at this
    exact this
  rw [ba_ws_at (T := ba_tM) hk] at hq
  have e := (Option.some.inj hq).symm
  rw [e]
  match k, hk with
  | 0, _ => exact hP 24 _ rfl
  | 1, _ => exact hP 23 _ rfl
  | 2, _ => exact hP 22 _ rfl
  | 3, _ => exact hP 21 _ rfl
  | 4, _ => exact hP 20 _ rfl
  | 5, _ => exact hP 19 _ rfl
  | 6, _ => exact hP 18 _ rfl
  | 7, _ => exact hP 17 _ rfl
  | 8, _ => exact hP 16 _ rfl
  | 9, _ => exact hP 15 _ rfl
  | 10, _ => exact hP 14 _ rfl
  | 11, _ => exact hP 13 _ rfl
  | 12, _ => exact hP 12 _ rfl
  | 13, _ => exact hP 11 _ rfl
  | 14, _ => exact hP 10 _ rfl
  | 15, _ => exact hP 9 _ rfl
  | 16, _ => exact hP 8 _ rfl
  | 17, _ => exact hP 7 _ rfl
  | 18, _ => exact hP 6 _ rfl
  | 19, _ => exact hP 5 _ rfl
  | 20, _ => exact hP 4 _ rfl
  | 21, _ => exact hP 3 _ rfl
  | 22, _ => exact hP 2 _ rfl
  | 23, _ => exact hP 1 _ rfl
  | 24, _ => exact hP 0 _ rfl
  | k + 25, hk => exact absurd hk (by omega)
theorem RR_0 : RR st_C st_M := by
  have f0 : ∀ (V : Nat → Bool) q, fF V q 0 = pn := fun V q => fF_ok (fun j hj => by omega) (by omega)
  have z0 : nP (fun _ => 0) 0 = 0 := by unfold nP; split <;> rfl
  have z2 : nB (fun _ => 0) 0 = 0 := by unfold nB; split <;> rfl
  refine ⟨0, 0, 0, fun _ => 0, fun _ => 0, fun _ => 0, 0, 0, ⟨⟨⟨⟨rfl, by omega, by decide, fun j hj => by omega⟩, rfl, by omega, fun j hj => by omega⟩, ⟨⟨rfl, by omega, by decide, fun j hj => by omega⟩, rfl, by omega, fun j hj => by omega⟩, ⟨⟨rfl, by omega, by decide, fun j hj => by omega⟩, rfl, by omega, fun j hj => by omega⟩, by omega, by omega⟩, ⟨⟨by rw [f0]; rfl, ?_⟩, ⟨by rw [f0]; rfl, fun c hc => ?_⟩, by rw [f0]; rfl, ?_⟩, ⟨by omega, rfl, rfl, fun e he => by omega⟩, ⟨by omega, rfl, rfl, fun e he => by omega⟩, ⟨2, by omega, by omega, rfl, rfl⟩, rfl, fun i hi => Or.inl ?_, rfl⟩, Or.inl rfl, Or.inl rfl, Or.inl rfl, Or.inl rfl⟩
  · rw [z0]
    refine ⟨rfl, fun i hi => by omega, fun q hq => ⟨fun i hi => by omega, fun _ => ?_⟩⟩
    show (if q < 72 then (-1 : Int32) else _) = pn
    rw [if_pos hq]; rfl
  · have w : wC (fun _ => 0) 0 c = 0 := by unfold wC; rw [if_neg (by omega)]
    rw [w]; rfl
  · rw [z2]
    exact ⟨rfl, fun i hi => by omega⟩
  · match i, hi with
    | 0, _ => exact ⟨rfl, rfl⟩
    | 1, _ => exact ⟨rfl, rfl⟩
    | 2, _ => exact ⟨rfl, rfl⟩
    | 3, _ => exact ⟨rfl, rfl⟩
    | i + 4, hi => exact absurd hi (by omega)
