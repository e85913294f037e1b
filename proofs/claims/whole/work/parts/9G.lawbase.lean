/-! THE LAW: worlds changed in place by a call; rows for the law's calls. -/
def fr_res : List (Option Nat) → va_W → va_W → List (Option (Nat × va_E))
  | [], _, _ => []
  | none :: t, ww, w1 => ww.head? :: fr_res t ww.tail w1
  | some j :: t, ww, w1 => w1[j]? :: fr_res t ww.tail w1
theorem fr_at : ∀ (src : List (Option Nat)) (ww w1 ww' : va_W), ww'.map some = fr_res src ww w1 → ∀ (k : Nat) (q : Nat × va_E), ww'[k]? = some q → (src[k]? = some none ∧ ww[k]? = some q) ∨ ∃ j : Nat, src[k]? = some (some j) ∧ w1[j]? = some q := by
  intro src
  induction src with
  | nil =>
    intro ww w1 ww' h k q hq
    cases ww' with
    | nil => simp at hq
    | cons a t => simp [fr_res] at h
  | cons o t ih =>
    intro ww w1 ww' h k q hq
    cases ww' with
    | nil => simp at hq
    | cons a t' =>
      cases o with
      | none =>
        simp only [fr_res, List.map_cons, List.cons.injEq] at h
        cases k with
        | zero =>
          simp only [List.getElem?_cons_zero, Option.some.injEq] at hq
          subst hq
          refine Or.inl ⟨rfl, ?_⟩
          cases ww with
          | nil => simp at h
          | cons b w => simpa using h.1.symm
        | succ k =>
          simp only [List.getElem?_cons_succ] at hq ⊢
          rcases ih ww.tail w1 t' h.2 k q hq with ⟨h1, h2⟩ | h1
          · refine Or.inl ⟨h1, ?_⟩
            cases ww with
            | nil => simp at h2
            | cons b w => simpa using h2
          · exact Or.inr h1
      | some j =>
        simp only [fr_res, List.map_cons, List.cons.injEq] at h
        cases k with
        | zero =>
          simp only [List.getElem?_cons_zero, Option.some.injEq] at hq
          subst hq
          exact Or.inr ⟨j, rfl, h.1.symm⟩
        | succ k =>
          simp only [List.getElem?_cons_succ] at hq ⊢
          rcases ih ww.tail w1 t' h.2 k q hq with ⟨h1, h2⟩ | h1
          · refine Or.inl ⟨h1, ?_⟩
            cases ww with
            | nil => simp at h2
            | cons b w => simpa using h2
          · exact Or.inr h1
def fr_ck (src : List (Option Nat)) (isC : List Nat) : Bool := isC.all (fun i => match src[i]? with | some (some _) => true | _ => false)
theorem fr_P {A0 : Nat → Prop} {D : va_G} {cl : List vw_C} {ww wc w1 ww' : va_W} {H H1 : Heap} (hP : va_P D cl ww H) (hD : va_D A0 ww) (isC : List Nat) (src : List (Option Nat)) (hC : isC.map (fun i => ww[i]?) = wc.map some) (hs : ww'.map some = fr_res src ww w1) (hck : fr_ck src isC = true)
    (hk : ∀ q : Nat, q < H.size → ¬ va_A wc H.size q → H1[q]? = H[q]?) (hP1 : va_P D cl w1 H1) : va_P D cl ww' H1 := by
  intro k q hq
  rcases fr_at src ww w1 ww' hs k q hq with ⟨h1, h2⟩ | ⟨j, -, h2⟩
  · have hat := hP k q h2
    have hlt : q.1 < H.size := hat.lt
    refine hat.kept (hk q.1 hlt ?_)
    rintro (⟨k', e', hw⟩ | hw)
    · have h3 : (isC.map (fun i => ww[i]?))[k']? = some (some (q.1, e')) := by rw [hC, List.getElem?_map, hw]; rfl
      rw [List.getElem?_map] at h3
      cases hi : isC[k']? with
      | none => rw [hi] at h3; simp at h3
      | some i =>
        rw [hi] at h3
        simp only [Option.map_some, Option.some.injEq] at h3
        have hik : i = k := hD.1 i k _ _ h3 h2 rfl
        have hm : i ∈ isC := List.mem_of_getElem? hi
        have h4 := List.all_eq_true.mp hck i hm
        rw [hik, h1] at h4
        simp at h4
    · omega
  · exact hP1 j q h2
theorem fr_D {A0 : Nat → Prop} {ww ww' : va_W} (hD : va_D A0 ww) (ha : ww'.map (fun q => q.1) = ww.map (fun q => q.1)) : va_D A0 ww' := by
  have at' : ∀ (k : Nat) (q : Nat × va_E), ww'[k]? = some q → ∃ q', ww[k]? = some q' ∧ q'.1 = q.1 := by
    intro k q hq
    have h1 : (ww.map (fun q => q.1))[k]? = some q.1 := by rw [← ha, List.getElem?_map, hq]; rfl
    rw [List.getElem?_map] at h1
    cases hw : ww[k]? with
    | none => rw [hw] at h1; simp at h1
    | some q' =>
      rw [hw] at h1
      exact ⟨q', rfl, by simpa using h1⟩
  refine ⟨fun i j p q h1 h2 h3 => ?_, fun k q hq => ?_⟩
  · obtain ⟨p', a1, a2⟩ := at' i p h1
    obtain ⟨q', b1, b2⟩ := at' j q h2
    exact hD.1 i j p' q' a1 b1 (by rw [a2, b2, h3])
  · obtain ⟨q', b1, b2⟩ := at' k q hq
    rw [← b2]
    exact hD.2 k q' b1
section LW
variable {p : Program} {l : Launch} {e : Env} {R : Room} {s : State} {m : MethodId} {args : Array Value} {below : List Frame} {meth : Method} {c : Code} {H : Heap} {locs : List Loc} {cells slots : Nat} {Q : State → Prop}
variable {y : MethodName} {bytes cc : ByteArray} {maxL nL n index : Nat} {ret : Option FieldType} {ws Ts : List Cond} {rm : Room} {own C : String} {b : Addr} {As rest st0 : List Value} {pc : Nat} {ls : Array Slot} {ww wc w1 ww' : va_W} {A : Nat → Prop} {r0 : Int32} {D : va_G} {tys : List (ClassId × FieldType)}
theorem g_lawL {hh : List (Nat × Nat × Nat × Nat)} (S : CallFix p m c cc nL s args Ts own) (hM : Ct_l l y ws rm D tys As H.size wc r0 w1) (cw : vx_CSW R s args own index y bytes maxL ret hh ws rm 1 6 n)
    (hK : va_K D vwCl tys s) (hP : va_P D vwCl ww H) (hD : va_D A ww) (hS : va_S A s.heap H locs) (hA : ∀ q, s.heap.size ≤ q → A q) (TR : g_TR A s s.heap) (hN : g_NC s)
    (isC : List Nat) (src : List (Option Nat)) (hC : isC.map (fun i => ww[i]?) = wc.map some) (hnC : va_nd isC = true) (hs : ww'.map some = fr_res src ww w1) (ha : ww'.map (fun q => q.1) = ww.map (fun q => q.1)) (hck : fr_ck src isC = true)
    (hAn : As.length = n) (hls : ls.size = nL) (hst : st0 = As.reverse ++ rest) (hW : (rest.map fun v => v.category).sum ≤ 8) (hdg : decode cc pc = .ok (.invokestatic index, 3)) (hcr : cells + 1 ≤ R.cells ∧ slots + 6 ≤ R.slots)
    (kk : ∀ (H1 : Heap) (locs1 : List Loc), va_P D vwCl ww' H1 → va_D A ww' → va_S A s.heap H1 locs1 → W p l e R s m args below meth c H1 locs1 (cells + 1) (slots + 6) Q (F0 m (pc + 3) ls (.int r0 :: rest))) :
    W p l e R s m args below meth c H locs cells slots Q (F0 m pc ls st0) := by
  have hPc := hP.sub (ws' := wc) isC (g_fm hC)
  have hDc := hD.sub (ws' := wc) isC hnC hC
  have hFc := va_free (wc := wc) hD hS hA isC hC
  have hTc : g_TR (va_A wc H.size) s H := (TR.kept hS.2.1).narrow hFc
  refine va_calli (vx_runSW (As := As) (rest := rest) S hM cw ⟨g_blindL, g_preL hPc hDc hK hTc hN⟩ rfl hAn hls hst (lv_room hW) hdg hcr) hS (fun q _ h => hFc q h) hFc (fun r u t H1 locs ht hvm hw hB hz1 hk1 hS => ?_)
  obtain ⟨hP1, hK1, hD1⟩ := hB
  rw [ht] at hP1
  subst hw
  exact kk H1 locs (fr_P hP hD isC src hC hs hck hk1 hP1) (fr_D hD ha) hS
theorem g_lawVi (S : CallFix p m c cc nL s args Ts own) (hM : Met l y ws rm (g_Pre D tys (.ref b :: As) H.size wc) (g_Qi D tys (va_A wc H.size) r0 w1) 0 0 (va_A wc H.size)) (cw : CallW R s args own C index y bytes maxL ret ws rm 0 0 n)
    (hK : va_K D vwCl tys s) (hP : va_P D vwCl ww H) (hD : va_D A ww) (hS : va_S A s.heap H locs) (hA : ∀ q, s.heap.size ≤ q → A q)
    (q0 : Nat) {ci N : Nat} {T : u_T} {fs : List Value} (hqc : vwCl[ci]? = some (C, T, N)) (he : ww[q0]? = some (b, .inr (ci, fs)))
    (isC : List Nat) (src : List (Option Nat)) (hC : isC.map (fun i => ww[i]?) = wc.map some) (hnC : va_nd isC = true) (hs : ww'.map some = fr_res src ww w1) (ha : ww'.map (fun q => q.1) = ww.map (fun q => q.1)) (hck : fr_ck src isC = true)
    (hAn : As.length = n) (hls : ls.size = nL) (hst : st0 = As.reverse ++ .ref b :: rest) (hW : (rest.map fun v => v.category).sum ≤ 8) (hdg : decode cc pc = .ok (.invokevirtual index, 3)) (hcr : cells ≤ R.cells ∧ slots ≤ R.slots)
    (kk : ∀ (H1 : Heap) (locs1 : List Loc), va_P D vwCl ww' H1 → va_D A ww' → va_S A s.heap H1 locs1 → W p l e R s m args below meth c H1 locs1 cells slots Q (F0 m (pc + 3) ls (.int r0 :: rest))) :
    W p l e R s m args below meth c H locs cells slots Q (F0 m pc ls st0) := by
  have hPc := hP.sub (ws' := wc) isC (g_fm hC)
  have hDc := hD.sub (ws' := wc) isC hnC hC
  have hFc := va_free (wc := wc) hD hS hA isC hC
  refine va_calli (va_runV (As := As) (rest := rest) S hM cw ⟨g_blind, va_recv hK hP hqc he, g_pre hPc hDc hK⟩ rfl hAn hls hst (lv_room hW) hdg hcr) hS (fun q _ h => hFc q h) hFc (fun r u t H1 locs ht hvm hw hB hz1 hk1 hS => ?_)
  obtain ⟨hP1, hK1, hD1⟩ := hB
  rw [ht] at hP1
  subst hw
  exact kk H1 locs (fr_P hP hD isC src hC hs hck hk1 hP1) (fr_D hD ha) hS
theorem g_lawVv (S : CallFix p m c cc nL s args Ts own) (hM : Met l y ws rm (g_Pre D tys (.ref b :: As) H.size wc) (g_Qv D tys (va_A wc H.size) w1) 0 0 (va_A wc H.size)) (cw : CallW R s args own C index y bytes maxL ret ws rm 0 0 n)
    (hK : va_K D vwCl tys s) (hP : va_P D vwCl ww H) (hD : va_D A ww) (hS : va_S A s.heap H locs) (hA : ∀ q, s.heap.size ≤ q → A q)
    (q0 : Nat) {ci N : Nat} {T : u_T} {fs : List Value} (hqc : vwCl[ci]? = some (C, T, N)) (he : ww[q0]? = some (b, .inr (ci, fs)))
    (isC : List Nat) (src : List (Option Nat)) (hC : isC.map (fun i => ww[i]?) = wc.map some) (hnC : va_nd isC = true) (hs : ww'.map some = fr_res src ww w1) (ha : ww'.map (fun q => q.1) = ww.map (fun q => q.1)) (hck : fr_ck src isC = true)
    (hAn : As.length = n) (hls : ls.size = nL) (hst : st0 = As.reverse ++ .ref b :: rest) (hW : (rest.map fun v => v.category).sum ≤ 8) (hdg : decode cc pc = .ok (.invokevirtual index, 3)) (hcr : cells ≤ R.cells ∧ slots ≤ R.slots)
    (kk : ∀ (H1 : Heap) (locs1 : List Loc), va_P D vwCl ww' H1 → va_D A ww' → va_S A s.heap H1 locs1 → W p l e R s m args below meth c H1 locs1 cells slots Q (F0 m (pc + 3) ls rest)) :
    W p l e R s m args below meth c H locs cells slots Q (F0 m pc ls st0) := by
  have hPc := hP.sub (ws' := wc) isC (g_fm hC)
  have hDc := hD.sub (ws' := wc) isC hnC hC
  have hFc := va_free (wc := wc) hD hS hA isC hC
  refine va_callv (va_runV (As := As) (rest := rest) S hM cw ⟨g_blind, va_recv hK hP hqc he, g_pre hPc hDc hK⟩ rfl hAn hls hst (lv_room hW) hdg hcr) hS (fun q _ h => hFc q h) hFc (fun u t H1 locs ht hvm hw hB hz1 hk1 hS => ?_)
  obtain ⟨hP1, hK1, hD1⟩ := hB
  rw [ht] at hP1
  exact kk H1 locs (fr_P hP hD isC src hC hs hck hk1 hP1) (fr_D hD ha) hS
/-- a constructor's call that needs the private constructors of its nest mates -/
theorem g_lawI {Sx : Type} {wp : Sx → va_W} {mc ms : Nat} {H0 : Heap} (S : CallFix p m c cc nL s args Ts own) (hM : Met l y ws rm (g_PreN D tys (.ref b :: As) H.size wc) (g_QC D tys (va_A wc H.size) wp) mc ms (va_A wc H.size)) (cw : CallB R s args own index y bytes maxL none ws rm mc ms n ∧ y.name = "<init>" ∧ (Cond.instanceMethod y).before args s = true)
    (hK : va_K D vwCl tys s) (hP : va_P D vwCl ww H) (hD : va_D A ww) (hS : va_S A H0 H locs) (hA : ∀ q, H0.size ≤ q → A q) (hNX : g_NX s)
    (isC isR : List Nat) (wr : va_W) (hC : isC.map (fun i => ww[i]?) = wc.map some) (hR : isR.map (fun i => ww[i]?) = wr.map some) (hnC : va_nd isC = true) (hnR : va_nd isR = true) (hdis : ∀ i ∈ isR, i ∉ isC)
    (hAn : As.length = n) (hls : ls.size = nL) (hst : st0 = As.reverse ++ .ref b :: rest) (hW : (rest.map fun v => v.category).sum ≤ 8) (hdg : decode cc pc = .ok (.invokespecial index, 3)) (hcr : cells + mc ≤ R.cells ∧ slots + ms ≤ R.slots)
    (kk : ∀ (u : Sx) (H1 : Heap) (locs1 : List Loc), va_P D vwCl (wr ++ wp u) H1 → va_D A (wr ++ wp u) → va_S A H0 H1 locs1 → W p l e R s m args below meth c H1 locs1 (cells + mc) (slots + ms) Q (F0 m (pc + 3) ls rest)) :
    W p l e R s m args below meth c H locs cells slots Q (F0 m pc ls st0) := by
  have hPc := hP.sub (ws' := wc) isC (g_fm hC)
  have hDc := hD.sub (ws' := wc) isC hnC hC
  have hFc := va_free (wc := wc) hD hS hA isC hC
  refine va_callv (va_runI (As := As) (rest := rest) S hM cw ⟨g_blindN, g_preN hPc hDc hK hNX⟩ rfl hAn hls hst (lv_room hW) hdg hcr) hS (fun q _ h => hFc q h) hFc (fun u t H1 locs ht hvm hw hB hz1 hk1 hS => ?_)
  obtain ⟨hP1, hK1, hD1⟩ := hB
  rw [ht] at hP1
  obtain ⟨hP, hD⟩ := va_join (wr := wr) (w1 := wp u) hP hD isC isR hC hR hnR hdis hk1 hFc hP1 hD1
  exact kk u H1 locs hP hD hS
end LW
