set_option maxRecDepth 100000 in
/-- THE LAW, from its entry -/
theorem whole_start {p : Program} {e : Env} {s : State} {m : MethodId} {below : List Frame} {meth : Method} {c : Code} (l : Launch) (hflags : l.flags = flags0) {b L : Nat} {xs : Nat → Int32} (hL : L ≤ 3072) (C0 : lw_At p s m meth c b L xs) : W p l e room_1 s m #[Value.ref b] below meth c s.heap [] 0 0 (lw_Z below #[Value.ref b] s) (entryFrame m ([Value.ref b] : List Value).toArray 7) := by
  obtain ⟨hx, hb, hr, hml, hown, hts, hX, hbl, hlocks, hgv⟩ := C0
  have hs : ∀ w ∈ sF, w.before #[Value.ref b] s = true := flat_of_before _ hgv
  have htB : ∀ w ∈ aTB, w.before #[Value.ref b] s = true := fun w hw => hts w (List.mem_filter.mp hw).1
  have hA : ∀ a : Nat, a < s.heap.size → ¬ (fun q : Nat => s.heap.size ≤ q) a := fun a h => Nat.not_le.mpr h
  obtain ⟨t1, e1, hT1⟩ := va_Tof (A := fun q : Nat => s.heap.size ≤ q) (f := fun j => .int ((bStL 1001).getD j 0)) (N := 7) (by decide) (hs _ sf_t) (va_eqt (hs _ sf_tl)) (fun j hj => va_eqt (hs _ (sf_te j hj))) hA
  obtain ⟨t2, e2, hT2⟩ := va_Tof (A := fun q : Nat => s.heap.size ≤ q) (f := fun j => .int ((bStL 1002).getD j 0)) (N := 3) (by decide) (hs _ sf_a) (va_eqt (hs _ sf_al)) (fun j hj => va_eqt (hs _ (sf_ae j hj))) hA
  obtain ⟨t3, e3, hT3⟩ := va_Tof (A := fun q : Nat => s.heap.size ≤ q) (f := fun j => .int ((bStL 1003).getD j 0)) (N := 3) (by decide) (hs _ sf_m) (va_eqt (hs _ sf_ml)) (fun j hj => va_eqt (hs _ (sf_me j hj))) hA
  obtain ⟨aK, aV, hS, eK⟩ := vk_Sof (A := fun q : Nat => s.heap.size ≤ q) (N := 5) (tm := sTm) (len := aSL) (byt := aSB) (by decide) (fun i hi => hs _ (sf_x i hi)) (fun i hi => hs _ (sf_c i hi)) (fun i hi => hs _ (sf_v i hi)) (fun i hi => hs _ (sf_vl i hi)) (fun i hi j hj => hs _ (sf_ve i hi j hj)) (fun i j hi hj hij => (sf_n i hi j hj hij).imp (fun h => hs _ h) (fun h => hs _ h)) hA
  obtain ⟨f, hf⟩ : ∃ f : Nat, va_Z "jdk/internal/util/Preconditions" "SIOOBE_FORMATTER" "Ljava/util/function/BiFunction;" .null (fun q : Nat => s.heap.size ≤ q) s s.heap ∨ va_Z "jdk/internal/util/Preconditions" "SIOOBE_FORMATTER" "Ljava/util/function/BiFunction;" (.ref f) (fun q : Nat => s.heap.size ≤ q) s s.heap := by
    rcases va_Zqof (hts _ (sW 1617 (by decide +kernel))) (hts _ (sW 131 (by decide +kernel))) (hs _ sf_f) hA with h | ⟨t, h⟩
    · exact ⟨0, Or.inl h⟩
    · exact ⟨t, Or.inr h⟩
  obtain ⟨D, hK⟩ := s_K htB
  obtain ⟨ad, had⟩ : ∃ ad : Nat → Nat, ad = sAd b t1 t2 t3 f aK aV := ⟨_, rfl⟩
  have a0 : ad 1000 = b := by rw [had]; exact sAd_0 ..
  have a1 : ad 1001 = t1 := by rw [had]; exact sAd_1 ..
  have a2 : ad 1002 = t2 := by rw [had]; exact sAd_2 ..
  have a3 : ad 1003 = t3 := by rw [had]; exact sAd_3 ..
  have a5 : ad 3005 = f := by rw [had]; exact sAd_f ..
  have aKe : ∀ i, i < 5 → ad (2000 + i) = aK i := fun i hi => by rw [had]; exact sAd_K _ _ _ _ _ _ _ i hi
  have aVe : ∀ i, i < 5 → ad (3000 + i) = aV i := fun i hi => by rw [had]; exact sAd_V _ _ _ _ _ _ _ i hi
  have eA : aA ad [] s.heap.size = fun q : Nat => s.heap.size ≤ q := s_aA ad s.heap.size
  have hC : aCx (bX ((List.range L).map xs)) [] ad (fun _ => D.1 0) D [] s.heap.size s := by
    refine ⟨rfl, hK, fun i t n h => by simp at h, fun i j hi => absurd hi (Nat.not_lt_zero i), ?_, ?_, ?_, ?_, ?_⟩
    · intro a n g _ h
      rw [eA]
      unfold bX at h
      split at h
      · cases h
        rw [a0]
        exact s_X hL hX (hA b hbl)
      · cases h
        rw [a1]
        exact hT1
      · cases h
        rw [a2]
        exact hT2
      · cases h
        rw [a3]
        exact hT3
      · cases h
    · intro q hq
      rw [eA]
      simp only [aStat, List.mem_cons, List.not_mem_nil, or_false] at hq
      rcases hq with rfl | rfl | rfl
      · show va_Z "HalfDone" "TENS" "[I" (.ref (ad 1001)) _ s s.heap
        rw [a1]
        exact va_Zref (hts _ (sW 945 (by decide +kernel))) (hts _ (sW 115 (by decide +kernel))) e1 hA
      · show va_Z "HalfDone$WillReader" "LEAST" "[I" (.ref (ad 1002)) _ s s.heap
        rw [a2]
        exact va_Zref (hts _ (sW 558 (by decide +kernel))) (hts _ (sW 117 (by decide +kernel))) e2 hA
      · show va_Z "HalfDone$WillReader" "MOST" "[I" (.ref (ad 1003)) _ s s.heap
        rw [a3]
        exact va_Zref (hts _ (sW 563 (by decide +kernel))) (hts _ (sW 117 (by decide +kernel))) e3 hA
    · intro w hw
      simp only [aNest, List.mem_cons, List.not_mem_nil, or_false] at hw
      rcases hw with rfl | rfl
      · exact va_Nw.of rfl (hts _ s_ns.1)
      · exact va_Nw.of rfl (hts _ s_ns.2)
    · intro q hq
      simp only [aStrK, List.mem_cons, List.not_mem_nil, or_false] at hq
      rcases hq with rfl | rfl | rfl | rfl | rfl
      · show vk_R "HalfDoneModel" 26 "y" (ad 2000) s
        rw [show ad 2000 = aK 0 from aKe 0 (by decide)]
        exact vk_R.of (hts _ (sW 1349 (by decide +kernel))) (eK 0 (by decide))
      · show vk_R "HalfDoneModel" 32 "vksdnpci" (ad 2001) s
        rw [show ad 2001 = aK 1 from aKe 1 (by decide)]
        exact vk_R.of (hts _ (sW 1350 (by decide +kernel))) (eK 1 (by decide))
      · show vk_R "HalfDoneModel" 259 "vrd" (ad 2002) s
        rw [show ad 2002 = aK 2 from aKe 2 (by decide)]
        exact vk_R.of (hts _ (sW 1584 (by decide +kernel))) (eK 2 (by decide))
      · show vk_R "HalfDoneModel" 254 "abcde" (ad 2003) s
        rw [show ad 2003 = aK 3 from aKe 3 (by decide)]
        exact vk_R.of (hts _ (sW 1659 (by decide +kernel))) (eK 3 (by decide))
      · show vk_R "HalfDoneModel" 277 "abcdek" (ad 2004) s
        rw [show ad 2004 = aK 4 from aKe 4 (by decide)]
        exact vk_R.of (hts _ (sW 1660 (by decide +kernel))) (eK 4 (by decide))
    · rw [eA]
      refine ⟨⟨fun i hi => ?_, fun i j hi hj h => ?_⟩, va_Zof (hts _ (sW 1601 (by decide +kernel))) (hts _ (sW 129 (by decide +kernel))) (va_eqi (hs _ sf_s)) hA, ?_⟩
      · have q1 := hS.1 i hi
        dsimp only
        rw [aKe i hi, aVe i hi]
        exact q1
      · dsimp only at h
        rw [aKe i hi, aKe j hj] at h
        exact hS.2 i j hi hj h
      · rw [a5]
        exact hf
  have hE : exS (aA ad [] s.heap.size) s := by
    rw [eA]
    refine ⟨vx_Zqof (hts _ (sW 1303 (by decide +kernel))) (hts _ (sW 135 (by decide +kernel))) (hs _ sf_u) hA, vx_Zqof (hts _ (sW 1305 (by decide +kernel))) (hts _ (sW 135 (by decide +kernel))) (hs _ sf_p) hA, fun w hw => va_Nw.of (s_nbt w hw) (hts _ (s_nb w hw)), ?_, ?_⟩
    · obtain ⟨a, c1, cA, kA, q1, -⟩ := Cond.exactly_spec (args := #[Value.ref b]) (first := s) (o := none) (s := s) (idx := []) (hs _ sf_y)
      exact ⟨a, vk_R.of (hts _ (sW 1315 (by decide +kernel))) q1⟩
    · obtain ⟨a, c1, cA, kA, q1, -⟩ := Cond.exactly_spec (args := #[Value.ref b]) (first := s) (o := none) (s := s) (idx := []) (hs _ sf_z)
      exact ⟨a, vk_R.of (hts _ (sW 1342 (by decide +kernel))) q1⟩
  have hF : aFx aM_law p s m c #[Value.ref b] := ⟨hx, hb, hml, hown, htB⟩
  have hNest : ∀ w ∈ aNestM, va_Nw w s := fun w hw => va_Nw.of (s_nmt w hw) (hts _ (s_nm w hw))
  have hAO : aAO s := hts (Cond.arrayOver (.array .int)) (sW 210 (by decide +kernel))
  have hl0 : l.stackTraces = false := by
    unfold Launch.stackTraces
    rw [hflags]
    decide +kernel
  have hW : aWo [] ad (fun _ => D.1 0) D s (fun _ _ => .null) s.heap [] := ⟨fun k q h => by simp [aW] at h, va_S.rf⟩
  have hl := lv_entry ([.ref b]) (n := 7) (Nat.le_of_ble_eq_true rfl)
  rw [lg_entry_eq]
  generalize (lg_sl ([.ref b]) ++ List.replicate (7 - (lg_sl ([.ref b])).length) Slot.unset).toArray = ls at hl ⊢
  have hl : lv_has ls 7 [(0, .ref b)] := hl
  have hl' : aLs ad ls 7 (hlv .null .null .null .null) := by
    refine ⟨hl.1, hl.2.1, rfl, fun i v hi hv => ?_⟩
    match i, hi with
    | 0, hi =>
      cases hi
      show ls[0]? = some (.val (.ref (ad 1000)))
      rw [a0]
      exact hl.2.2 (0, .ref b) List.mem_cons_self
    | 1, hi => cases hi; exact absurd rfl hv
    | 2, hi => cases hi; exact absurd rfl hv
    | 3, hi => cases hi; exact absurd rfl hv
    | 4, hi => cases hi; exact absurd rfl hv
    | 5, hi => cases hi; exact absurd rfl hv
    | 6, hi => cases hi; exact absurd rfl hv
    | i + 7, hi => simp [hlv] at hi
  exact law_body hl0 hF hr hlocks hNest hAO hC hE hW hl'
