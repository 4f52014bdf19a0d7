/-! THE LAW'S BODY, out of what holds at its start -/
section BODY
variable {p : Program} {l : Launch} {e : Env} {s : State} {m : MethodId} {b : Nat} {below : List Frame} {meth : Method} {c : Code}
variable {ad : Nat → Nat} {cA : Nat → ClassId} {D : va_G} {tys : List (ClassId × FieldType)} {xs : List Int32}
theorem law_body {H : Heap} {locs : List Loc} {ls : Array Slot} (hl0 : l.stackTraces = false) (hF : aFx aM_law p s m c #[Value.ref b]) (hr : meth.sig.returnType = ret) (hlocks : meth.locks = false) (hNest : ∀ w ∈ aNestM, va_Nw w s) (hAO : aAO s) (hC : aCx (bX xs) [] ad cA D tys s.heap.size s) (hE : exS (aA ad [] s.heap.size) s) (hW : aWo [] ad cA D s (fun _ _ => .null) H locs) (hl : aLs ad ls 7 (hlv .null .null .null .null)) :
    W p l e room_1 s m #[Value.ref b] below meth c H locs 0 0 (lw_Z below #[Value.ref b] s) (F0 m 0 ls []) := by
  refine law_head hF hNest hAO hC ⟨by decide, by decide, by decide, by decide⟩ hW hl (fun ad' cA' tys' H1 locs1 ls1 e1 hC' hA' hW' hl' => ?_)
  have eA : aA ad' aS s.heap.size = aA ad [] s.heap.size := funext fun q => propext (hA' q)
  have hE' : exS (aA ad' aS s.heap.size) s := by rw [eA]; exact hE
  have hA : ∀ q, aA ad' aS s.heap.size q → s.heap.size ≤ q := by
    intro q hq
    rcases (hA' q).mp hq with ⟨i, hi, _⟩ | h
    · exact absurd hi (Nat.not_lt_zero i)
    · exact h
  have hlen : ((xs.take 3072).length : Int) ≤ 3072 := by
    rw [List.length_take]
    omega
  exact law_loop (l := l) (e := e) (below := below) hl0 hF hr hlocks hC' hE' hA cases_ok th_ok 3072 0 mu0 151 14067 (by omega) (by omega) (by omega) mu0_INV (by omega) (by omega) H1 locs1 ls1 (aWo_congr mu0_ok hW') hl'
end BODY
