/-! ===== the law's call: query ===== -/
section LAW4
section V
variable {X : bi_X} {d : Nat} {s : bi_St} {M : Ms6} {b b' a a' : Nat} {K0 F : bi_St → Prop} {E : Nat → bi_St → Prop} {x1 x2 x3 : Int32}
theorem L_query (ho : okM M) (hC : RCl s b b' a a' M) (hR : RRf s M) (hF : ∀ t, nxt s t → F t) : cI X (d + 62) 272 [.ref 0, .int x1, .int x2, .int x3, .ref 112] s (tl X (d + 62) 237 [.ref 77, .int x1, .int x2, .int x3] K0 F) E := by
  refine en_L_query (cC_query (d := d) ho hC (fun v M' t _ _ _ _ e ft hCt hok hQ => ⟨rfl, lw_v hR ho hok e ft hCt (fun t ht => cR_query (d := d + 54) ho ht hQ) hF⟩) (fun e c t _ _ _ _ eo ft hCt => ?_))
  have hq := q_l e c eo
  have cR : ∀ t, RRf t M → CtR X (d + 62) 237 [.ref 77, .int x1, .int x2, .int x3] t M (oQuery M x1 x2 x3) := fun t ht => cR_query (d := d + 54) ho ht (fun D h1 h2 h3 _ => absurd ⟨h1, h2, h3⟩ hq.2)
  rcases hq.1 with ⟨e1, c1⟩ | ⟨e1, c1⟩
  · subst e1; subst c1
    exact ⟨fun _ => lw_t (c := 1) hR ho (by omega) eo ft hCt cR hF, fun z => absurd rfl z⟩
  · subst e1; subst c1
    exact ⟨fun z => absurd z (by decide), fun _ => ⟨fun _ => lw_t (c := 2) hR ho (by omega) eo ft hCt cR hF, fun z => absurd rfl z⟩⟩
end V
end LAW4
