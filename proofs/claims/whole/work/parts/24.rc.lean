section MRW
variable {Mc Mr : mm_M}
theorem rw_fr {v : Int32} : fr_ (fun a b => a = 0 ∧ b = 0) Mr (mm_si Mr 0 0 v) := ⟨fun a b h => by simp [mm_si, h], rfl⟩
theorem rw_rt {S : sg_} {nv : Nat → Bool} {vs : List Nat} {v : Int32} (h : rt_ S nv vs Mr) : rt_ S nv vs (mm_si Mr 0 0 v) :=
  ⟨h.1.fr rw_fr (fun a b hp hq => by obtain ⟨rfl, rfl⟩ := hp; have := pe_0 hq; omega) (by omega) (by omega), h.2.fr rw_fr (by omega)⟩
theorem m_row (h : rl_ Mc Mr) (x : Int32) : ∃ z Mr1, f_X12_row x Mr = some (z, Mr1) ∧ rl_ Mc Mr1 ∧ (rx_G Mc x → ix_ok x 24) ∧ ((rx_G Mc x ∧ f_X12_thrown Mr1 = 0 ∧ z = Mc.2.1 4 x.toNatClampNeg) ∨ (¬ rx_G Mc x ∧ f_X12_thrown Mr1 = 1)) := by
  obtain ⟨S, vs, hw, hv, hc, hr⟩ := h
  have h1 : Mc.1 3 1 = Int32.ofNat vs.length := hc.2.2.2.1
  have h2 : (mm_si Mr 0 0 0).1 0 1 = Int32.ofNat vs.length := hr.2.1
  have hn : vs.length ≤ 24 := hv.1
  have hg : rx_G Mc x ↔ lt_ x vs.length = true := by
    unfold rx_G
    rw [h1, c_bl (by omega)]
    cases lt_ x vs.length <;> simp [bi_]
  by_cases c1 : lt_ x vs.length = true
  · obtain ⟨k, rfl, hk⟩ := lt_nat c1 (by omega)
    have hix : ∀ n, k < n → n < 2147483648 → ix_ok (Int32.ofNat k) n := fun n h1 h2 => nI_in h1 h2
    have hcl : (Int32.ofNat k).toNatClampNeg = k := nI_clamp (show k < 2 ^ 31 by omega)
    refine ⟨Mr.2.1 1 k, mm_si Mr 0 0 0, ?_, ⟨S, vs, hw, hv, hc, rw_rt (v := 0) hr⟩, fun _ => hix 24 (by omega) (by omega), Or.inl ⟨hg.mpr c1, ?_, ?_⟩⟩
    · unfold f_X12_row
      rw [sq_n, sq_n, h2, r_inp (by omega), c1, if_neg (by decide), if_pos (hix 64 (by omega) (by omega)), hcl]
      rfl
    · rfl
    · rw [hcl]
      obtain ⟨v, hvk⟩ : ∃ v, vs[k]? = some v := ⟨_, List.getElem?_eq_getElem hk⟩
      rw [hr.2.2 k v hvk, hc.2.2.2.2 k v hvk]
  · have c2 : lt_ x vs.length = false := by simpa using c1
    refine ⟨0, mm_si (mm_si Mr 0 0 0) 0 0 1, ?_, ⟨S, vs, hw, hv, hc, rw_rt (rw_rt hr)⟩, fun q => absurd (hg.mp q) c1, Or.inr ⟨fun q => c1 (hg.mp q), rfl⟩⟩
    unfold f_X12_row
    rw [sq_n, sq_n, h2, r_inp (by omega), c2, if_pos (by decide), sq_n]
end MRW
