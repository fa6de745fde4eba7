/-! two sides in one state -/
def cmb (d k : Hp) : Hp := fun b => if b < 300 then d b else k b
theorem cmb_c {d k : Hp} {b : Nat} (h : b < 300) : cmb d k b = d b := if_pos h
theorem cmb_m {d k : Hp} {b : Nat} (h : 300 ≤ b) : cmb d k b = k b := if_neg (by omega)
theorem wld_cong {cI cQ : ClassId} {ad : Nat → Nat} {tb : Sd} {sg sg2 : Hp} (h : ∀ b, b ∈ kys tb → sg b = sg2 b) : wld cI cQ ad tb sg = wld cI cQ ad tb sg2 := by
  unfold wld
  refine List.map_congr_left (fun q hq => ?_)
  rw [h q.1 (kys_in hq)]
theorem Rel_cc {c m d k : Hp} (hc : ∀ b j, b < 300 → d b j = c b j) (hm : ∀ b j, 300 ≤ b → k b j = m b j) (h : Rel c m) : Rel d k := by
  obtain ⟨⟨n, h1, h2, h3, h4⟩, h5, h6⟩ := h
  refine ⟨⟨n, RSt_cg (fun b j hb => hc b j (by unfold uSt at hb; omega)) (fun b j hb => hm b j (by unfold vSt at hb; omega)) h1, RSh_cg (fun b j hb => hc b j (by unfold uSh at hb; omega)) (fun b j hb => hm b j (by unfold vSh at hb; omega)) h2, RSe_cg (fun b j hb => hc b j (by unfold uSe at hb; omega)) (fun b j hb => hm b j (by unfold vSe at hb; omega)) h3, RNt_cg h1.1 (fun b j hb => hc b j (by unfold uNt at hb; omega)) (fun b j hb => hm b j (by unfold vNt at hb; omega)) h4⟩, ?_, ?_⟩
  · rw [hc 0 7 (by omega), hm 300 24 (by omega)]; exact h5
  · rw [hc 0 8 (by omega), hm 300 0 (by omega)]; exact h6
/-- one call of each side: the same answer, and the relation again -/
theorem Sim_law {ρ : Type} {f g : Hp → Option (ρ × Hp)} (H : ∀ c m, Rel c m → Sim f g c m) {sg : Hp} (h : Rel sg sg) : ∃ (r : ρ) (d k : Hp), f sg = some (r, d) ∧ g (cmb d sg) = some (r, k) ∧ Rel (cmb d k) (cmb d k) := by
  obtain ⟨r, d, k0, h1, -, -⟩ := H sg sg h
  obtain ⟨r2, d2, k, h2, h3, h4⟩ := H sg (cmb d sg) (Rel_cc (fun _ _ _ => rfl) (fun b j hb => by rw [cmb_m hb]) h)
  rw [h1] at h2
  cases h2
  exact ⟨r, d, k, h1, h3, Rel_cc (fun b j hb => by rw [cmb_c hb]) (fun b j hb => by rw [cmb_m hb]) h4⟩
theorem tC_lt : ∀ b, b ∈ kys tC → b < 300 := by decide +kernel
theorem tM_ge : ∀ b, b ∈ kys tM → 300 ≤ b := by decide +kernel
abbrev tL : Sd := tC ++ tM
theorem tL_nd : (kys tL).Nodup := by decide +kernel
theorem tC_nd : (kys tC).Nodup := by decide +kernel
theorem tM_nd : (kys tM).Nodup := by decide +kernel
theorem kys_app {a b : Sd} {x : Nat} : x ∈ kys (a ++ b) ↔ x ∈ kys a ∨ x ∈ kys b := by
  unfold kys
  rw [List.map_append, List.mem_append]
theorem tC_sub : ∀ q, q ∈ tC → q ∈ tL := fun q h => List.mem_append_left _ h
theorem tM_sub : ∀ q, q ∈ tM → q ∈ tL := fun q h => List.mem_append_right _ h
theorem tC_ker : ∀ q, q ∈ tL → q.1 ∈ kys tC → q ∈ tC := fun q h hk => by
  rcases List.mem_append.mp h with h | h
  · exact h
  · have h1 := tC_lt _ hk
    have h2 := tM_ge _ (kys_in h)
    omega
theorem tM_ker : ∀ q, q ∈ tL → q.1 ∈ kys tM → q ∈ tM := fun q h hk => by
  rcases List.mem_append.mp h with h | h
  · have h1 := tC_lt _ (kys_in h)
    have h2 := tM_ge _ hk
    omega
  · exact h
theorem mixC {d sg : Hp} : ∀ b, b ∈ kys tL → mix tC d sg b = cmb d sg b := fun b hb => by
  rcases kys_app.1 hb with h | h
  · rw [mix_in h, cmb_c (tC_lt b h)]
  · have h1 := tM_ge b h
    rw [mix_out (fun h2 => by have := tC_lt b h2; omega), cmb_m h1]
theorem mixM {d k sg : Hp} : ∀ b, b ∈ kys tL → mix tM k (cmb d sg) b = cmb d k b := fun b hb => by
  rcases kys_app.1 hb with h | h
  · have h1 := tC_lt b h
    rw [mix_out (fun h2 => by have := tM_ge b h2; omega), cmb_c h1, cmb_c h1]
  · rw [mix_in h, cmb_m (tM_ge b h)]
