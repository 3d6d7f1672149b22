/-! what is around all cells, summed: what is due -/
section DUE
theorem sm_head (g : Nat → Nat) (n : Nat) : sm g (n + 1) = g 0 + sm (fun c => g (c + 1)) n := by
  have h : sm g (1 + n) = sm g 1 + sm (fun i => g (1 + i)) n := sm_split g 1 n
  have h1 : sm g 1 = g 0 := Nat.zero_add _
  have h2 : sm (fun i => g (1 + i)) n = sm (fun c => g (c + 1)) n := sm_congr fun i _ => by rw [Nat.add_comm]
  rw [Nat.add_comm n 1, h, h1, h2]
theorem sm_rot1 (f : Nat → Nat) {R : Nat} (hR : 0 < R) : sm (fun r => f ((r + 1) % R)) R = sm f R := by
  obtain ⟨n, rfl⟩ : ∃ n, R = n + 1 := ⟨R - 1, by omega⟩
  have h0 : sm (fun r => f ((r + 1) % (n + 1))) (n + 1) = sm (fun r => f ((r + 1) % (n + 1))) n + f ((n + 1) % (n + 1)) := rfl
  have h1 : sm (fun r => f ((r + 1) % (n + 1))) n = sm (fun r => f (r + 1)) n := sm_congr fun r hr => by rw [Nat.mod_eq_of_lt (show r + 1 < n + 1 by omega)]
  rw [h0, h1, Nat.mod_self, sm_head f n, Nat.add_comm]
theorem sm_rot (f : Nat → Nat) {R : Nat} (hR : 0 < R) : ∀ k, sm (fun r => f ((r + k) % R)) R = sm f R
  | 0 => sm_congr fun r hr => by rw [Nat.add_zero, Nat.mod_eq_of_lt hr]
  | k + 1 => by
    have h : sm (fun r => f (((r + 1) % R + k) % R)) R = sm (fun x => f ((x + k) % R)) R := sm_rot1 (fun x => f ((x + k) % R)) hR
    have e : sm (fun r => f ((r + (k + 1)) % R)) R = sm (fun r => f (((r + 1) % R + k) % R)) R := sm_congr fun r _ => by rw [Nat.mod_add_mod, show r + 1 + k = r + (k + 1) by omega]
    rw [e, h]; exact sm_rot f hR k
/-- how many of three places in a row are places of the pane -/
def cw (C c : Nat) : Nat := if 0 < c ∧ c < C - 1 then 3 else 2
theorem cw_le (C c : Nat) : 2 ≤ cw C c ∧ cw C c ≤ 3 := by unfold cw; split <;> omega
theorem sm_w (h : Nat → Nat) (m : Nat) : sm (fun c => cw (1 + m + 1) c * h c) (1 + m + 1) + h 0 = 3 * sm h (1 + m) + 2 * h (1 + m) := by
  have e1 : sm (fun c => cw (1 + m + 1) c * h c) (1 + m + 1) = sm (fun c => cw (1 + m + 1) c * h c) (1 + m) + cw (1 + m + 1) (1 + m) * h (1 + m) := rfl
  have e2 : cw (1 + m + 1) (1 + m) = 2 := if_neg (by omega)
  have e3 : sm (fun c => cw (1 + m + 1) c * h c) (1 + m) = sm (fun c => cw (1 + m + 1) c * h c) 1 + sm (fun i => cw (1 + m + 1) (1 + i) * h (1 + i)) m := sm_split _ 1 m
  have e4 : sm (fun i => cw (1 + m + 1) (1 + i) * h (1 + i)) m = 3 * sm (fun i => h (1 + i)) m := by
    rw [← sm_mul]; exact sm_congr fun i hi => by rw [show cw (1 + m + 1) (1 + i) = 3 from if_pos (by omega)]
  have e5 : sm h (1 + m) = sm h 1 + sm (fun i => h (1 + i)) m := sm_split h 1 m
  have e6 : sm (fun c => cw (1 + m + 1) c * h c) 1 = 2 * h 0 := by
    show 0 + cw (1 + m + 1) 0 * h 0 = _
    rw [show cw (1 + m + 1) 0 = 2 from if_neg (by omega), Nat.zero_add]
  have e7 : sm h 1 = h 0 := Nat.zero_add _
  rw [e1, e2, e3, e4, e5, e6, e7]; omega
theorem sm_cw {C : Nat} (hC : 3 ≤ C) : sm (cw C) C + 2 = 3 * C := by
  obtain ⟨m, rfl⟩ : ∃ m, C = 1 + m + 1 := ⟨C - 2, by omega⟩
  have h : sm (fun c => cw (1 + m + 1) c * 1) (1 + m + 1) + 1 = 3 * sm (fun _ => 1) (1 + m) + 2 * 1 := sm_w (fun _ => 1) m
  rw [sm_const, show sm (fun c => cw (1 + m + 1) c * 1) (1 + m + 1) = sm (cw (1 + m + 1)) (1 + m + 1) from sm_congr fun c _ => Nat.mul_one _] at h
  omega
theorem sm_13 (g : Nat → Nat) {C : Nat} (hC : 3 ≤ C) : sm (fun c => sm (fun j => g (c + j)) 3) C = g 0 + g (C + 1) + sm (fun c => cw C c * g (c + 1)) C := by
  obtain ⟨m, rfl⟩ : ∃ m, C = 1 + m + 1 := ⟨C - 2, by omega⟩
  have e0 : sm (fun c => sm (fun j => g (c + j)) 3) (1 + m + 1) = sm g (1 + m + 1) + sm (fun c => g (c + 1)) (1 + m + 1) + sm (fun c => g (c + 2)) (1 + m + 1) := by
    rw [← sm_add, ← sm_add]
    exact sm_congr fun c _ => by
      show 0 + g (c + 0) + g (c + 1) + g (c + 2) = _
      rw [Nat.zero_add, Nat.add_zero]
  have hw : sm (fun c => cw (1 + m + 1) c * g (c + 1)) (1 + m + 1) + g 1 = 3 * sm (fun c => g (c + 1)) (1 + m) + 2 * g (1 + m + 1) := sm_w (fun c => g (c + 1)) m
  have e1 : sm g (1 + m + 1) = g 0 + sm (fun c => g (c + 1)) (1 + m) := sm_head g (1 + m)
  have e2 : sm (fun c => g (c + 2)) (1 + m + 1) = sm (fun c => g (c + 2)) (1 + m) + g (1 + m + 2) := rfl
  have e3 : sm (fun c => g (c + 1)) (1 + m + 1) = g 1 + sm (fun c => g (c + 2)) (1 + m) := sm_head (fun c => g (c + 1)) (1 + m)
  have e4 : sm (fun c => g (c + 1)) (1 + m + 1) = sm (fun c => g (c + 1)) (1 + m) + g (1 + m + 1) := rfl
  show _ = g 0 + g (1 + m + 2) + _
  omega
variable {C R F : Nat} {ig : Nat → Nat → Int32}
/-- a place of the pane or of its frame -/
def pd (C R F : Nat) (ig : Nat → Nat → Int32) (y x : Nat) : Nat := if (1 ≤ y ∧ y ≤ R) ∧ (1 ≤ x ∧ x ≤ C) then nz (ig (y - 1) (x - 1)) else F
theorem pd_in {r c : Nat} (hr : r < R) (hc : c < C) : pd C R F ig (r + 1) (c + 1) = nz (ig r c) := if_pos ⟨⟨by omega, by omega⟩, by omega, by omega⟩
theorem arN_pd (hF : ¬ F = 2) {r c : Nat} (hr : r < R) (hc : c < C) : arN C R F ig c r + nz (ig r c) = sm (fun i => sm (fun j => pd C R F ig (r + i) (c + j)) 3) 3 := by
  have hb : ∀ i j, ¬ (i = 1 ∧ j = 1) → nbv C R F ig c r i j = pd C R F ig (r + i) (c + j) := fun i j h => by unfold nbv pd; rw [if_neg h, if_neg hF]
  have b00 := hb 0 0 (by omega); have b01 := hb 0 1 (by omega); have b02 := hb 0 2 (by omega)
  have b10 := hb 1 0 (by omega); have b12 := hb 1 2 (by omega)
  have b20 := hb 2 0 (by omega); have b21 := hb 2 1 (by omega); have b22 := hb 2 2 (by omega)
  have hc1 : nbv C R F ig c r 1 1 = 0 := nbv_c rfl rfl
  have hd := pd_in (F := F) (ig := ig) hr hc
  unfold arN arA
  simp only [sm]
  omega
theorem arN_pt {r c : Nat} (hr : r < R) (hc : c < C) : arN C R 2 ig c r + nz (ig r c) = sm (fun i => sm (fun j => nz (ig ((r + (i + (R - 1))) % R) ((c + (j + (C - 1))) % C))) 3) 3 := by
  have hb : ∀ i j, ¬ (i = 1 ∧ j = 1) → nbv C R 2 ig c r i j = nz (ig ((r + (i + (R - 1))) % R) ((c + (j + (C - 1))) % C)) := fun i j h => by rw [nbv_2 h rfl, Nat.add_assoc, Nat.add_assoc c]
  have b00 := hb 0 0 (by omega); have b01 := hb 0 1 (by omega); have b02 := hb 0 2 (by omega)
  have b10 := hb 1 0 (by omega); have b12 := hb 1 2 (by omega)
  have b20 := hb 2 0 (by omega); have b21 := hb 2 1 (by omega); have b22 := hb 2 2 (by omega)
  have hc1 : nbv C R 2 ig c r 1 1 = 0 := nbv_c rfl rfl
  have h1 : (r + (1 + (R - 1))) % R = r := by rw [show r + (1 + (R - 1)) = r + R by omega, Nat.add_mod_right, Nat.mod_eq_of_lt hr]
  have h2 : (c + (1 + (C - 1))) % C = c := by rw [show c + (1 + (C - 1)) = c + C by omega, Nat.add_mod_right, Nat.mod_eq_of_lt hc]
  have hd : nz (ig ((r + (1 + (R - 1))) % R) ((c + (1 + (C - 1))) % C)) = nz (ig r c) := by rw [h1, h2]
  unfold arN arA
  simp only [sm]
  omega
/-- all that is frozen -/
def fzS (C R : Nat) (ig : Nat → Nat → Int32) : Nat := sm (fun r => sm (fun c => nz (ig r c)) C) R
theorem sum_2 (hC : 0 < C) (hR : 0 < R) : sm (fun r => sm (fun c => arN C R 2 ig c r) C) R + fzS C R ig = 9 * fzS C R ig := by
  have e1 : sm (fun r => sm (fun c => arN C R 2 ig c r) C) R + fzS C R ig = sm (fun r => sm (fun c => sm (fun i => sm (fun j => nz (ig ((r + (i + (R - 1))) % R) ((c + (j + (C - 1))) % C))) 3) 3) C) R := by
    unfold fzS
    rw [← sm_add]
    exact sm_congr fun r hr => by rw [← sm_add]; exact sm_congr fun c hc => arN_pt hr hc
  have e2 : ∀ r, sm (fun c => sm (fun i => sm (fun j => nz (ig ((r + (i + (R - 1))) % R) ((c + (j + (C - 1))) % C))) 3) 3) C = 3 * sm (fun i => sm (fun c => nz (ig ((r + (i + (R - 1))) % R) c)) C) 3 := fun r => by
    rw [sm_swap, ← sm_mul]
    refine sm_congr fun i _ => ?_
    rw [sm_swap, sm_congr (g := fun _ => sm (fun c => nz (ig ((r + (i + (R - 1))) % R) c)) C) (fun j _ => sm_rot (fun c => nz (ig ((r + (i + (R - 1))) % R) c)) hC (j + (C - 1))), sm_const]
  have e3 : sm (fun r => 3 * sm (fun i => sm (fun c => nz (ig ((r + (i + (R - 1))) % R) c)) C) 3) R = 3 * (3 * fzS C R ig) := by
    rw [sm_mul, sm_swap, sm_congr (g := fun _ => fzS C R ig) (fun i _ => sm_rot (fun r => sm (fun c => nz (ig r c)) C) hR (i + (R - 1))), sm_const]
  rw [e1, sm_congr (fun r _ => e2 r), e3]; omega
def wgS (C R : Nat) (ig : Nat → Nat → Int32) : Nat := sm (fun r => cw R r * sm (fun c => cw C c * nz (ig r c)) C) R
theorem sum_n (hF : ¬ F = 2) (hC : 3 ≤ C) (hR : 3 ≤ R) : sm (fun r => sm (fun c => arN C R F ig c r) C) R + fzS C R ig = 2 * (2 * F + sm (cw C) C * F) + sm (cw R) R * (2 * F) + wgS C R ig := by
  have e1 : sm (fun r => sm (fun c => arN C R F ig c r) C) R + fzS C R ig = sm (fun r => sm (fun c => sm (fun i => sm (fun j => pd C R F ig (r + i) (c + j)) 3) 3) C) R := by
    unfold fzS
    rw [← sm_add]
    exact sm_congr fun r hr => by rw [← sm_add]; exact sm_congr fun c hc => arN_pd hF hr hc
  have e2 : ∀ r, sm (fun c => sm (fun i => sm (fun j => pd C R F ig (r + i) (c + j)) 3) 3) C = sm (fun i => (fun y => pd C R F ig y 0 + pd C R F ig y (C + 1) + sm (fun c => cw C c * pd C R F ig y (c + 1)) C) (r + i)) 3 := fun r => by
    rw [sm_swap]
    exact sm_congr fun i _ => sm_13 (fun x => pd C R F ig (r + i) x) hC
  have e3 := sm_13 (fun y => pd C R F ig y 0 + pd C R F ig y (C + 1) + sm (fun c => cw C c * pd C R F ig y (c + 1)) C) hR
  have o1 : ∀ x, pd C R F ig 0 x = F := fun x => if_neg (by omega)
  have o2 : ∀ x, pd C R F ig (R + 1) x = F := fun x => if_neg (by omega)
  have o3 : ∀ y, pd C R F ig y 0 = F := fun y => if_neg (by omega)
  have o4 : ∀ y, pd C R F ig y (C + 1) = F := fun y => if_neg (by omega)
  have o5 : sm (fun c => cw C c * F) C = sm (cw C) C * F := by
    rw [Nat.mul_comm, ← sm_mul]; exact sm_congr fun c _ => Nat.mul_comm _ _
  have e4 : sm (fun r => cw R r * (pd C R F ig (r + 1) 0 + pd C R F ig (r + 1) (C + 1) + sm (fun c => cw C c * pd C R F ig (r + 1) (c + 1)) C)) R = sm (cw R) R * (2 * F) + wgS C R ig := by
    have h1 : sm (fun r => cw R r * (pd C R F ig (r + 1) 0 + pd C R F ig (r + 1) (C + 1) + sm (fun c => cw C c * pd C R F ig (r + 1) (c + 1)) C)) R = sm (fun r => 2 * F * cw R r + cw R r * sm (fun c => cw C c * nz (ig r c)) C) R := sm_congr fun r hr => by
      rw [o3, o4, sm_congr (g := fun c => cw C c * nz (ig r c)) (fun c hc => by rw [pd_in hr hc]), Nat.mul_add, Nat.mul_comm (cw R r), show F + F = 2 * F by omega]
    rw [h1, sm_add, sm_mul, Nat.mul_comm]; rfl
  have e5 : sm (fun c => cw C c * pd C R F ig 0 (c + 1)) C = sm (cw C) C * F := (sm_congr fun c _ => by rw [o1]).trans o5
  have e6 : sm (fun c => cw C c * pd C R F ig (R + 1) (c + 1)) C = sm (cw C) C * F := (sm_congr fun c _ => by rw [o2]).trans o5
  rw [e1, sm_congr (fun r _ => e2 r), e3]
  simp only [o1, o2] at e5 e6 ⊢
  rw [e4, o5]
  omega
/-- what is due for a cell -/
def duN (C R F : Nat) (ig : Nat → Nat → Int32) (r c : Nat) : Nat := (if ig r c = 0 then 0 else if F = 2 then 8 else cw C c * cw R r - 1) + (if F = 1 then 8 - (cw C c * cw R r - 1) else 0)
theorem w49 (C R c r : Nat) : 4 ≤ cw C c * cw R r ∧ cw C c * cw R r ≤ 9 := by
  obtain ⟨a1, a2⟩ := cw_le C c
  obtain ⟨b1, b2⟩ := cw_le R r
  exact ⟨Nat.mul_le_mul a1 b1, Nat.mul_le_mul a2 b2⟩
theorem duN_le (C R F : Nat) (ig : Nat → Nat → Int32) (r c : Nat) : duN C R F ig r c ≤ 16 := by
  obtain ⟨h1, h2⟩ := w49 C R c r
  unfold duN
  split <;> split <;> (try split) <;> omega
theorem wg_flat : wgS C R ig = sm (fun r => sm (fun c => cw C c * cw R r * nz (ig r c)) C) R := by
  unfold wgS
  exact sm_congr fun r _ => by
    rw [← sm_mul]
    exact sm_congr fun c _ => by rw [← Nat.mul_assoc, Nat.mul_comm (cw R r)]
theorem due_n (hC : 3 ≤ C) (hR : 3 ≤ R) (hF : F ≤ 2) : sm (fun r => sm (fun c => arN C R F ig c r) C) R = sm (fun r => sm (duN C R F ig r) C) R := by
  rcases (show F = 0 ∨ F = 1 ∨ F = 2 by omega) with rfl | rfl | rfl
  · have h := sum_n (F := 0) (ig := ig) (by decide) hC hR
    have h2 : sm (fun r => sm (duN C R 0 ig r) C) R + fzS C R ig = wgS C R ig := by
      rw [wg_flat]; unfold fzS
      rw [← sm_add]
      exact sm_congr fun r _ => by
        rw [← sm_add]
        exact sm_congr fun c _ => by
          obtain ⟨w1, w2⟩ := w49 C R c r
          unfold duN nz
          by_cases z : ig r c = 0
          · rw [if_pos z, if_pos z, if_neg (by decide), Nat.mul_zero]
          · rw [if_neg z, if_neg z, if_neg (by decide), if_neg (by decide), Nat.mul_one]; omega
    simp only [Nat.mul_zero, Nat.add_zero, Nat.zero_add] at h
    omega
  · have h := sum_n (F := 1) (ig := ig) (by decide) hC hR
    have h2 : sm (fun r => sm (duN C R 1 ig r) C) R + fzS C R ig + sm (fun r => sm (fun c => cw C c * cw R r) C) R = wgS C R ig + R * (C * 9) := by
      rw [wg_flat, ← sm_const (C * 9) R]; unfold fzS
      rw [← sm_add, ← sm_add, ← sm_add]
      exact sm_congr fun r _ => by
        rw [← sm_const 9 C, ← sm_add, ← sm_add, ← sm_add]
        exact sm_congr fun c _ => by
          obtain ⟨w1, w2⟩ := w49 C R c r
          unfold duN nz
          by_cases z : ig r c = 0
          · rw [if_pos z, if_pos z, if_pos rfl, Nat.mul_zero]; omega
          · rw [if_neg z, if_neg z, if_neg (by decide), if_pos rfl, Nat.mul_one]; omega
    have h3 : sm (fun r => sm (fun c => cw C c * cw R r) C) R = sm (cw R) R * sm (cw C) C := by
      rw [Nat.mul_comm, ← sm_mul]
      exact sm_congr fun r _ => by
        rw [Nat.mul_comm, ← sm_mul]
        exact sm_congr fun c _ => Nat.mul_comm _ _
    have a1 := sm_cw hC
    have a2 := sm_cw hR
    have a3 : (sm (cw R) R + 2) * (sm (cw C) C + 2) = R * (C * 9) := by
      rw [a1, a2, show 3 * R = R * 3 from Nat.mul_comm _ _, Nat.mul_assoc]
      congr 1
      omega
    rw [Nat.add_mul, Nat.mul_add] at a3
    omega
  · have h := sum_2 (ig := ig) (show 0 < C by omega) (show 0 < R by omega)
    have h2 : sm (fun r => sm (duN C R 2 ig r) C) R = 8 * fzS C R ig := by
      unfold fzS
      rw [← sm_mul]
      exact sm_congr fun r _ => by
        rw [← sm_mul]
        exact sm_congr fun c _ => by
          unfold duN nz
          by_cases z : ig r c = 0
          · rw [if_pos z, if_pos z, if_neg (by decide)]
          · rw [if_neg z, if_neg z, if_pos rfl, if_neg (by decide)]
    omega
end DUE
