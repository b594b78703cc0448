/-! all together -/
theorem lift_told {N : Nat} (H : Op_told N (Rel WIc)) : Op_told N RelT := by
  intro cx cf key ms x1 ⟨hR, h0⟩
  obtain ⟨r, r1, e1, e2, e3, h⟩ := H cx cf key ms x1 hR
  exact ⟨r, r1, e1, e2, e3, h, h0⟩
theorem lift_allowed {N : Nat} (H : Op_allowed N (Rel WIc)) : Op_allowed N RelT := by
  intro cx cf key ms x1 x2 ⟨hR, h0⟩
  obtain ⟨r, r1, e1, e2, e3, h⟩ := H cx cf key ms x1 x2 hR
  exact ⟨r, r1, e1, e2, e3, h, h0⟩
theorem lift_way {N : Nat} (H : Op_way N (Rel WIc)) : Op_way N RelT := by
  intro cx cf key ms x1 x2 x3 ⟨hR, h0⟩
  obtain ⟨r, r1, e1, e2, e3, h⟩ := H cx cf key ms x1 x2 x3 hR
  exact ⟨r, r1, e1, e2, e3, h, h0⟩
theorem lift_one {N : Nat} (H : Op_one N (Rel WIc)) : Op_one N RelT := by
  intro cx cf key ms x1 x2 ⟨hR, h0⟩
  obtain ⟨r, r1, e1, e2, e3, h⟩ := H cx cf key ms x1 x2 hR
  exact ⟨r, r1, e1, e2, e3, h, h0⟩
theorem lift_type {N : Nat} (H : Op_type N (Rel WIc)) : Op_type N RelT := by
  intro cx cf key ms x1 x3 ⟨hR, h0⟩
  obtain ⟨r, r1, e1, e2, e3, h⟩ := H cx cf key ms x1 x3 hR
  exact ⟨r, r1, e1, e2, e3, h, h0⟩
theorem lift_clear {N : Nat} (H : Op_clear N (Rel WIc)) : Op_clear N RelT := by
  intro cx cf key ms  ⟨hR, h0⟩
  obtain ⟨r, r1, e1, e2, e3, h⟩ := H cx cf key ms  hR
  exact ⟨r, r1, e1, e2, e3, h, h0⟩
theorem lift_judged {N : Nat} (H : Op_judged N (Rel WIc)) : Op_judged N RelT := by
  intro cx cf key ms x1 ⟨hR, h0⟩
  obtain ⟨r, r1, e1, e2, e3, h⟩ := H cx cf key ms x1 hR
  exact ⟨r, r1, e1, e2, e3, h, h0⟩
theorem lift_ends {N : Nat} (H : Op_ends N (Rel WIc)) : Op_ends N RelT := by
  intro cx cf key ms x1 ⟨hR, h0⟩
  obtain ⟨r, r1, e1, e2, e3, h⟩ := H cx cf key ms x1 hR
  exact ⟨r, r1, e1, e2, e3, h, h0⟩
theorem lift_parted {N : Nat} (H : Op_parted N (Rel WIc)) : Op_parted N RelT := by
  intro cx cf key ms x1 x2 x3 ⟨hR, h0⟩
  obtain ⟨r, r1, e1, e2, e3, h⟩ := H cx cf key ms x1 x2 x3 hR
  exact ⟨r, r1, e1, e2, e3, h, h0⟩
theorem lift_row {N : Nat} (H : Op_row N (Rel WIc)) : Op_row N RelT := by
  intro cx cf key ms x1 x2 x3 x4 ⟨hR, h0⟩
  obtain ⟨r, r1, e1, e2, e3, h⟩ := H cx cf key ms x1 x2 x3 x4 hR
  exact ⟨r, r1, e1, e2, e3, h, h0⟩
theorem lift_knot {N : Nat} (H : Op_knot N (Rel WIc)) : Op_knot N RelT := by
  intro cx cf key ms x1 ⟨hR, h0⟩
  obtain ⟨r, r1, e1, e2, e3, h⟩ := H cx cf key ms x1 hR
  exact ⟨r, r1, e1, e2, e3, h, h0⟩
theorem lift_untie {N : Nat} (H : Op_untie N (Rel WIc)) : Op_untie N RelT := by
  intro cx cf key ms  ⟨hR, h0⟩
  obtain ⟨r, r1, e1, e2, e3, h⟩ := H cx cf key ms  hR
  exact ⟨r, r1, e1, e2, e3, h, h0⟩
theorem lift_counted {N : Nat} (H : Op_counted N (Rel WIc)) : Op_counted N RelT := by
  intro cx cf key ms x1 x2 ⟨hR, h0⟩
  obtain ⟨r, r1, e1, e2, e3, h⟩ := H cx cf key ms x1 x2 hR
  exact ⟨r, r1, e1, e2, e3, h, h0⟩
theorem lift_partings {N : Nat} (H : Op_partings N (Rel WIc)) : Op_partings N RelT := by
  intro cx cf key ms x1 x2 ⟨hR, h0⟩
  obtain ⟨r, r1, e1, e2, e3, h⟩ := H cx cf key ms x1 x2 hR
  exact ⟨r, r1, e1, e2, e3, h, h0⟩
theorem lift_together {N : Nat} (H : Op_together N (Rel WIc)) : Op_together N RelT := by
  intro cx cf key ms x1 x2 x3 ⟨hR, h0⟩
  obtain ⟨r, r1, e1, e2, e3, h⟩ := H cx cf key ms x1 x2 x3 hR
  exact ⟨r, r1, e1, e2, e3, h, h0⟩
theorem lift_soonest {N : Nat} (H : Op_soonest N (Rel WIc)) : Op_soonest N RelT := by
  intro cx cf key ms x1 ⟨hR, h0⟩
  obtain ⟨r, r1, e1, e2, e3, h⟩ := H cx cf key ms x1 hR
  exact ⟨r, r1, e1, e2, e3, h, h0⟩
theorem lift_at {N : Nat} (H : Op_at N (Rel WIc)) : Op_at N RelT := by
  intro cx cf key ms x1 x2 x3 ⟨hR, h0⟩
  obtain ⟨r, r1, e1, e2, e3, h⟩ := H cx cf key ms x1 x2 x3 hR
  exact ⟨r, r1, e1, e2, e3, h, h0⟩
theorem lift_never {N : Nat} (H : Op_never N (Rel WIc)) : Op_never N RelT := by
  intro cx cf key ms x1 ⟨hR, h0⟩
  obtain ⟨r, r1, e1, e2, e3, h⟩ := H cx cf key ms x1 hR
  exact ⟨r, r1, e1, e2, e3, h, h0⟩
theorem lift_hired {N : Nat} (H : Op_hired N (Rel WIc)) : Op_hired N RelT := by
  intro cx cf key ms x1 x2 ⟨hR, h0⟩
  obtain ⟨r, r1, e1, e2, e3, h⟩ := H cx cf key ms x1 x2 hR
  exact ⟨r, r1, e1, e2, e3, h, h0⟩
theorem lift_last {N : Nat} (H : Op_last N (Rel WIc)) : Op_last N RelT := by
  intro cx cf key ms x1 x2 ⟨hR, h0⟩
  obtain ⟨r, r1, e1, e2, e3, h⟩ := H cx cf key ms x1 x2 hR
  exact ⟨r, r1, e1, e2, e3, h, h0⟩
theorem lift_still {N : Nat} (H : Op_still N (Rel WIc)) : Op_still N RelT := by
  intro cx cf key ms x1 ⟨hR, h0⟩
  obtain ⟨r, r1, e1, e2, e3, h⟩ := H cx cf key ms x1 hR
  exact ⟨r, r1, e1, e2, e3, h, h0⟩
theorem lift_company {N : Nat} (H : Op_company N (Rel WIc)) : Op_company N RelT := by
  intro cx cf key ms x1 ⟨hR, h0⟩
  obtain ⟨r, r1, e1, e2, e3, h⟩ := H cx cf key ms x1 hR
  exact ⟨r, r1, e1, e2, e3, h, h0⟩
theorem lift_disperse {N : Nat} (H : Op_disperse N (Rel WIc)) : Op_disperse N RelT := by
  intro cx cf key ms  ⟨hR, h0⟩
  obtain ⟨r, r1, e1, e2, e3, h⟩ := H cx cf key ms  hR
  exact ⟨r, r1, e1, e2, e3, h, h0⟩
theorem lift_put {N : Nat} (H : Op_put N (Rel WIc)) : Op_put N RelT := by
  intro cx cf key ms x1 x2 ⟨hR, h0⟩
  obtain ⟨r, r1, e1, e2, e3, h⟩ := H cx cf key ms x1 x2 hR
  exact ⟨r, r1, e1, e2, e3, h, h0⟩
theorem lift_ferry {N : Nat} (H : Op_ferry N (Rel WIc)) : Op_ferry N RelT := by
  intro cx cf key ms x1 x2 ⟨hR, h0⟩
  obtain ⟨r, r1, e1, e2, e3, h⟩ := H cx cf key ms x1 x2 hR
  exact ⟨r, r1, e1, e2, e3, h, h0⟩
theorem lift_part {N : Nat} (H : Op_part N (Rel WIc)) : Op_part N RelT := by
  intro cx cf key ms x1 ⟨hR, h0⟩
  obtain ⟨r, r1, e1, e2, e3, h⟩ := H cx cf key ms x1 hR
  exact ⟨r, r1, e1, e2, e3, h, h0⟩
theorem lift_image {N : Nat} (H : Op_image N (Rel WIc)) : Op_image N RelT := by
  intro cx cf key ms x1 ⟨hR, h0⟩
  obtain ⟨r, r1, e1, e2, e3, h⟩ := H cx cf key ms x1 hR
  exact ⟨r, r1, e1, e2, e3, h, h0⟩
theorem lift_from {N : Nat} (H : Op_from N (Rel WIc)) : Op_from N RelT := by
  intro cx cf key ms x1 ⟨hR, h0⟩
  obtain ⟨r, r1, e1, e2, e3, h⟩ := H cx cf key ms x1 hR
  exact ⟨r, r1, e1, e2, e3, h, h0⟩
theorem lift_status {N : Nat} (H : Op_status N (Rel WIc)) : Op_status N RelT := by
  intro cx cf key ms x1 ⟨hR, h0⟩
  obtain ⟨r, r1, e1, e2, e3, h⟩ := H cx cf key ms x1 hR
  exact ⟨r, r1, e1, e2, e3, h, h0⟩
theorem lift_count {N : Nat} (H : Op_count N (Rel WIc)) : Op_count N RelT := by
  intro cx cf key ms x1 ⟨hR, h0⟩
  obtain ⟨r, r1, e1, e2, e3, h⟩ := H cx cf key ms x1 hR
  exact ⟨r, r1, e1, e2, e3, h, h0⟩
theorem lift_digest {N : Nat} (H : Op_digest N (Rel WIc)) : Op_digest N RelT := by
  intro cx cf key ms  ⟨hR, h0⟩
  obtain ⟨r, r1, e1, e2, e3, h⟩ := H cx cf key ms  hR
  exact ⟨r, r1, e1, e2, e3, h, h0⟩
def aA (k : Nat) : Nat := if k = 0 then 6 else if k = 357 then 10 else 0
theorem INV_0 : INV aA := by
  refine ⟨by unfold IC; decide, ⟨by decide, by decide, fun i j hi hj => by unfold aA; rw [if_neg (by omega), if_neg (by omega), if_neg (by omega), if_neg (by omega)], by decide⟩, ?_, ?_, ?_, ?_, ?_, ?_, ?_, by unfold IR; decide⟩
  · intro p hp; exact absurd hp (Nat.not_lt_zero _)
  · intro p hp; exact absurd hp (Nat.not_lt_zero _)
  · intro p hp; exact absurd hp (Nat.not_lt_zero _)
  · intro p hp; exact absurd hp (Nat.not_lt_zero _)
  · intro p hp; exact absurd hp (Nat.not_lt_zero _)
  · unfold IL; decide
  · intro p hp; exact absurd hp (Nat.not_lt_zero _)
theorem K2_0 : K2 aA cx0 cf0 0 := by
  refine ⟨INV_0, ⟨⟨⟨rfl, rfl, rfl, rfl⟩, ⟨rfl, rfl, rfl, rfl, rfl, rfl⟩, rfl, rfl, rfl, rfl, rfl, rfl⟩, ⟨AR.less rfl, AR.less rfl⟩, ⟨AR.less rfl, AR.less rfl, AR.less rfl, AR.less rfl⟩, AR.less rfl, AR.less rfl, ⟨AR.less rfl, AR.less rfl⟩, ?_, AR.less rfl⟩, ?_⟩
  · intro c hc
    rcases (show c = 0 ∨ c = 1 ∨ c = 2 ∨ c = 3 by omega) with rfl | rfl | rfl | rfl <;> rfl
  · intro k hk
    show (upd (upd q_z (0 : Int32).toNatClampNeg 6) (357 : Int32).toNatClampNeg 10) (360 * 0 + k) = nI (aA k)
    rw [show (0 : Int32).toNatClampNeg = 0 from rfl, show (357 : Int32).toNatClampNeg = 357 from rfl, show 360 * 0 + k = k by omega]
    unfold aA upd
    by_cases c : k = 357
    · rw [if_pos c, if_neg (by omega), if_pos c]; rfl
    · rw [if_neg c]
      by_cases d : k = 0
      · rw [if_pos d, if_pos d]; rfl
      · rw [if_neg d, if_neg d, if_neg c]; rfl
theorem lift_read {N : Nat} (H : Op_read N (Rel WIc)) : Op_read N RelT := by
  intro cx cf key ms ⟨hR, h0⟩
  obtain ⟨r, r1, e1, e2, e3, h⟩ := H cx cf key ms hR
  exact ⟨r, r1, e1, e2, e3, h, h0⟩
theorem RelT_0 : RelT cx0 cf0 (-1) 0 := by
  refine ⟨⟨⟨aA, K2_0⟩, ⟨0, 0, by decide, by decide, rfl, rfl, rfl, fun h => absurd h (by decide), fun h => absurd h (by decide)⟩, ⟨rfl, rfl⟩, fun i hi => rfl, Or.inl rfl⟩, rfl⟩
def nn : Nat := 1048576
theorem pure_read (hr : Op_read nn (Rel WIc)) : ∃ (N : Nat) (Rel : q_Rel), OpsOk N Rel ∧ Rel cx0 cf0 (-1) 0 := by
  refine ⟨nn, RelT, ⟨lift_told (op_told), lift_allowed (op_allowed (by unfold nn; omega)), lift_way (op_way), lift_one (op_one), lift_type (op_type (by unfold nn; omega)), lift_clear (op_clear), lift_read hr, lift_judged (op_judged (by unfold nn; omega)), lift_ends (op_ends (by unfold nn; omega)), lift_parted (op_parted (by unfold nn; omega)), lift_row (op_row (by unfold nn; omega)), lift_knot (op_knot), lift_untie (op_untie), lift_counted (op_counted), lift_partings (op_partings (by unfold nn; omega)), lift_together (op_together (by unfold nn; omega)), lift_soonest (op_soonest (by unfold nn; omega)), lift_at (op_at (by unfold nn; omega)), lift_never (op_never (by unfold nn; omega)), lift_hired (op_hired (by unfold nn; omega)), lift_last (op_last), lift_still (op_still (by unfold nn; omega)), op_tables (by unfold nn; omega), lift_company (op_company), lift_disperse (op_disperse), lift_put (op_put), lift_ferry (op_ferry (by unfold nn; omega)), lift_part (op_part), lift_image (op_image (by unfold nn; omega)), lift_from (op_from (by unfold nn; omega)), lift_status (op_status), lift_count (op_count (by unfold nn; omega)), lift_digest (op_digest (by unfold nn; omega))⟩, RelT_0⟩
