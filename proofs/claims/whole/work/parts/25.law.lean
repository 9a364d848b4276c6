/-! ===== the law ===== -/
def scI (sc : Nat → Int32) (L : Nat) (i : Int32) : Option Int32 := if 0 ≤ i.toInt ∧ i.toInt < (L : Int) then some (sc i.toNatClampNeg) else none
def SC (G : GE) (X : CX) (L : Nat) (sc : Nat → Int32) : Prop := va_X (gX G 20) L sc (xs X) (xs X).heap ∧ gX G 20 < (xs X).heap.size ∧ ¬ gA G (gX G 20)
theorem OK.no {α : Type} {P : α → Prop} (h : OK (none : Option α) P) : False := by
  obtain ⟨a, ha, -⟩ := h
  cases ha
section AWL
variable {G : GE} {X : CX} {cc : ByteArray} {own : String} {pc : Nat} {lv : List (Nat × AV)} {st : List AV} {h : Mem} {ce sl : Nat}
theorem aw_scl (hX : Ok G X cc own) {L : Nat} {sc : Nat → Int32} (hsc : SC G X L sc) {i : Int32} {α : Type} {f : Int32 → Option α} {P : α → Prop} (hy : OK ((scI sc L i).bind f) P) (d : decode cc pc = .ok (.iaload, 1)) (kk : ∀ v, OK (f v) P → AW G X (pc + 1) lv (vI v :: st) h ce sl) : AW G X pc lv (vI i :: vX 20 :: st) h ce sl := by
  obtain ⟨v, e, hy⟩ := hy.b
  unfold scI at e
  split at e
  · rename_i hc
    cases e
    intro H locs ls hR hS hl
    exact va_sld hX.1 hX.2.1 hsc.1 hsc.2.1 hsc.2.2 hS (vp_in_iff.mpr hc) d (kk _ hy H locs ls hR hS hl)
  · cases e
theorem aw_slen (hX : Ok G X cc own) {L : Nat} {sc : Nat → Int32} (hsc : SC G X L sc) (d : decode cc pc = .ok (.arraylength, 1)) (kk : AW G X (pc + 1) lv (vI (Int32.ofNat L) :: st) h ce sl) : AW G X pc lv (vX 20 :: st) h ce sl :=
  fun H locs ls hR hS hl => va_slen hX.1 hX.2.1 hsc.1 hsc.2.1 hsc.2.2 hS d (kk H locs ls hR hS hl)
theorem rm_law {rm : Room} {mxl : Nat} (hr : xr X = room_1) (hd : rm.frames + 1 ≤ 16 ∧ 8 + (mxl + 11) + rm.locals ≤ 604) (h1 : ce + rm.cells ≤ 601024) (h2 : sl + rm.slots ≤ 7293034) : Rm X rm mxl ce sl := by
  unfold Rm
  rw [hr]
  exact ⟨hd, h1, h2⟩
end AWL
theorem ml_L_19 : Cond.methodLink RL 19 yX11_feed ∈ TT := TT_i 452 (by decide +kernel) rfl
theorem mc_X11_feed : MC yX11_feed cX11_feed 6 (some .int) 5 := ⟨TT_i 455 (by decide +kernel) rfl, TT_i 1 (by decide +kernel) rfl, by decide +kernel⟩
theorem im_X11_feed : Cond.instanceMethod yX11_feed ∈ TT := TT_i 453 (by decide +kernel) rfl
theorem se_X11_feed : Cond.selects (cR 9) yX11_feed yX11_feed ∈ TT := TT_i 454 (by decide +kernel) rfl
theorem ml_L_23 : Cond.methodLink RL 23 yX13_feed ∈ TT := TT_i 1392 (by decide +kernel) rfl
theorem mc_X13_feed : MC yX13_feed cX13_feed 8 (some .int) 5 := ⟨TT_i 1395 (by decide +kernel) rfl, TT_i 15 (by decide +kernel) rfl, by decide +kernel⟩
theorem im_X13_feed : Cond.instanceMethod yX13_feed ∈ TT := TT_i 1393 (by decide +kernel) rfl
theorem se_X13_feed : Cond.selects (cR 11) yX13_feed yX13_feed ∈ TT := TT_i 1394 (by decide +kernel) rfl
theorem ml_L_24 : Cond.methodLink RL 24 yX11_turnpike ∈ TT := TT_i 464 (by decide +kernel) rfl
theorem mc_X11_turnpike : MC yX11_turnpike cX11_turnpike 2 (some .int) 1 := ⟨TT_i 467 (by decide +kernel) rfl, TT_i 1 (by decide +kernel) rfl, by decide +kernel⟩
theorem im_X11_turnpike : Cond.instanceMethod yX11_turnpike ∈ TT := TT_i 465 (by decide +kernel) rfl
theorem se_X11_turnpike : Cond.selects (cR 9) yX11_turnpike yX11_turnpike ∈ TT := TT_i 466 (by decide +kernel) rfl
theorem ml_L_27 : Cond.methodLink RL 27 yX13_turnpike ∈ TT := TT_i 1396 (by decide +kernel) rfl
theorem mc_X13_turnpike : MC yX13_turnpike cX13_turnpike 3 (some .int) 1 := ⟨TT_i 1399 (by decide +kernel) rfl, TT_i 15 (by decide +kernel) rfl, by decide +kernel⟩
theorem im_X13_turnpike : Cond.instanceMethod yX13_turnpike ∈ TT := TT_i 1397 (by decide +kernel) rfl
theorem se_X13_turnpike : Cond.selects (cR 11) yX13_turnpike yX13_turnpike ∈ TT := TT_i 1398 (by decide +kernel) rfl
theorem ml_L_28 : Cond.methodLink RL 28 yX11_fault ∈ TT := TT_i 700 (by decide +kernel) rfl
theorem mc_X11_fault : MC yX11_fault cX11_fault 1 (some .int) 0 := ⟨TT_i 703 (by decide +kernel) rfl, TT_i 1 (by decide +kernel) rfl, by decide +kernel⟩
theorem im_X11_fault : Cond.instanceMethod yX11_fault ∈ TT := TT_i 701 (by decide +kernel) rfl
theorem se_X11_fault : Cond.selects (cR 9) yX11_fault yX11_fault ∈ TT := TT_i 702 (by decide +kernel) rfl
theorem ml_L_32 : Cond.methodLink RL 32 yX13_fault ∈ TT := TT_i 1666 (by decide +kernel) rfl
theorem mc_X13_fault : MC yX13_fault cX13_fault 1 (some .int) 0 := ⟨TT_i 1669 (by decide +kernel) rfl, TT_i 15 (by decide +kernel) rfl, by decide +kernel⟩
theorem im_X13_fault : Cond.instanceMethod yX13_fault ∈ TT := TT_i 1667 (by decide +kernel) rfl
theorem se_X13_fault : Cond.selects (cR 11) yX13_fault yX13_fault ∈ TT := TT_i 1668 (by decide +kernel) rfl
theorem ml_L_33 : Cond.methodLink RL 33 yX11_where ∈ TT := TT_i 704 (by decide +kernel) rfl
theorem mc_X11_where : MC yX11_where cX11_where 1 (some .int) 0 := ⟨TT_i 707 (by decide +kernel) rfl, TT_i 1 (by decide +kernel) rfl, by decide +kernel⟩
theorem im_X11_where : Cond.instanceMethod yX11_where ∈ TT := TT_i 705 (by decide +kernel) rfl
theorem se_X11_where : Cond.selects (cR 9) yX11_where yX11_where ∈ TT := TT_i 706 (by decide +kernel) rfl
theorem ml_L_36 : Cond.methodLink RL 36 yX13_where ∈ TT := TT_i 1670 (by decide +kernel) rfl
theorem mc_X13_where : MC yX13_where cX13_where 1 (some .int) 0 := ⟨TT_i 1673 (by decide +kernel) rfl, TT_i 15 (by decide +kernel) rfl, by decide +kernel⟩
theorem im_X13_where : Cond.instanceMethod yX13_where ∈ TT := TT_i 1671 (by decide +kernel) rfl
theorem se_X13_where : Cond.selects (cR 11) yX13_where yX13_where ∈ TT := TT_i 1672 (by decide +kernel) rfl
theorem ml_L_37 : Cond.methodLink RL 37 yX11_length ∈ TT := TT_i 708 (by decide +kernel) rfl
theorem mc_X11_length : MC yX11_length cX11_length 2 (some .int) 1 := ⟨TT_i 711 (by decide +kernel) rfl, TT_i 1 (by decide +kernel) rfl, by decide +kernel⟩
theorem im_X11_length : Cond.instanceMethod yX11_length ∈ TT := TT_i 709 (by decide +kernel) rfl
theorem se_X11_length : Cond.selects (cR 9) yX11_length yX11_length ∈ TT := TT_i 710 (by decide +kernel) rfl
theorem ml_L_40 : Cond.methodLink RL 40 yX13_length ∈ TT := TT_i 1674 (by decide +kernel) rfl
theorem mc_X13_length : MC yX13_length cX13_length 2 (some .int) 1 := ⟨TT_i 1677 (by decide +kernel) rfl, TT_i 15 (by decide +kernel) rfl, by decide +kernel⟩
theorem im_X13_length : Cond.instanceMethod yX13_length ∈ TT := TT_i 1675 (by decide +kernel) rfl
theorem se_X13_length : Cond.selects (cR 11) yX13_length yX13_length ∈ TT := TT_i 1676 (by decide +kernel) rfl
theorem ml_L_41 : Cond.methodLink RL 41 yX11_sung ∈ TT := TT_i 716 (by decide +kernel) rfl
theorem mc_X11_sung : MC yX11_sung cX11_sung 4 (some .int) 3 := ⟨TT_i 719 (by decide +kernel) rfl, TT_i 1 (by decide +kernel) rfl, by decide +kernel⟩
theorem im_X11_sung : Cond.instanceMethod yX11_sung ∈ TT := TT_i 717 (by decide +kernel) rfl
theorem se_X11_sung : Cond.selects (cR 9) yX11_sung yX11_sung ∈ TT := TT_i 718 (by decide +kernel) rfl
theorem ml_L_45 : Cond.methodLink RL 45 yX13_sung ∈ TT := TT_i 1682 (by decide +kernel) rfl
theorem mc_X13_sung : MC yX13_sung cX13_sung 4 (some .int) 3 := ⟨TT_i 1685 (by decide +kernel) rfl, TT_i 15 (by decide +kernel) rfl, by decide +kernel⟩
theorem im_X13_sung : Cond.instanceMethod yX13_sung ∈ TT := TT_i 1683 (by decide +kernel) rfl
theorem se_X13_sung : Cond.selects (cR 11) yX13_sung yX13_sung ∈ TT := TT_i 1684 (by decide +kernel) rfl
theorem ml_L_46 : Cond.methodLink RL 46 yX11_road ∈ TT := TT_i 725 (by decide +kernel) rfl
theorem mc_X11_road : MC yX11_road cX11_road 4 (some .int) 2 := ⟨TT_i 728 (by decide +kernel) rfl, TT_i 1 (by decide +kernel) rfl, by decide +kernel⟩
theorem im_X11_road : Cond.instanceMethod yX11_road ∈ TT := TT_i 726 (by decide +kernel) rfl
theorem se_X11_road : Cond.selects (cR 9) yX11_road yX11_road ∈ TT := TT_i 727 (by decide +kernel) rfl
theorem ml_L_50 : Cond.methodLink RL 50 yX13_road ∈ TT := TT_i 1698 (by decide +kernel) rfl
theorem mc_X13_road : MC yX13_road cX13_road 4 (some .int) 2 := ⟨TT_i 1701 (by decide +kernel) rfl, TT_i 15 (by decide +kernel) rfl, by decide +kernel⟩
theorem im_X13_road : Cond.instanceMethod yX13_road ∈ TT := TT_i 1699 (by decide +kernel) rfl
theorem se_X13_road : Cond.selects (cR 11) yX13_road yX13_road ∈ TT := TT_i 1700 (by decide +kernel) rfl
theorem ml_L_51 : Cond.methodLink RL 51 yX11_gate ∈ TT := TT_i 738 (by decide +kernel) rfl
theorem mc_X11_gate : MC yX11_gate cX11_gate 5 (some .int) 3 := ⟨TT_i 741 (by decide +kernel) rfl, TT_i 1 (by decide +kernel) rfl, by decide +kernel⟩
theorem im_X11_gate : Cond.instanceMethod yX11_gate ∈ TT := TT_i 739 (by decide +kernel) rfl
theorem se_X11_gate : Cond.selects (cR 9) yX11_gate yX11_gate ∈ TT := TT_i 740 (by decide +kernel) rfl
theorem ml_L_55 : Cond.methodLink RL 55 yX13_gate ∈ TT := TT_i 1713 (by decide +kernel) rfl
theorem mc_X13_gate : MC yX13_gate cX13_gate 5 (some .int) 3 := ⟨TT_i 1716 (by decide +kernel) rfl, TT_i 15 (by decide +kernel) rfl, by decide +kernel⟩
theorem im_X13_gate : Cond.instanceMethod yX13_gate ∈ TT := TT_i 1714 (by decide +kernel) rfl
theorem se_X13_gate : Cond.selects (cR 11) yX13_gate yX13_gate ∈ TT := TT_i 1715 (by decide +kernel) rfl
theorem ml_L_56 : Cond.methodLink RL 56 yX11_inn ∈ TT := TT_i 743 (by decide +kernel) rfl
theorem mc_X11_inn : MC yX11_inn cX11_inn 3 (some .int) 2 := ⟨TT_i 746 (by decide +kernel) rfl, TT_i 1 (by decide +kernel) rfl, by decide +kernel⟩
theorem im_X11_inn : Cond.instanceMethod yX11_inn ∈ TT := TT_i 744 (by decide +kernel) rfl
theorem se_X11_inn : Cond.selects (cR 9) yX11_inn yX11_inn ∈ TT := TT_i 745 (by decide +kernel) rfl
theorem ml_L_59 : Cond.methodLink RL 59 yX13_inn ∈ TT := TT_i 1717 (by decide +kernel) rfl
theorem mc_X13_inn : MC yX13_inn cX13_inn 3 (some .int) 2 := ⟨TT_i 1720 (by decide +kernel) rfl, TT_i 15 (by decide +kernel) rfl, by decide +kernel⟩
theorem im_X13_inn : Cond.instanceMethod yX13_inn ∈ TT := TT_i 1718 (by decide +kernel) rfl
theorem se_X13_inn : Cond.selects (cR 11) yX13_inn yX13_inn ∈ TT := TT_i 1719 (by decide +kernel) rfl
theorem ml_L_60 : Cond.methodLink RL 60 yX11_person ∈ TT := TT_i 755 (by decide +kernel) rfl
theorem mc_X11_person : MC yX11_person cX11_person 3 (some .int) 2 := ⟨TT_i 758 (by decide +kernel) rfl, TT_i 1 (by decide +kernel) rfl, by decide +kernel⟩
theorem im_X11_person : Cond.instanceMethod yX11_person ∈ TT := TT_i 756 (by decide +kernel) rfl
theorem se_X11_person : Cond.selects (cR 9) yX11_person yX11_person ∈ TT := TT_i 757 (by decide +kernel) rfl
theorem ml_L_63 : Cond.methodLink RL 63 yX13_person ∈ TT := TT_i 1721 (by decide +kernel) rfl
theorem mc_X13_person : MC yX13_person cX13_person 3 (some .int) 2 := ⟨TT_i 1724 (by decide +kernel) rfl, TT_i 15 (by decide +kernel) rfl, by decide +kernel⟩
theorem im_X13_person : Cond.instanceMethod yX13_person ∈ TT := TT_i 1722 (by decide +kernel) rfl
theorem se_X13_person : Cond.selects (cR 11) yX13_person yX13_person ∈ TT := TT_i 1723 (by decide +kernel) rfl
theorem ml_L_64 : Cond.methodLink RL 64 yX11_lifts ∈ TT := TT_i 767 (by decide +kernel) rfl
theorem mc_X11_lifts : MC yX11_lifts cX11_lifts 6 (some .int) 4 := ⟨TT_i 770 (by decide +kernel) rfl, TT_i 1 (by decide +kernel) rfl, by decide +kernel⟩
theorem im_X11_lifts : Cond.instanceMethod yX11_lifts ∈ TT := TT_i 768 (by decide +kernel) rfl
theorem se_X11_lifts : Cond.selects (cR 9) yX11_lifts yX11_lifts ∈ TT := TT_i 769 (by decide +kernel) rfl
theorem ml_L_68 : Cond.methodLink RL 68 yX13_lifts ∈ TT := TT_i 1729 (by decide +kernel) rfl
theorem mc_X13_lifts : MC yX13_lifts cX13_lifts 5 (some .int) 4 := ⟨TT_i 1732 (by decide +kernel) rfl, TT_i 15 (by decide +kernel) rfl, by decide +kernel⟩
theorem im_X13_lifts : Cond.instanceMethod yX13_lifts ∈ TT := TT_i 1730 (by decide +kernel) rfl
theorem se_X13_lifts : Cond.selects (cR 11) yX13_lifts yX13_lifts ∈ TT := TT_i 1731 (by decide +kernel) rfl
theorem ml_L_69 : Cond.methodLink RL 69 yX11_passes ∈ TT := TT_i 779 (by decide +kernel) rfl
theorem mc_X11_passes : MC yX11_passes cX11_passes 5 (some .int) 3 := ⟨TT_i 782 (by decide +kernel) rfl, TT_i 1 (by decide +kernel) rfl, by decide +kernel⟩
theorem im_X11_passes : Cond.instanceMethod yX11_passes ∈ TT := TT_i 780 (by decide +kernel) rfl
theorem se_X11_passes : Cond.selects (cR 9) yX11_passes yX11_passes ∈ TT := TT_i 781 (by decide +kernel) rfl
theorem ml_L_72 : Cond.methodLink RL 72 yX13_passes ∈ TT := TT_i 1741 (by decide +kernel) rfl
theorem mc_X13_passes : MC yX13_passes cX13_passes 4 (some .int) 3 := ⟨TT_i 1744 (by decide +kernel) rfl, TT_i 15 (by decide +kernel) rfl, by decide +kernel⟩
theorem im_X13_passes : Cond.instanceMethod yX13_passes ∈ TT := TT_i 1742 (by decide +kernel) rfl
theorem se_X13_passes : Cond.selects (cR 11) yX13_passes yX13_passes ∈ TT := TT_i 1743 (by decide +kernel) rfl
theorem ml_L_73 : Cond.methodLink RL 73 yX11_opens ∈ TT := TT_i 788 (by decide +kernel) rfl
theorem mc_X11_opens : MC yX11_opens cX11_opens 2 (some .int) 1 := ⟨TT_i 791 (by decide +kernel) rfl, TT_i 1 (by decide +kernel) rfl, by decide +kernel⟩
theorem im_X11_opens : Cond.instanceMethod yX11_opens ∈ TT := TT_i 789 (by decide +kernel) rfl
theorem se_X11_opens : Cond.selects (cR 9) yX11_opens yX11_opens ∈ TT := TT_i 790 (by decide +kernel) rfl
theorem ml_L_76 : Cond.methodLink RL 76 yX13_opens ∈ TT := TT_i 1749 (by decide +kernel) rfl
theorem mc_X13_opens : MC yX13_opens cX13_opens 5 (some .int) 1 := ⟨TT_i 1752 (by decide +kernel) rfl, TT_i 15 (by decide +kernel) rfl, by decide +kernel⟩
theorem im_X13_opens : Cond.instanceMethod yX13_opens ∈ TT := TT_i 1750 (by decide +kernel) rfl
theorem se_X13_opens : Cond.selects (cR 11) yX13_opens yX13_opens ∈ TT := TT_i 1751 (by decide +kernel) rfl
theorem ml_L_77 : Cond.methodLink RL 77 yX11_likest ∈ TT := TT_i 796 (by decide +kernel) rfl
theorem mc_X11_likest : MC yX11_likest cX11_likest 1 (some .int) 0 := ⟨TT_i 799 (by decide +kernel) rfl, TT_i 1 (by decide +kernel) rfl, by decide +kernel⟩
theorem im_X11_likest : Cond.instanceMethod yX11_likest ∈ TT := TT_i 797 (by decide +kernel) rfl
theorem se_X11_likest : Cond.selects (cR 9) yX11_likest yX11_likest ∈ TT := TT_i 798 (by decide +kernel) rfl
theorem ml_L_80 : Cond.methodLink RL 80 yX13_likest ∈ TT := TT_i 1753 (by decide +kernel) rfl
theorem mc_X13_likest : MC yX13_likest cX13_likest 5 (some .int) 0 := ⟨TT_i 1756 (by decide +kernel) rfl, TT_i 15 (by decide +kernel) rfl, by decide +kernel⟩
theorem im_X13_likest : Cond.instanceMethod yX13_likest ∈ TT := TT_i 1754 (by decide +kernel) rfl
theorem se_X13_likest : Cond.selects (cR 11) yX13_likest yX13_likest ∈ TT := TT_i 1755 (by decide +kernel) rfl
theorem ml_L_81 : Cond.methodLink RL 81 yX11_way ∈ TT := TT_i 807 (by decide +kernel) rfl
theorem mc_X11_way : MC yX11_way cX11_way 4 (some .int) 2 := ⟨TT_i 810 (by decide +kernel) rfl, TT_i 1 (by decide +kernel) rfl, by decide +kernel⟩
theorem im_X11_way : Cond.instanceMethod yX11_way ∈ TT := TT_i 808 (by decide +kernel) rfl
theorem se_X11_way : Cond.selects (cR 9) yX11_way yX11_way ∈ TT := TT_i 809 (by decide +kernel) rfl
theorem ml_L_84 : Cond.methodLink RL 84 yX13_way ∈ TT := TT_i 1761 (by decide +kernel) rfl
theorem mc_X13_way : MC yX13_way cX13_way 3 (some .int) 2 := ⟨TT_i 1764 (by decide +kernel) rfl, TT_i 15 (by decide +kernel) rfl, by decide +kernel⟩
theorem im_X13_way : Cond.instanceMethod yX13_way ∈ TT := TT_i 1762 (by decide +kernel) rfl
theorem se_X13_way : Cond.selects (cR 11) yX13_way yX13_way ∈ TT := TT_i 1763 (by decide +kernel) rfl
theorem ml_L_85 : Cond.methodLink RL 85 yX11_wayAt ∈ TT := TT_i 833 (by decide +kernel) rfl
theorem mc_X11_wayAt : MC yX11_wayAt cX11_wayAt 5 (some .int) 3 := ⟨TT_i 836 (by decide +kernel) rfl, TT_i 1 (by decide +kernel) rfl, by decide +kernel⟩
theorem im_X11_wayAt : Cond.instanceMethod yX11_wayAt ∈ TT := TT_i 834 (by decide +kernel) rfl
theorem se_X11_wayAt : Cond.selects (cR 9) yX11_wayAt yX11_wayAt ∈ TT := TT_i 835 (by decide +kernel) rfl
theorem ml_L_88 : Cond.methodLink RL 88 yX13_wayAt ∈ TT := TT_i 1778 (by decide +kernel) rfl
theorem mc_X13_wayAt : MC yX13_wayAt cX13_wayAt 7 (some .int) 3 := ⟨TT_i 1781 (by decide +kernel) rfl, TT_i 15 (by decide +kernel) rfl, by decide +kernel⟩
theorem im_X13_wayAt : Cond.instanceMethod yX13_wayAt ∈ TT := TT_i 1779 (by decide +kernel) rfl
theorem se_X13_wayAt : Cond.selects (cR 11) yX13_wayAt yX13_wayAt ∈ TT := TT_i 1780 (by decide +kernel) rfl
theorem ml_L_89 : Cond.methodLink RL 89 yX11_reach ∈ TT := TT_i 846 (by decide +kernel) rfl
theorem mc_X11_reach : MC yX11_reach cX11_reach 2 (some .int) 1 := ⟨TT_i 849 (by decide +kernel) rfl, TT_i 1 (by decide +kernel) rfl, by decide +kernel⟩
theorem im_X11_reach : Cond.instanceMethod yX11_reach ∈ TT := TT_i 847 (by decide +kernel) rfl
theorem se_X11_reach : Cond.selects (cR 9) yX11_reach yX11_reach ∈ TT := TT_i 848 (by decide +kernel) rfl
theorem ml_L_92 : Cond.methodLink RL 92 yX13_reach ∈ TT := TT_i 1782 (by decide +kernel) rfl
theorem mc_X13_reach : MC yX13_reach cX13_reach 2 (some .int) 1 := ⟨TT_i 1785 (by decide +kernel) rfl, TT_i 15 (by decide +kernel) rfl, by decide +kernel⟩
theorem im_X13_reach : Cond.instanceMethod yX13_reach ∈ TT := TT_i 1783 (by decide +kernel) rfl
theorem se_X13_reach : Cond.selects (cR 11) yX13_reach yX13_reach ∈ TT := TT_i 1784 (by decide +kernel) rfl
theorem ml_L_93 : Cond.methodLink RL 93 yX11_reachIf ∈ TT := TT_i 857 (by decide +kernel) rfl
theorem mc_X11_reachIf : MC yX11_reachIf cX11_reachIf 3 (some .int) 2 := ⟨TT_i 860 (by decide +kernel) rfl, TT_i 1 (by decide +kernel) rfl, by decide +kernel⟩
theorem im_X11_reachIf : Cond.instanceMethod yX11_reachIf ∈ TT := TT_i 858 (by decide +kernel) rfl
theorem se_X11_reachIf : Cond.selects (cR 9) yX11_reachIf yX11_reachIf ∈ TT := TT_i 859 (by decide +kernel) rfl
theorem ml_L_97 : Cond.methodLink RL 97 yX13_reachIf ∈ TT := TT_i 1790 (by decide +kernel) rfl
theorem mc_X13_reachIf : MC yX13_reachIf cX13_reachIf 3 (some .int) 2 := ⟨TT_i 1793 (by decide +kernel) rfl, TT_i 15 (by decide +kernel) rfl, by decide +kernel⟩
theorem im_X13_reachIf : Cond.instanceMethod yX13_reachIf ∈ TT := TT_i 1791 (by decide +kernel) rfl
theorem se_X13_reachIf : Cond.selects (cR 11) yX13_reachIf yX13_reachIf ∈ TT := TT_i 1792 (by decide +kernel) rfl
theorem ml_L_98 : Cond.methodLink RL 98 yX11_bestTune ∈ TT := TT_i 861 (by decide +kernel) rfl
theorem mc_X11_bestTune : MC yX11_bestTune cX11_bestTune 6 (some .int) 1 := ⟨TT_i 864 (by decide +kernel) rfl, TT_i 1 (by decide +kernel) rfl, by decide +kernel⟩
theorem im_X11_bestTune : Cond.instanceMethod yX11_bestTune ∈ TT := TT_i 862 (by decide +kernel) rfl
theorem se_X11_bestTune : Cond.selects (cR 9) yX11_bestTune yX11_bestTune ∈ TT := TT_i 863 (by decide +kernel) rfl
theorem ml_L_101 : Cond.methodLink RL 101 yX13_bestTune ∈ TT := TT_i 1794 (by decide +kernel) rfl
theorem mc_X13_bestTune : MC yX13_bestTune cX13_bestTune 5 (some .int) 1 := ⟨TT_i 1797 (by decide +kernel) rfl, TT_i 15 (by decide +kernel) rfl, by decide +kernel⟩
theorem im_X13_bestTune : Cond.instanceMethod yX13_bestTune ∈ TT := TT_i 1795 (by decide +kernel) rfl
theorem se_X13_bestTune : Cond.selects (cR 11) yX13_bestTune yX13_bestTune ∈ TT := TT_i 1796 (by decide +kernel) rfl
theorem ml_L_102 : Cond.methodLink RL 102 yX11_trip ∈ TT := TT_i 871 (by decide +kernel) rfl
theorem mc_X11_trip : MC yX11_trip cX11_trip 4 (some .int) 2 := ⟨TT_i 874 (by decide +kernel) rfl, TT_i 1 (by decide +kernel) rfl, by decide +kernel⟩
theorem im_X11_trip : Cond.instanceMethod yX11_trip ∈ TT := TT_i 872 (by decide +kernel) rfl
theorem se_X11_trip : Cond.selects (cR 9) yX11_trip yX11_trip ∈ TT := TT_i 873 (by decide +kernel) rfl
theorem ml_L_105 : Cond.methodLink RL 105 yX13_trip ∈ TT := TT_i 1801 (by decide +kernel) rfl
theorem mc_X13_trip : MC yX13_trip cX13_trip 4 (some .int) 2 := ⟨TT_i 1804 (by decide +kernel) rfl, TT_i 15 (by decide +kernel) rfl, by decide +kernel⟩
theorem im_X13_trip : Cond.instanceMethod yX13_trip ∈ TT := TT_i 1802 (by decide +kernel) rfl
theorem se_X13_trip : Cond.selects (cR 11) yX13_trip yX13_trip ∈ TT := TT_i 1803 (by decide +kernel) rfl
theorem ml_L_106 : Cond.methodLink RL 106 yX11_tripInns ∈ TT := TT_i 903 (by decide +kernel) rfl
theorem mc_X11_tripInns : MC yX11_tripInns cX11_tripInns 3 (some .int) 2 := ⟨TT_i 906 (by decide +kernel) rfl, TT_i 1 (by decide +kernel) rfl, by decide +kernel⟩
theorem im_X11_tripInns : Cond.instanceMethod yX11_tripInns ∈ TT := TT_i 904 (by decide +kernel) rfl
theorem se_X11_tripInns : Cond.selects (cR 9) yX11_tripInns yX11_tripInns ∈ TT := TT_i 905 (by decide +kernel) rfl
theorem ml_L_109 : Cond.methodLink RL 109 yX13_tripInns ∈ TT := TT_i 1817 (by decide +kernel) rfl
theorem mc_X13_tripInns : MC yX13_tripInns cX13_tripInns 3 (some .int) 2 := ⟨TT_i 1820 (by decide +kernel) rfl, TT_i 15 (by decide +kernel) rfl, by decide +kernel⟩
theorem im_X13_tripInns : Cond.instanceMethod yX13_tripInns ∈ TT := TT_i 1818 (by decide +kernel) rfl
theorem se_X13_tripInns : Cond.selects (cR 11) yX13_tripInns yX13_tripInns ∈ TT := TT_i 1819 (by decide +kernel) rfl
theorem ml_L_110 : Cond.methodLink RL 110 yX11_farReach ∈ TT := TT_i 907 (by decide +kernel) rfl
theorem mc_X11_farReach : MC yX11_farReach cX11_farReach 2 (some .int) 1 := ⟨TT_i 910 (by decide +kernel) rfl, TT_i 1 (by decide +kernel) rfl, by decide +kernel⟩
theorem im_X11_farReach : Cond.instanceMethod yX11_farReach ∈ TT := TT_i 908 (by decide +kernel) rfl
theorem se_X11_farReach : Cond.selects (cR 9) yX11_farReach yX11_farReach ∈ TT := TT_i 909 (by decide +kernel) rfl
theorem ml_L_113 : Cond.methodLink RL 113 yX13_farReach ∈ TT := TT_i 1821 (by decide +kernel) rfl
theorem mc_X13_farReach : MC yX13_farReach cX13_farReach 4 (some .int) 1 := ⟨TT_i 1824 (by decide +kernel) rfl, TT_i 15 (by decide +kernel) rfl, by decide +kernel⟩
theorem im_X13_farReach : Cond.instanceMethod yX13_farReach ∈ TT := TT_i 1822 (by decide +kernel) rfl
theorem se_X13_farReach : Cond.selects (cR 11) yX13_farReach yX13_farReach ∈ TT := TT_i 1823 (by decide +kernel) rfl
theorem ml_L_114 : Cond.methodLink RL 114 yX11_soonest ∈ TT := TT_i 915 (by decide +kernel) rfl
theorem mc_X11_soonest : MC yX11_soonest cX11_soonest 6 (some .int) 1 := ⟨TT_i 918 (by decide +kernel) rfl, TT_i 1 (by decide +kernel) rfl, by decide +kernel⟩
theorem im_X11_soonest : Cond.instanceMethod yX11_soonest ∈ TT := TT_i 916 (by decide +kernel) rfl
theorem se_X11_soonest : Cond.selects (cR 9) yX11_soonest yX11_soonest ∈ TT := TT_i 917 (by decide +kernel) rfl
theorem ml_L_117 : Cond.methodLink RL 117 yX13_soonest ∈ TT := TT_i 1825 (by decide +kernel) rfl
theorem mc_X13_soonest : MC yX13_soonest cX13_soonest 5 (some .int) 1 := ⟨TT_i 1828 (by decide +kernel) rfl, TT_i 15 (by decide +kernel) rfl, by decide +kernel⟩
theorem im_X13_soonest : Cond.instanceMethod yX13_soonest ∈ TT := TT_i 1826 (by decide +kernel) rfl
theorem se_X13_soonest : Cond.selects (cR 11) yX13_soonest yX13_soonest ∈ TT := TT_i 1827 (by decide +kernel) rfl
theorem ml_L_118 : Cond.methodLink RL 118 yX11_song ∈ TT := TT_i 919 (by decide +kernel) rfl
theorem mc_X11_song : MC yX11_song cX11_song 2 (some .int) 1 := ⟨TT_i 922 (by decide +kernel) rfl, TT_i 1 (by decide +kernel) rfl, by decide +kernel⟩
theorem im_X11_song : Cond.instanceMethod yX11_song ∈ TT := TT_i 920 (by decide +kernel) rfl
theorem se_X11_song : Cond.selects (cR 9) yX11_song yX11_song ∈ TT := TT_i 921 (by decide +kernel) rfl
theorem ml_L_121 : Cond.methodLink RL 121 yX13_song ∈ TT := TT_i 1829 (by decide +kernel) rfl
theorem mc_X13_song : MC yX13_song cX13_song 2 (some .int) 1 := ⟨TT_i 1832 (by decide +kernel) rfl, TT_i 15 (by decide +kernel) rfl, by decide +kernel⟩
theorem im_X13_song : Cond.instanceMethod yX13_song ∈ TT := TT_i 1830 (by decide +kernel) rfl
theorem se_X13_song : Cond.selects (cR 11) yX13_song yX13_song ∈ TT := TT_i 1831 (by decide +kernel) rfl
theorem ml_L_122 : Cond.methodLink RL 122 yX11_songAt ∈ TT := TT_i 969 (by decide +kernel) rfl
theorem mc_X11_songAt : MC yX11_songAt cX11_songAt 3 (some .int) 2 := ⟨TT_i 972 (by decide +kernel) rfl, TT_i 1 (by decide +kernel) rfl, by decide +kernel⟩
theorem im_X11_songAt : Cond.instanceMethod yX11_songAt ∈ TT := TT_i 970 (by decide +kernel) rfl
theorem se_X11_songAt : Cond.selects (cR 9) yX11_songAt yX11_songAt ∈ TT := TT_i 971 (by decide +kernel) rfl
theorem ml_L_125 : Cond.methodLink RL 125 yX13_songAt ∈ TT := TT_i 1873 (by decide +kernel) rfl
theorem mc_X13_songAt : MC yX13_songAt cX13_songAt 3 (some .int) 2 := ⟨TT_i 1876 (by decide +kernel) rfl, TT_i 15 (by decide +kernel) rfl, by decide +kernel⟩
theorem im_X13_songAt : Cond.instanceMethod yX13_songAt ∈ TT := TT_i 1874 (by decide +kernel) rfl
theorem se_X13_songAt : Cond.selects (cR 11) yX13_songAt yX13_songAt ∈ TT := TT_i 1875 (by decide +kernel) rfl
theorem ml_L_126 : Cond.methodLink RL 126 yX11_overlap ∈ TT := TT_i 977 (by decide +kernel) rfl
theorem mc_X11_overlap : MC yX11_overlap cX11_overlap 3 (some .int) 2 := ⟨TT_i 980 (by decide +kernel) rfl, TT_i 1 (by decide +kernel) rfl, by decide +kernel⟩
theorem im_X11_overlap : Cond.instanceMethod yX11_overlap ∈ TT := TT_i 978 (by decide +kernel) rfl
theorem se_X11_overlap : Cond.selects (cR 9) yX11_overlap yX11_overlap ∈ TT := TT_i 979 (by decide +kernel) rfl
theorem ml_L_129 : Cond.methodLink RL 129 yX13_overlap ∈ TT := TT_i 1877 (by decide +kernel) rfl
theorem mc_X13_overlap : MC yX13_overlap cX13_overlap 3 (some .int) 2 := ⟨TT_i 1880 (by decide +kernel) rfl, TT_i 15 (by decide +kernel) rfl, by decide +kernel⟩
theorem im_X13_overlap : Cond.instanceMethod yX13_overlap ∈ TT := TT_i 1878 (by decide +kernel) rfl
theorem se_X13_overlap : Cond.selects (cR 11) yX13_overlap yX13_overlap ∈ TT := TT_i 1879 (by decide +kernel) rfl
theorem ml_L_130 : Cond.methodLink RL 130 yX11_together ∈ TT := TT_i 986 (by decide +kernel) rfl
theorem mc_X11_together : MC yX11_together cX11_together 3 (some .int) 2 := ⟨TT_i 989 (by decide +kernel) rfl, TT_i 1 (by decide +kernel) rfl, by decide +kernel⟩
theorem im_X11_together : Cond.instanceMethod yX11_together ∈ TT := TT_i 987 (by decide +kernel) rfl
theorem se_X11_together : Cond.selects (cR 9) yX11_together yX11_together ∈ TT := TT_i 988 (by decide +kernel) rfl
theorem ml_L_133 : Cond.methodLink RL 133 yX13_together ∈ TT := TT_i 1885 (by decide +kernel) rfl
theorem mc_X13_together : MC yX13_together cX13_together 3 (some .int) 2 := ⟨TT_i 1888 (by decide +kernel) rfl, TT_i 15 (by decide +kernel) rfl, by decide +kernel⟩
theorem im_X13_together : Cond.instanceMethod yX13_together ∈ TT := TT_i 1886 (by decide +kernel) rfl
theorem se_X13_together : Cond.selects (cR 11) yX13_together yX13_together ∈ TT := TT_i 1887 (by decide +kernel) rfl
theorem ml_L_134 : Cond.methodLink RL 134 yX11_pairs ∈ TT := TT_i 991 (by decide +kernel) rfl
theorem mc_X11_pairs : MC yX11_pairs cX11_pairs 1 (some .int) 0 := ⟨TT_i 994 (by decide +kernel) rfl, TT_i 1 (by decide +kernel) rfl, by decide +kernel⟩
theorem im_X11_pairs : Cond.instanceMethod yX11_pairs ∈ TT := TT_i 992 (by decide +kernel) rfl
theorem se_X11_pairs : Cond.selects (cR 9) yX11_pairs yX11_pairs ∈ TT := TT_i 993 (by decide +kernel) rfl
theorem ml_L_137 : Cond.methodLink RL 137 yX13_pairs ∈ TT := TT_i 1893 (by decide +kernel) rfl
theorem mc_X13_pairs : MC yX13_pairs cX13_pairs 1 (some .int) 0 := ⟨TT_i 1896 (by decide +kernel) rfl, TT_i 15 (by decide +kernel) rfl, by decide +kernel⟩
theorem im_X13_pairs : Cond.instanceMethod yX13_pairs ∈ TT := TT_i 1894 (by decide +kernel) rfl
theorem se_X13_pairs : Cond.selects (cR 11) yX13_pairs yX13_pairs ∈ TT := TT_i 1895 (by decide +kernel) rfl
theorem ml_L_138 : Cond.methodLink RL 138 yX11_partner ∈ TT := TT_i 999 (by decide +kernel) rfl
theorem mc_X11_partner : MC yX11_partner cX11_partner 2 (some .int) 1 := ⟨TT_i 1002 (by decide +kernel) rfl, TT_i 1 (by decide +kernel) rfl, by decide +kernel⟩
theorem im_X11_partner : Cond.instanceMethod yX11_partner ∈ TT := TT_i 1000 (by decide +kernel) rfl
theorem se_X11_partner : Cond.selects (cR 9) yX11_partner yX11_partner ∈ TT := TT_i 1001 (by decide +kernel) rfl
theorem ml_L_141 : Cond.methodLink RL 141 yX13_partner ∈ TT := TT_i 1904 (by decide +kernel) rfl
theorem mc_X13_partner : MC yX13_partner cX13_partner 7 (some .int) 1 := ⟨TT_i 1907 (by decide +kernel) rfl, TT_i 15 (by decide +kernel) rfl, by decide +kernel⟩
theorem im_X13_partner : Cond.instanceMethod yX13_partner ∈ TT := TT_i 1905 (by decide +kernel) rfl
theorem se_X13_partner : Cond.selects (cR 11) yX13_partner yX13_partner ∈ TT := TT_i 1906 (by decide +kernel) rfl
theorem ml_L_142 : Cond.methodLink RL 142 yX11_rows ∈ TT := TT_i 1003 (by decide +kernel) rfl
theorem mc_X11_rows : MC yX11_rows cX11_rows 1 (some .int) 0 := ⟨TT_i 1006 (by decide +kernel) rfl, TT_i 1 (by decide +kernel) rfl, by decide +kernel⟩
theorem im_X11_rows : Cond.instanceMethod yX11_rows ∈ TT := TT_i 1004 (by decide +kernel) rfl
theorem se_X11_rows : Cond.selects (cR 9) yX11_rows yX11_rows ∈ TT := TT_i 1005 (by decide +kernel) rfl
theorem ml_L_145 : Cond.methodLink RL 145 yX13_rows ∈ TT := TT_i 1908 (by decide +kernel) rfl
theorem mc_X13_rows : MC yX13_rows cX13_rows 1 (some .int) 0 := ⟨TT_i 1911 (by decide +kernel) rfl, TT_i 15 (by decide +kernel) rfl, by decide +kernel⟩
theorem im_X13_rows : Cond.instanceMethod yX13_rows ∈ TT := TT_i 1909 (by decide +kernel) rfl
theorem se_X13_rows : Cond.selects (cR 11) yX13_rows yX13_rows ∈ TT := TT_i 1910 (by decide +kernel) rfl
theorem ml_L_146 : Cond.methodLink RL 146 yX11_could ∈ TT := TT_i 1015 (by decide +kernel) rfl
theorem mc_X11_could : MC yX11_could cX11_could 2 (some .int) 1 := ⟨TT_i 1018 (by decide +kernel) rfl, TT_i 1 (by decide +kernel) rfl, by decide +kernel⟩
theorem im_X11_could : Cond.instanceMethod yX11_could ∈ TT := TT_i 1016 (by decide +kernel) rfl
theorem se_X11_could : Cond.selects (cR 9) yX11_could yX11_could ∈ TT := TT_i 1017 (by decide +kernel) rfl
theorem ml_L_149 : Cond.methodLink RL 149 yX13_could ∈ TT := TT_i 1920 (by decide +kernel) rfl
theorem mc_X13_could : MC yX13_could cX13_could 2 (some .int) 1 := ⟨TT_i 1923 (by decide +kernel) rfl, TT_i 15 (by decide +kernel) rfl, by decide +kernel⟩
theorem im_X13_could : Cond.instanceMethod yX13_could ∈ TT := TT_i 1921 (by decide +kernel) rfl
theorem se_X13_could : Cond.selects (cR 11) yX13_could yX13_could ∈ TT := TT_i 1922 (by decide +kernel) rfl
theorem ml_L_150 : Cond.methodLink RL 150 yX11_surely ∈ TT := TT_i 1027 (by decide +kernel) rfl
theorem mc_X11_surely : MC yX11_surely cX11_surely 3 (some .int) 1 := ⟨TT_i 1030 (by decide +kernel) rfl, TT_i 1 (by decide +kernel) rfl, by decide +kernel⟩
theorem im_X11_surely : Cond.instanceMethod yX11_surely ∈ TT := TT_i 1028 (by decide +kernel) rfl
theorem se_X11_surely : Cond.selects (cR 9) yX11_surely yX11_surely ∈ TT := TT_i 1029 (by decide +kernel) rfl
theorem ml_L_153 : Cond.methodLink RL 153 yX13_surely ∈ TT := TT_i 1936 (by decide +kernel) rfl
theorem mc_X13_surely : MC yX13_surely cX13_surely 3 (some .int) 1 := ⟨TT_i 1939 (by decide +kernel) rfl, TT_i 15 (by decide +kernel) rfl, by decide +kernel⟩
theorem im_X13_surely : Cond.instanceMethod yX13_surely ∈ TT := TT_i 1937 (by decide +kernel) rfl
theorem se_X13_surely : Cond.selects (cR 11) yX13_surely yX13_surely ∈ TT := TT_i 1938 (by decide +kernel) rfl
theorem ml_L_154 : Cond.methodLink RL 154 yX11_ask ∈ TT := TT_i 1032 (by decide +kernel) rfl
theorem mc_X11_ask : MC yX11_ask cX11_ask 1 (some .int) 0 := ⟨TT_i 1035 (by decide +kernel) rfl, TT_i 1 (by decide +kernel) rfl, by decide +kernel⟩
theorem im_X11_ask : Cond.instanceMethod yX11_ask ∈ TT := TT_i 1033 (by decide +kernel) rfl
theorem se_X11_ask : Cond.selects (cR 9) yX11_ask yX11_ask ∈ TT := TT_i 1034 (by decide +kernel) rfl
theorem ml_L_157 : Cond.methodLink RL 157 yX13_ask ∈ TT := TT_i 1940 (by decide +kernel) rfl
theorem mc_X13_ask : MC yX13_ask cX13_ask 1 (some .int) 0 := ⟨TT_i 1943 (by decide +kernel) rfl, TT_i 15 (by decide +kernel) rfl, by decide +kernel⟩
theorem im_X13_ask : Cond.instanceMethod yX13_ask ∈ TT := TT_i 1941 (by decide +kernel) rfl
theorem se_X13_ask : Cond.selects (cR 11) yX13_ask yX13_ask ∈ TT := TT_i 1942 (by decide +kernel) rfl
theorem ml_L_158 : Cond.methodLink RL 158 yX11_askLeaves ∈ TT := TT_i 1046 (by decide +kernel) rfl
theorem mc_X11_askLeaves : MC yX11_askLeaves cX11_askLeaves 2 (some .int) 0 := ⟨TT_i 1049 (by decide +kernel) rfl, TT_i 1 (by decide +kernel) rfl, by decide +kernel⟩
theorem im_X11_askLeaves : Cond.instanceMethod yX11_askLeaves ∈ TT := TT_i 1047 (by decide +kernel) rfl
theorem se_X11_askLeaves : Cond.selects (cR 9) yX11_askLeaves yX11_askLeaves ∈ TT := TT_i 1048 (by decide +kernel) rfl
theorem ml_L_161 : Cond.methodLink RL 161 yX13_askLeaves ∈ TT := TT_i 1948 (by decide +kernel) rfl
theorem mc_X13_askLeaves : MC yX13_askLeaves cX13_askLeaves 1 (some .int) 0 := ⟨TT_i 1951 (by decide +kernel) rfl, TT_i 15 (by decide +kernel) rfl, by decide +kernel⟩
theorem im_X13_askLeaves : Cond.instanceMethod yX13_askLeaves ∈ TT := TT_i 1949 (by decide +kernel) rfl
theorem se_X13_askLeaves : Cond.selects (cR 11) yX13_askLeaves yX13_askLeaves ∈ TT := TT_i 1950 (by decide +kernel) rfl
theorem ml_L_162 : Cond.methodLink RL 162 yX11_suspect ∈ TT := TT_i 1051 (by decide +kernel) rfl
theorem mc_X11_suspect : MC yX11_suspect cX11_suspect 3 (some .int) 0 := ⟨TT_i 1054 (by decide +kernel) rfl, TT_i 1 (by decide +kernel) rfl, by decide +kernel⟩
theorem im_X11_suspect : Cond.instanceMethod yX11_suspect ∈ TT := TT_i 1052 (by decide +kernel) rfl
theorem se_X11_suspect : Cond.selects (cR 9) yX11_suspect yX11_suspect ∈ TT := TT_i 1053 (by decide +kernel) rfl
theorem ml_L_165 : Cond.methodLink RL 165 yX13_suspect ∈ TT := TT_i 1952 (by decide +kernel) rfl
theorem mc_X13_suspect : MC yX13_suspect cX13_suspect 3 (some .int) 0 := ⟨TT_i 1955 (by decide +kernel) rfl, TT_i 15 (by decide +kernel) rfl, by decide +kernel⟩
theorem im_X13_suspect : Cond.instanceMethod yX13_suspect ∈ TT := TT_i 1953 (by decide +kernel) rfl
theorem se_X13_suspect : Cond.selects (cR 11) yX13_suspect yX13_suspect ∈ TT := TT_i 1954 (by decide +kernel) rfl
theorem ml_L_166 : Cond.methodLink RL 166 yX11_sells ∈ TT := TT_i 1059 (by decide +kernel) rfl
theorem mc_X11_sells : MC yX11_sells cX11_sells 5 (some .int) 4 := ⟨TT_i 1062 (by decide +kernel) rfl, TT_i 1 (by decide +kernel) rfl, by decide +kernel⟩
theorem im_X11_sells : Cond.instanceMethod yX11_sells ∈ TT := TT_i 1060 (by decide +kernel) rfl
theorem se_X11_sells : Cond.selects (cR 9) yX11_sells yX11_sells ∈ TT := TT_i 1061 (by decide +kernel) rfl
theorem ml_L_169 : Cond.methodLink RL 169 yX13_sells ∈ TT := TT_i 1956 (by decide +kernel) rfl
theorem mc_X13_sells : MC yX13_sells cX13_sells 6 (some .int) 4 := ⟨TT_i 1959 (by decide +kernel) rfl, TT_i 15 (by decide +kernel) rfl, by decide +kernel⟩
theorem im_X13_sells : Cond.instanceMethod yX13_sells ∈ TT := TT_i 1957 (by decide +kernel) rfl
theorem se_X13_sells : Cond.selects (cR 11) yX13_sells yX13_sells ∈ TT := TT_i 1958 (by decide +kernel) rfl
theorem ml_L_170 : Cond.methodLink RL 170 yX11_rests ∈ TT := TT_i 1072 (by decide +kernel) rfl
theorem mc_X11_rests : MC yX11_rests cX11_rests 2 (some .int) 1 := ⟨TT_i 1075 (by decide +kernel) rfl, TT_i 1 (by decide +kernel) rfl, by decide +kernel⟩
theorem im_X11_rests : Cond.instanceMethod yX11_rests ∈ TT := TT_i 1073 (by decide +kernel) rfl
theorem se_X11_rests : Cond.selects (cR 9) yX11_rests yX11_rests ∈ TT := TT_i 1074 (by decide +kernel) rfl
theorem ml_L_173 : Cond.methodLink RL 173 yX13_rests ∈ TT := TT_i 1971 (by decide +kernel) rfl
theorem mc_X13_rests : MC yX13_rests cX13_rests 5 (some .int) 1 := ⟨TT_i 1974 (by decide +kernel) rfl, TT_i 15 (by decide +kernel) rfl, by decide +kernel⟩
theorem im_X13_rests : Cond.instanceMethod yX13_rests ∈ TT := TT_i 1972 (by decide +kernel) rfl
theorem se_X13_rests : Cond.selects (cR 11) yX13_rests yX13_rests ∈ TT := TT_i 1973 (by decide +kernel) rfl
theorem ml_L_174 : Cond.methodLink RL 174 yX11_rest ∈ TT := TT_i 1083 (by decide +kernel) rfl
theorem mc_X11_rest : MC yX11_rest cX11_rest 2 (some .int) 1 := ⟨TT_i 1086 (by decide +kernel) rfl, TT_i 1 (by decide +kernel) rfl, by decide +kernel⟩
theorem im_X11_rest : Cond.instanceMethod yX11_rest ∈ TT := TT_i 1084 (by decide +kernel) rfl
theorem se_X11_rest : Cond.selects (cR 9) yX11_rest yX11_rest ∈ TT := TT_i 1085 (by decide +kernel) rfl
theorem ml_L_177 : Cond.methodLink RL 177 yX13_rest ∈ TT := TT_i 1978 (by decide +kernel) rfl
theorem mc_X13_rest : MC yX13_rest cX13_rest 4 (some .int) 1 := ⟨TT_i 1981 (by decide +kernel) rfl, TT_i 15 (by decide +kernel) rfl, by decide +kernel⟩
theorem im_X13_rest : Cond.instanceMethod yX13_rest ∈ TT := TT_i 1979 (by decide +kernel) rfl
theorem se_X13_rest : Cond.selects (cR 11) yX13_rest yX13_rest ∈ TT := TT_i 1980 (by decide +kernel) rfl
theorem ml_L_178 : Cond.methodLink RL 178 yX11_roams ∈ TT := TT_i 1090 (by decide +kernel) rfl
theorem mc_X11_roams : MC yX11_roams cX11_roams 4 (some .int) 3 := ⟨TT_i 1093 (by decide +kernel) rfl, TT_i 1 (by decide +kernel) rfl, by decide +kernel⟩
theorem im_X11_roams : Cond.instanceMethod yX11_roams ∈ TT := TT_i 1091 (by decide +kernel) rfl
theorem se_X11_roams : Cond.selects (cR 9) yX11_roams yX11_roams ∈ TT := TT_i 1092 (by decide +kernel) rfl
theorem ml_L_181 : Cond.methodLink RL 181 yX13_roams ∈ TT := TT_i 1982 (by decide +kernel) rfl
theorem mc_X13_roams : MC yX13_roams cX13_roams 5 (some .int) 3 := ⟨TT_i 1985 (by decide +kernel) rfl, TT_i 15 (by decide +kernel) rfl, by decide +kernel⟩
theorem im_X13_roams : Cond.instanceMethod yX13_roams ∈ TT := TT_i 1983 (by decide +kernel) rfl
theorem se_X13_roams : Cond.selects (cR 11) yX13_roams yX13_roams ∈ TT := TT_i 1984 (by decide +kernel) rfl
theorem ml_L_182 : Cond.methodLink RL 182 yX11_roamed ∈ TT := TT_i 1123 (by decide +kernel) rfl
theorem mc_X11_roamed : MC yX11_roamed cX11_roamed 4 (some .int) 3 := ⟨TT_i 1126 (by decide +kernel) rfl, TT_i 1 (by decide +kernel) rfl, by decide +kernel⟩
theorem im_X11_roamed : Cond.instanceMethod yX11_roamed ∈ TT := TT_i 1124 (by decide +kernel) rfl
theorem se_X11_roamed : Cond.selects (cR 9) yX11_roamed yX11_roamed ∈ TT := TT_i 1125 (by decide +kernel) rfl
theorem ml_L_185 : Cond.methodLink RL 185 yX13_roamed ∈ TT := TT_i 2001 (by decide +kernel) rfl
theorem mc_X13_roamed : MC yX13_roamed cX13_roamed 5 (some .int) 3 := ⟨TT_i 2004 (by decide +kernel) rfl, TT_i 15 (by decide +kernel) rfl, by decide +kernel⟩
theorem im_X13_roamed : Cond.instanceMethod yX13_roamed ∈ TT := TT_i 2002 (by decide +kernel) rfl
theorem se_X13_roamed : Cond.selects (cR 11) yX13_roamed yX13_roamed ∈ TT := TT_i 2003 (by decide +kernel) rfl
theorem ml_L_186 : Cond.methodLink RL 186 yX11_roamsTo ∈ TT := TT_i 1127 (by decide +kernel) rfl
theorem mc_X11_roamsTo : MC yX11_roamsTo cX11_roamsTo 5 (some .int) 4 := ⟨TT_i 1130 (by decide +kernel) rfl, TT_i 1 (by decide +kernel) rfl, by decide +kernel⟩
theorem im_X11_roamsTo : Cond.instanceMethod yX11_roamsTo ∈ TT := TT_i 1128 (by decide +kernel) rfl
theorem se_X11_roamsTo : Cond.selects (cR 9) yX11_roamsTo yX11_roamsTo ∈ TT := TT_i 1129 (by decide +kernel) rfl
theorem ml_L_190 : Cond.methodLink RL 190 yX13_roamsTo ∈ TT := TT_i 2005 (by decide +kernel) rfl
theorem mc_X13_roamsTo : MC yX13_roamsTo cX13_roamsTo 6 (some .int) 4 := ⟨TT_i 2008 (by decide +kernel) rfl, TT_i 15 (by decide +kernel) rfl, by decide +kernel⟩
theorem im_X13_roamsTo : Cond.instanceMethod yX13_roamsTo ∈ TT := TT_i 2006 (by decide +kernel) rfl
theorem se_X13_roamsTo : Cond.selects (cR 11) yX13_roamsTo yX13_roamsTo ∈ TT := TT_i 2007 (by decide +kernel) rfl
theorem ml_L_191 : Cond.methodLink RL 191 yX11_go ∈ TT := TT_i 1131 (by decide +kernel) rfl
theorem mc_X11_go : MC yX11_go cX11_go 4 (some .int) 2 := ⟨TT_i 1134 (by decide +kernel) rfl, TT_i 1 (by decide +kernel) rfl, by decide +kernel⟩
theorem im_X11_go : Cond.instanceMethod yX11_go ∈ TT := TT_i 1132 (by decide +kernel) rfl
theorem se_X11_go : Cond.selects (cR 9) yX11_go yX11_go ∈ TT := TT_i 1133 (by decide +kernel) rfl
theorem ml_L_194 : Cond.methodLink RL 194 yX13_go ∈ TT := TT_i 2009 (by decide +kernel) rfl
theorem mc_X13_go : MC yX13_go cX13_go 4 (some .int) 2 := ⟨TT_i 2012 (by decide +kernel) rfl, TT_i 15 (by decide +kernel) rfl, by decide +kernel⟩
theorem im_X13_go : Cond.instanceMethod yX13_go ∈ TT := TT_i 2010 (by decide +kernel) rfl
theorem se_X13_go : Cond.selects (cR 11) yX13_go yX13_go ∈ TT := TT_i 2011 (by decide +kernel) rfl
theorem ml_L_195 : Cond.methodLink RL 195 yX11_buy ∈ TT := TT_i 1144 (by decide +kernel) rfl
theorem mc_X11_buy : MC yX11_buy cX11_buy 6 (some .int) 2 := ⟨TT_i 1147 (by decide +kernel) rfl, TT_i 1 (by decide +kernel) rfl, by decide +kernel⟩
theorem im_X11_buy : Cond.instanceMethod yX11_buy ∈ TT := TT_i 1145 (by decide +kernel) rfl
theorem se_X11_buy : Cond.selects (cR 9) yX11_buy yX11_buy ∈ TT := TT_i 1146 (by decide +kernel) rfl
theorem ml_L_198 : Cond.methodLink RL 198 yX13_buy ∈ TT := TT_i 2017 (by decide +kernel) rfl
theorem mc_X13_buy : MC yX13_buy cX13_buy 4 (some .int) 2 := ⟨TT_i 2020 (by decide +kernel) rfl, TT_i 15 (by decide +kernel) rfl, by decide +kernel⟩
theorem im_X13_buy : Cond.instanceMethod yX13_buy ∈ TT := TT_i 2018 (by decide +kernel) rfl
theorem se_X13_buy : Cond.selects (cR 11) yX13_buy yX13_buy ∈ TT := TT_i 2019 (by decide +kernel) rfl
theorem ml_L_199 : Cond.methodLink RL 199 yX11_teach ∈ TT := TT_i 1148 (by decide +kernel) rfl
theorem mc_X11_teach : MC yX11_teach cX11_teach 6 (some .boolean) 3 := ⟨TT_i 1151 (by decide +kernel) rfl, TT_i 1 (by decide +kernel) rfl, by decide +kernel⟩
theorem im_X11_teach : Cond.instanceMethod yX11_teach ∈ TT := TT_i 1149 (by decide +kernel) rfl
theorem se_X11_teach : Cond.selects (cR 9) yX11_teach yX11_teach ∈ TT := TT_i 1150 (by decide +kernel) rfl
theorem ml_L_203 : Cond.methodLink RL 203 yX13_teach ∈ TT := TT_i 2021 (by decide +kernel) rfl
theorem mc_X13_teach : MC yX13_teach cX13_teach 4 (some .boolean) 3 := ⟨TT_i 2024 (by decide +kernel) rfl, TT_i 15 (by decide +kernel) rfl, by decide +kernel⟩
theorem im_X13_teach : Cond.instanceMethod yX13_teach ∈ TT := TT_i 2022 (by decide +kernel) rfl
theorem se_X13_teach : Cond.selects (cR 11) yX13_teach yX13_teach ∈ TT := TT_i 2023 (by decide +kernel) rfl
theorem ml_L_204 : Cond.methodLink RL 204 yX11_rain ∈ TT := TT_i 1152 (by decide +kernel) rfl
theorem mc_X11_rain : MC yX11_rain cX11_rain 2 (some .boolean) 1 := ⟨TT_i 1155 (by decide +kernel) rfl, TT_i 1 (by decide +kernel) rfl, by decide +kernel⟩
theorem im_X11_rain : Cond.instanceMethod yX11_rain ∈ TT := TT_i 1153 (by decide +kernel) rfl
theorem se_X11_rain : Cond.selects (cR 9) yX11_rain yX11_rain ∈ TT := TT_i 1154 (by decide +kernel) rfl
theorem ml_L_208 : Cond.methodLink RL 208 yX13_rain ∈ TT := TT_i 2033 (by decide +kernel) rfl
theorem mc_X13_rain : MC yX13_rain cX13_rain 2 (some .boolean) 1 := ⟨TT_i 2036 (by decide +kernel) rfl, TT_i 15 (by decide +kernel) rfl, by decide +kernel⟩
theorem im_X13_rain : Cond.instanceMethod yX13_rain ∈ TT := TT_i 2034 (by decide +kernel) rfl
theorem se_X13_rain : Cond.selects (cR 11) yX13_rain yX13_rain ∈ TT := TT_i 2035 (by decide +kernel) rfl
theorem ml_L_209 : Cond.methodLink RL 209 yX11_undo ∈ TT := TT_i 1160 (by decide +kernel) rfl
theorem mc_X11_undo : MC yX11_undo cX11_undo 1 (some .boolean) 0 := ⟨TT_i 1163 (by decide +kernel) rfl, TT_i 1 (by decide +kernel) rfl, by decide +kernel⟩
theorem im_X11_undo : Cond.instanceMethod yX11_undo ∈ TT := TT_i 1161 (by decide +kernel) rfl
theorem se_X11_undo : Cond.selects (cR 9) yX11_undo yX11_undo ∈ TT := TT_i 1162 (by decide +kernel) rfl
theorem ml_L_213 : Cond.methodLink RL 213 yX13_undo ∈ TT := TT_i 2037 (by decide +kernel) rfl
theorem mc_X13_undo : MC yX13_undo cX13_undo 2 (some .boolean) 0 := ⟨TT_i 2040 (by decide +kernel) rfl, TT_i 15 (by decide +kernel) rfl, by decide +kernel⟩
theorem im_X13_undo : Cond.instanceMethod yX13_undo ∈ TT := TT_i 2038 (by decide +kernel) rfl
theorem se_X13_undo : Cond.selects (cR 11) yX13_undo yX13_undo ∈ TT := TT_i 2039 (by decide +kernel) rfl
theorem ml_L_214 : Cond.methodLink RL 214 yX11_mark ∈ TT := TT_i 1168 (by decide +kernel) rfl
theorem mc_X11_mark : MC yX11_mark cX11_mark 2 (some .int) 0 := ⟨TT_i 1171 (by decide +kernel) rfl, TT_i 1 (by decide +kernel) rfl, by decide +kernel⟩
theorem im_X11_mark : Cond.instanceMethod yX11_mark ∈ TT := TT_i 1169 (by decide +kernel) rfl
theorem se_X11_mark : Cond.selects (cR 9) yX11_mark yX11_mark ∈ TT := TT_i 1170 (by decide +kernel) rfl
theorem ml_L_217 : Cond.methodLink RL 217 yX13_mark ∈ TT := TT_i 2041 (by decide +kernel) rfl
theorem mc_X13_mark : MC yX13_mark cX13_mark 2 (some .int) 0 := ⟨TT_i 2044 (by decide +kernel) rfl, TT_i 15 (by decide +kernel) rfl, by decide +kernel⟩
theorem im_X13_mark : Cond.instanceMethod yX13_mark ∈ TT := TT_i 2042 (by decide +kernel) rfl
theorem se_X13_mark : Cond.selects (cR 11) yX13_mark yX13_mark ∈ TT := TT_i 2043 (by decide +kernel) rfl
theorem ml_L_218 : Cond.methodLink RL 218 yX11_back ∈ TT := TT_i 1176 (by decide +kernel) rfl
theorem mc_X11_back : MC yX11_back cX11_back 2 (some .boolean) 1 := ⟨TT_i 1179 (by decide +kernel) rfl, TT_i 1 (by decide +kernel) rfl, by decide +kernel⟩
theorem im_X11_back : Cond.instanceMethod yX11_back ∈ TT := TT_i 1177 (by decide +kernel) rfl
theorem se_X11_back : Cond.selects (cR 9) yX11_back yX11_back ∈ TT := TT_i 1178 (by decide +kernel) rfl
theorem ml_L_222 : Cond.methodLink RL 222 yX13_back ∈ TT := TT_i 2045 (by decide +kernel) rfl
theorem mc_X13_back : MC yX13_back cX13_back 3 (some .boolean) 1 := ⟨TT_i 2048 (by decide +kernel) rfl, TT_i 15 (by decide +kernel) rfl, by decide +kernel⟩
theorem im_X13_back : Cond.instanceMethod yX13_back ∈ TT := TT_i 2046 (by decide +kernel) rfl
theorem se_X13_back : Cond.selects (cR 11) yX13_back yX13_back ∈ TT := TT_i 2047 (by decide +kernel) rfl
theorem ml_L_232 : Cond.methodLink RL 232 yX11_size ∈ TT := TT_i 1184 (by decide +kernel) rfl
theorem mc_X11_size : MC yX11_size cX11_size 2 (some .int) 1 := ⟨TT_i 1187 (by decide +kernel) rfl, TT_i 1 (by decide +kernel) rfl, by decide +kernel⟩
theorem im_X11_size : Cond.instanceMethod yX11_size ∈ TT := TT_i 1185 (by decide +kernel) rfl
theorem se_X11_size : Cond.selects (cR 9) yX11_size yX11_size ∈ TT := TT_i 1186 (by decide +kernel) rfl
theorem ml_L_235 : Cond.methodLink RL 235 yX13_size ∈ TT := TT_i 2053 (by decide +kernel) rfl
theorem mc_X13_size : MC yX13_size cX13_size 2 (some .int) 1 := ⟨TT_i 2056 (by decide +kernel) rfl, TT_i 15 (by decide +kernel) rfl, by decide +kernel⟩
theorem im_X13_size : Cond.instanceMethod yX13_size ∈ TT := TT_i 2054 (by decide +kernel) rfl
theorem se_X13_size : Cond.selects (cR 11) yX13_size yX13_size ∈ TT := TT_i 2055 (by decide +kernel) rfl
theorem ml_L_236 : Cond.methodLink RL 236 yX11_trouble ∈ TT := TT_i 1188 (by decide +kernel) rfl
theorem mc_X11_trouble : MC yX11_trouble cX11_trouble 1 (some .int) 0 := ⟨TT_i 1191 (by decide +kernel) rfl, TT_i 1 (by decide +kernel) rfl, by decide +kernel⟩
theorem im_X11_trouble : Cond.instanceMethod yX11_trouble ∈ TT := TT_i 1189 (by decide +kernel) rfl
theorem se_X11_trouble : Cond.selects (cR 9) yX11_trouble yX11_trouble ∈ TT := TT_i 1190 (by decide +kernel) rfl
theorem ml_L_239 : Cond.methodLink RL 239 yX13_trouble ∈ TT := TT_i 2057 (by decide +kernel) rfl
theorem mc_X13_trouble : MC yX13_trouble cX13_trouble 1 (some .int) 0 := ⟨TT_i 2060 (by decide +kernel) rfl, TT_i 15 (by decide +kernel) rfl, by decide +kernel⟩
theorem im_X13_trouble : Cond.instanceMethod yX13_trouble ∈ TT := TT_i 2058 (by decide +kernel) rfl
theorem se_X13_trouble : Cond.selects (cR 11) yX13_trouble yX13_trouble ∈ TT := TT_i 2059 (by decide +kernel) rfl
theorem ml_L_228 : Cond.methodLink RL 228 yX13_led ∈ TT := TT_i 2049 (by decide +kernel) rfl
theorem mc_X13_led : MC yX13_led cX13_led 4 (some .int) 1 := ⟨TT_i 2052 (by decide +kernel) rfl, TT_i 15 (by decide +kernel) rfl, by decide +kernel⟩
theorem im_X13_led : Cond.instanceMethod yX13_led ∈ TT := TT_i 2050 (by decide +kernel) rfl
theorem se_X13_led : Cond.selects (cR 11) yX13_led yX13_led ∈ TT := TT_i 2051 (by decide +kernel) rfl
theorem ml_L_229 : Cond.methodLink RL 229 yX13_thrown ∈ TT := TT_i 1388 (by decide +kernel) rfl
theorem mc_X13_thrown : MC yX13_thrown cX13_thrown 1 (some .int) 0 := ⟨TT_i 1391 (by decide +kernel) rfl, TT_i 15 (by decide +kernel) rfl, by decide +kernel⟩
theorem im_X13_thrown : Cond.instanceMethod yX13_thrown ∈ TT := TT_i 1389 (by decide +kernel) rfl
theorem se_X13_thrown : Cond.selects (cR 11) yX13_thrown yX13_thrown ∈ TT := TT_i 1390 (by decide +kernel) rfl
theorem dL_law_0 : decode cL_law 0 = .ok (.new 8, 3) := by decide +kernel
theorem dL_law_3 : decode cL_law 3 = .ok (.dup, 1) := by decide +kernel
theorem dL_law_4 : decode cL_law 4 = .ok (.invokespecial 15, 3) := by decide +kernel
theorem dL_law_7 : decode cL_law 7 = .ok (.astore_n 1, 1) := by decide +kernel
theorem dL_law_8 : decode cL_law 8 = .ok (.new 16, 3) := by decide +kernel
theorem dL_law_11 : decode cL_law 11 = .ok (.dup, 1) := by decide +kernel
theorem dL_law_12 : decode cL_law 12 = .ok (.invokespecial 18, 3) := by decide +kernel
theorem dL_law_15 : decode cL_law 15 = .ok (.astore_n 2, 1) := by decide +kernel
theorem dL_law_16 : decode cL_law 16 = .ok (.iconst 1, 1) := by decide +kernel
theorem dL_law_17 : decode cL_law 17 = .ok (.newarray .long, 2) := by decide +kernel
theorem dL_law_19 : decode cL_law 19 = .ok (.astore_n 3, 1) := by decide +kernel
theorem dL_law_20 : decode cL_law 20 = .ok (.iconst 0, 1) := by decide +kernel
theorem dL_law_21 : decode cL_law 21 = .ok (.istore 4, 2) := by decide +kernel
theorem dL_law_23 : decode cL_law 23 = .ok (.iload 4, 2) := by decide +kernel
theorem dL_law_25 : decode cL_law 25 = .ok (.aload_n 0, 1) := by decide +kernel
theorem dL_law_26 : decode cL_law 26 = .ok (.arraylength, 1) := by decide +kernel
theorem dL_law_27 : decode cL_law 27 = .ok (.bipush 6, 2) := by decide +kernel
theorem dL_law_29 : decode cL_law 29 = .ok (.isub, 1) := by decide +kernel
theorem dL_law_30 : decode cL_law 30 = .ok (.if_icmp .gt 1958, 3) := by decide +kernel
theorem dL_law_33 : decode cL_law 33 = .ok (.aload_n 0, 1) := by decide +kernel
theorem dL_law_34 : decode cL_law 34 = .ok (.iload 4, 2) := by decide +kernel
theorem dL_law_36 : decode cL_law 36 = .ok (.iaload, 1) := by decide +kernel
theorem dL_law_37 : decode cL_law 37 = .ok (.bipush 63, 2) := by decide +kernel
theorem dL_law_39 : decode cL_law 39 = .ok (.iand, 1) := by decide +kernel
theorem dL_law_40 : decode cL_law 40 = .ok (.tableswitch 1942 0 50 #[220, 293, 318, 331, 344, 369, 434, 471, 520, 557, 594, 671, 720, 745, 758, 795, 844, 869, 922, 947, 984, 1021, 1046, 1071, 1096, 1133, 1170, 1207, 1220, 1245, 1258, 1283, 1308, 1321, 1334, 1347, 1424, 1449, 1474, 1523, 1572, 1633, 1670, 1707, 1756, 1797, 1810, 1823, 1848, 1904, 1929], 220) := by decide +kernel
theorem dL_law_260 : decode cL_law 260 = .ok (.aload_n 1, 1) := by decide +kernel
theorem dL_law_261 : decode cL_law 261 = .ok (.aload_n 0, 1) := by decide +kernel
theorem dL_law_262 : decode cL_law 262 = .ok (.iload 4, 2) := by decide +kernel
theorem dL_law_264 : decode cL_law 264 = .ok (.iconst 1, 1) := by decide +kernel
theorem dL_law_265 : decode cL_law 265 = .ok (.iadd, 1) := by decide +kernel
theorem dL_law_266 : decode cL_law 266 = .ok (.iaload, 1) := by decide +kernel
theorem dL_law_267 : decode cL_law 267 = .ok (.aload_n 0, 1) := by decide +kernel
theorem dL_law_268 : decode cL_law 268 = .ok (.iload 4, 2) := by decide +kernel
theorem dL_law_270 : decode cL_law 270 = .ok (.iconst 2, 1) := by decide +kernel
theorem dL_law_271 : decode cL_law 271 = .ok (.iadd, 1) := by decide +kernel
theorem dL_law_272 : decode cL_law 272 = .ok (.iaload, 1) := by decide +kernel
theorem dL_law_273 : decode cL_law 273 = .ok (.aload_n 0, 1) := by decide +kernel
theorem dL_law_274 : decode cL_law 274 = .ok (.iload 4, 2) := by decide +kernel
theorem dL_law_276 : decode cL_law 276 = .ok (.iconst 3, 1) := by decide +kernel
theorem dL_law_277 : decode cL_law 277 = .ok (.iadd, 1) := by decide +kernel
theorem dL_law_278 : decode cL_law 278 = .ok (.iaload, 1) := by decide +kernel
theorem dL_law_279 : decode cL_law 279 = .ok (.aload_n 0, 1) := by decide +kernel
theorem dL_law_280 : decode cL_law 280 = .ok (.iload 4, 2) := by decide +kernel
theorem dL_law_282 : decode cL_law 282 = .ok (.iconst 4, 1) := by decide +kernel
theorem dL_law_283 : decode cL_law 283 = .ok (.iadd, 1) := by decide +kernel
theorem dL_law_284 : decode cL_law 284 = .ok (.iaload, 1) := by decide +kernel
theorem dL_law_285 : decode cL_law 285 = .ok (.aload_n 0, 1) := by decide +kernel
theorem dL_law_286 : decode cL_law 286 = .ok (.iload 4, 2) := by decide +kernel
theorem dL_law_288 : decode cL_law 288 = .ok (.iconst 5, 1) := by decide +kernel
theorem dL_law_289 : decode cL_law 289 = .ok (.iadd, 1) := by decide +kernel
theorem dL_law_290 : decode cL_law 290 = .ok (.iaload, 1) := by decide +kernel
theorem dL_law_291 : decode cL_law 291 = .ok (.invokevirtual 19, 3) := by decide +kernel
theorem dL_law_294 : decode cL_law 294 = .ok (.aload_n 2, 1) := by decide +kernel
theorem dL_law_295 : decode cL_law 295 = .ok (.aload_n 0, 1) := by decide +kernel
theorem dL_law_296 : decode cL_law 296 = .ok (.iload 4, 2) := by decide +kernel
theorem dL_law_298 : decode cL_law 298 = .ok (.iconst 1, 1) := by decide +kernel
theorem dL_law_299 : decode cL_law 299 = .ok (.iadd, 1) := by decide +kernel
theorem dL_law_300 : decode cL_law 300 = .ok (.iaload, 1) := by decide +kernel
theorem dL_law_301 : decode cL_law 301 = .ok (.aload_n 0, 1) := by decide +kernel
theorem dL_law_302 : decode cL_law 302 = .ok (.iload 4, 2) := by decide +kernel
theorem dL_law_304 : decode cL_law 304 = .ok (.iconst 2, 1) := by decide +kernel
theorem dL_law_305 : decode cL_law 305 = .ok (.iadd, 1) := by decide +kernel
theorem dL_law_306 : decode cL_law 306 = .ok (.iaload, 1) := by decide +kernel
theorem dL_law_307 : decode cL_law 307 = .ok (.aload_n 0, 1) := by decide +kernel
theorem dL_law_308 : decode cL_law 308 = .ok (.iload 4, 2) := by decide +kernel
theorem dL_law_310 : decode cL_law 310 = .ok (.iconst 3, 1) := by decide +kernel
theorem dL_law_311 : decode cL_law 311 = .ok (.iadd, 1) := by decide +kernel
theorem dL_law_312 : decode cL_law 312 = .ok (.iaload, 1) := by decide +kernel
theorem dL_law_313 : decode cL_law 313 = .ok (.aload_n 0, 1) := by decide +kernel
theorem dL_law_314 : decode cL_law 314 = .ok (.iload 4, 2) := by decide +kernel
theorem dL_law_316 : decode cL_law 316 = .ok (.iconst 4, 1) := by decide +kernel
theorem dL_law_317 : decode cL_law 317 = .ok (.iadd, 1) := by decide +kernel
theorem dL_law_318 : decode cL_law 318 = .ok (.iaload, 1) := by decide +kernel
theorem dL_law_319 : decode cL_law 319 = .ok (.aload_n 0, 1) := by decide +kernel
theorem dL_law_320 : decode cL_law 320 = .ok (.iload 4, 2) := by decide +kernel
theorem dL_law_322 : decode cL_law 322 = .ok (.iconst 5, 1) := by decide +kernel
theorem dL_law_323 : decode cL_law 323 = .ok (.iadd, 1) := by decide +kernel
theorem dL_law_324 : decode cL_law 324 = .ok (.iaload, 1) := by decide +kernel
theorem dL_law_325 : decode cL_law 325 = .ok (.invokevirtual 23, 3) := by decide +kernel
theorem dL_law_328 : decode cL_law 328 = .ok (.if_icmp .eq 1654, 3) := by decide +kernel
theorem dL_law_331 : decode cL_law 331 = .ok (.iconst 0, 1) := by decide +kernel
theorem dL_law_332 : decode cL_law 332 = .ok (.ireturn, 1) := by decide +kernel
theorem dL_law_333 : decode cL_law 333 = .ok (.aload_n 1, 1) := by decide +kernel
theorem dL_law_334 : decode cL_law 334 = .ok (.aload_n 0, 1) := by decide +kernel
theorem dL_law_335 : decode cL_law 335 = .ok (.iload 4, 2) := by decide +kernel
theorem dL_law_337 : decode cL_law 337 = .ok (.iconst 1, 1) := by decide +kernel
theorem dL_law_338 : decode cL_law 338 = .ok (.iadd, 1) := by decide +kernel
theorem dL_law_339 : decode cL_law 339 = .ok (.iaload, 1) := by decide +kernel
theorem dL_law_340 : decode cL_law 340 = .ok (.invokevirtual 24, 3) := by decide +kernel
theorem dL_law_343 : decode cL_law 343 = .ok (.aload_n 2, 1) := by decide +kernel
theorem dL_law_344 : decode cL_law 344 = .ok (.aload_n 0, 1) := by decide +kernel
theorem dL_law_345 : decode cL_law 345 = .ok (.iload 4, 2) := by decide +kernel
theorem dL_law_347 : decode cL_law 347 = .ok (.iconst 1, 1) := by decide +kernel
theorem dL_law_348 : decode cL_law 348 = .ok (.iadd, 1) := by decide +kernel
theorem dL_law_349 : decode cL_law 349 = .ok (.iaload, 1) := by decide +kernel
theorem dL_law_350 : decode cL_law 350 = .ok (.invokevirtual 27, 3) := by decide +kernel
theorem dL_law_353 : decode cL_law 353 = .ok (.if_icmp .eq 1629, 3) := by decide +kernel
theorem dL_law_356 : decode cL_law 356 = .ok (.iconst 0, 1) := by decide +kernel
theorem dL_law_357 : decode cL_law 357 = .ok (.ireturn, 1) := by decide +kernel
theorem dL_law_358 : decode cL_law 358 = .ok (.aload_n 1, 1) := by decide +kernel
theorem dL_law_359 : decode cL_law 359 = .ok (.invokevirtual 28, 3) := by decide +kernel
theorem dL_law_362 : decode cL_law 362 = .ok (.aload_n 2, 1) := by decide +kernel
theorem dL_law_363 : decode cL_law 363 = .ok (.invokevirtual 32, 3) := by decide +kernel
theorem dL_law_366 : decode cL_law 366 = .ok (.if_icmp .eq 1616, 3) := by decide +kernel
theorem dL_law_369 : decode cL_law 369 = .ok (.iconst 0, 1) := by decide +kernel
theorem dL_law_370 : decode cL_law 370 = .ok (.ireturn, 1) := by decide +kernel
theorem dL_law_371 : decode cL_law 371 = .ok (.aload_n 1, 1) := by decide +kernel
theorem dL_law_372 : decode cL_law 372 = .ok (.invokevirtual 33, 3) := by decide +kernel
theorem dL_law_375 : decode cL_law 375 = .ok (.aload_n 2, 1) := by decide +kernel
theorem dL_law_376 : decode cL_law 376 = .ok (.invokevirtual 36, 3) := by decide +kernel
theorem dL_law_379 : decode cL_law 379 = .ok (.if_icmp .eq 1603, 3) := by decide +kernel
theorem dL_law_382 : decode cL_law 382 = .ok (.iconst 0, 1) := by decide +kernel
theorem dL_law_383 : decode cL_law 383 = .ok (.ireturn, 1) := by decide +kernel
theorem dL_law_384 : decode cL_law 384 = .ok (.aload_n 1, 1) := by decide +kernel
theorem dL_law_385 : decode cL_law 385 = .ok (.aload_n 0, 1) := by decide +kernel
theorem dL_law_386 : decode cL_law 386 = .ok (.iload 4, 2) := by decide +kernel
theorem dL_law_388 : decode cL_law 388 = .ok (.iconst 1, 1) := by decide +kernel
theorem dL_law_389 : decode cL_law 389 = .ok (.iadd, 1) := by decide +kernel
theorem dL_law_390 : decode cL_law 390 = .ok (.iaload, 1) := by decide +kernel
theorem dL_law_391 : decode cL_law 391 = .ok (.invokevirtual 37, 3) := by decide +kernel
theorem dL_law_394 : decode cL_law 394 = .ok (.aload_n 2, 1) := by decide +kernel
theorem dL_law_395 : decode cL_law 395 = .ok (.aload_n 0, 1) := by decide +kernel
theorem dL_law_396 : decode cL_law 396 = .ok (.iload 4, 2) := by decide +kernel
theorem dL_law_398 : decode cL_law 398 = .ok (.iconst 1, 1) := by decide +kernel
theorem dL_law_399 : decode cL_law 399 = .ok (.iadd, 1) := by decide +kernel
theorem dL_law_400 : decode cL_law 400 = .ok (.iaload, 1) := by decide +kernel
theorem dL_law_401 : decode cL_law 401 = .ok (.invokevirtual 40, 3) := by decide +kernel
theorem dL_law_404 : decode cL_law 404 = .ok (.if_icmp .eq 1578, 3) := by decide +kernel
theorem dL_law_407 : decode cL_law 407 = .ok (.iconst 0, 1) := by decide +kernel
theorem dL_law_408 : decode cL_law 408 = .ok (.ireturn, 1) := by decide +kernel
theorem dL_law_409 : decode cL_law 409 = .ok (.aload_n 1, 1) := by decide +kernel
theorem dL_law_410 : decode cL_law 410 = .ok (.aload_n 0, 1) := by decide +kernel
theorem dL_law_411 : decode cL_law 411 = .ok (.iload 4, 2) := by decide +kernel
theorem dL_law_413 : decode cL_law 413 = .ok (.iconst 1, 1) := by decide +kernel
theorem dL_law_414 : decode cL_law 414 = .ok (.iadd, 1) := by decide +kernel
theorem dL_law_415 : decode cL_law 415 = .ok (.iaload, 1) := by decide +kernel
theorem dL_law_416 : decode cL_law 416 = .ok (.aload_n 0, 1) := by decide +kernel
theorem dL_law_417 : decode cL_law 417 = .ok (.iload 4, 2) := by decide +kernel
theorem dL_law_419 : decode cL_law 419 = .ok (.iconst 2, 1) := by decide +kernel
theorem dL_law_420 : decode cL_law 420 = .ok (.iadd, 1) := by decide +kernel
theorem dL_law_421 : decode cL_law 421 = .ok (.iaload, 1) := by decide +kernel
theorem dL_law_422 : decode cL_law 422 = .ok (.aload_n 0, 1) := by decide +kernel
theorem dL_law_423 : decode cL_law 423 = .ok (.iload 4, 2) := by decide +kernel
theorem dL_law_425 : decode cL_law 425 = .ok (.iconst 3, 1) := by decide +kernel
theorem dL_law_426 : decode cL_law 426 = .ok (.iadd, 1) := by decide +kernel
theorem dL_law_427 : decode cL_law 427 = .ok (.iaload, 1) := by decide +kernel
theorem dL_law_428 : decode cL_law 428 = .ok (.ifCond .eq 7, 3) := by decide +kernel
theorem dL_law_431 : decode cL_law 431 = .ok (.iconst 1, 1) := by decide +kernel
theorem dL_law_432 : decode cL_law 432 = .ok (.goto 4, 3) := by decide +kernel
theorem dL_law_435 : decode cL_law 435 = .ok (.iconst 0, 1) := by decide +kernel
theorem dL_law_436 : decode cL_law 436 = .ok (.invokevirtual 41, 3) := by decide +kernel
theorem dL_law_439 : decode cL_law 439 = .ok (.aload_n 2, 1) := by decide +kernel
theorem dL_law_440 : decode cL_law 440 = .ok (.aload_n 0, 1) := by decide +kernel
theorem dL_law_441 : decode cL_law 441 = .ok (.iload 4, 2) := by decide +kernel
theorem dL_law_443 : decode cL_law 443 = .ok (.iconst 1, 1) := by decide +kernel
theorem dL_law_444 : decode cL_law 444 = .ok (.iadd, 1) := by decide +kernel
theorem dL_law_445 : decode cL_law 445 = .ok (.iaload, 1) := by decide +kernel
theorem dL_law_446 : decode cL_law 446 = .ok (.aload_n 0, 1) := by decide +kernel
theorem dL_law_447 : decode cL_law 447 = .ok (.iload 4, 2) := by decide +kernel
theorem dL_law_449 : decode cL_law 449 = .ok (.iconst 2, 1) := by decide +kernel
theorem dL_law_450 : decode cL_law 450 = .ok (.iadd, 1) := by decide +kernel
theorem dL_law_451 : decode cL_law 451 = .ok (.iaload, 1) := by decide +kernel
theorem dL_law_452 : decode cL_law 452 = .ok (.aload_n 0, 1) := by decide +kernel
theorem dL_law_453 : decode cL_law 453 = .ok (.iload 4, 2) := by decide +kernel
theorem dL_law_455 : decode cL_law 455 = .ok (.iconst 3, 1) := by decide +kernel
theorem dL_law_456 : decode cL_law 456 = .ok (.iadd, 1) := by decide +kernel
theorem dL_law_457 : decode cL_law 457 = .ok (.iaload, 1) := by decide +kernel
theorem dL_law_458 : decode cL_law 458 = .ok (.ifCond .eq 7, 3) := by decide +kernel
theorem dL_law_461 : decode cL_law 461 = .ok (.iconst 1, 1) := by decide +kernel
theorem dL_law_462 : decode cL_law 462 = .ok (.goto 4, 3) := by decide +kernel
theorem dL_law_465 : decode cL_law 465 = .ok (.iconst 0, 1) := by decide +kernel
theorem dL_law_466 : decode cL_law 466 = .ok (.invokevirtual 45, 3) := by decide +kernel
theorem dL_law_469 : decode cL_law 469 = .ok (.if_icmp .eq 1513, 3) := by decide +kernel
theorem dL_law_472 : decode cL_law 472 = .ok (.iconst 0, 1) := by decide +kernel
theorem dL_law_473 : decode cL_law 473 = .ok (.ireturn, 1) := by decide +kernel
theorem dL_law_474 : decode cL_law 474 = .ok (.aload_n 1, 1) := by decide +kernel
theorem dL_law_475 : decode cL_law 475 = .ok (.aload_n 0, 1) := by decide +kernel
theorem dL_law_476 : decode cL_law 476 = .ok (.iload 4, 2) := by decide +kernel
theorem dL_law_478 : decode cL_law 478 = .ok (.iconst 1, 1) := by decide +kernel
theorem dL_law_479 : decode cL_law 479 = .ok (.iadd, 1) := by decide +kernel
theorem dL_law_480 : decode cL_law 480 = .ok (.iaload, 1) := by decide +kernel
theorem dL_law_481 : decode cL_law 481 = .ok (.aload_n 0, 1) := by decide +kernel
theorem dL_law_482 : decode cL_law 482 = .ok (.iload 4, 2) := by decide +kernel
theorem dL_law_484 : decode cL_law 484 = .ok (.iconst 2, 1) := by decide +kernel
theorem dL_law_485 : decode cL_law 485 = .ok (.iadd, 1) := by decide +kernel
theorem dL_law_486 : decode cL_law 486 = .ok (.iaload, 1) := by decide +kernel
theorem dL_law_487 : decode cL_law 487 = .ok (.invokevirtual 46, 3) := by decide +kernel
theorem dL_law_490 : decode cL_law 490 = .ok (.aload_n 2, 1) := by decide +kernel
theorem dL_law_491 : decode cL_law 491 = .ok (.aload_n 0, 1) := by decide +kernel
theorem dL_law_492 : decode cL_law 492 = .ok (.iload 4, 2) := by decide +kernel
theorem dL_law_494 : decode cL_law 494 = .ok (.iconst 1, 1) := by decide +kernel
theorem dL_law_495 : decode cL_law 495 = .ok (.iadd, 1) := by decide +kernel
theorem dL_law_496 : decode cL_law 496 = .ok (.iaload, 1) := by decide +kernel
theorem dL_law_497 : decode cL_law 497 = .ok (.aload_n 0, 1) := by decide +kernel
theorem dL_law_498 : decode cL_law 498 = .ok (.iload 4, 2) := by decide +kernel
theorem dL_law_500 : decode cL_law 500 = .ok (.iconst 2, 1) := by decide +kernel
theorem dL_law_501 : decode cL_law 501 = .ok (.iadd, 1) := by decide +kernel
theorem dL_law_502 : decode cL_law 502 = .ok (.iaload, 1) := by decide +kernel
theorem dL_law_503 : decode cL_law 503 = .ok (.invokevirtual 50, 3) := by decide +kernel
theorem dL_law_506 : decode cL_law 506 = .ok (.if_icmp .eq 1476, 3) := by decide +kernel
theorem dL_law_509 : decode cL_law 509 = .ok (.iconst 0, 1) := by decide +kernel
theorem dL_law_510 : decode cL_law 510 = .ok (.ireturn, 1) := by decide +kernel
theorem dL_law_511 : decode cL_law 511 = .ok (.aload_n 1, 1) := by decide +kernel
theorem dL_law_512 : decode cL_law 512 = .ok (.aload_n 0, 1) := by decide +kernel
theorem dL_law_513 : decode cL_law 513 = .ok (.iload 4, 2) := by decide +kernel
theorem dL_law_515 : decode cL_law 515 = .ok (.iconst 1, 1) := by decide +kernel
theorem dL_law_516 : decode cL_law 516 = .ok (.iadd, 1) := by decide +kernel
theorem dL_law_517 : decode cL_law 517 = .ok (.iaload, 1) := by decide +kernel
theorem dL_law_518 : decode cL_law 518 = .ok (.aload_n 0, 1) := by decide +kernel
theorem dL_law_519 : decode cL_law 519 = .ok (.iload 4, 2) := by decide +kernel
theorem dL_law_521 : decode cL_law 521 = .ok (.iconst 2, 1) := by decide +kernel
theorem dL_law_522 : decode cL_law 522 = .ok (.iadd, 1) := by decide +kernel
theorem dL_law_523 : decode cL_law 523 = .ok (.iaload, 1) := by decide +kernel
theorem dL_law_524 : decode cL_law 524 = .ok (.aload_n 0, 1) := by decide +kernel
theorem dL_law_525 : decode cL_law 525 = .ok (.iload 4, 2) := by decide +kernel
theorem dL_law_527 : decode cL_law 527 = .ok (.iconst 3, 1) := by decide +kernel
theorem dL_law_528 : decode cL_law 528 = .ok (.iadd, 1) := by decide +kernel
theorem dL_law_529 : decode cL_law 529 = .ok (.iaload, 1) := by decide +kernel
theorem dL_law_530 : decode cL_law 530 = .ok (.invokevirtual 51, 3) := by decide +kernel
theorem dL_law_533 : decode cL_law 533 = .ok (.aload_n 2, 1) := by decide +kernel
theorem dL_law_534 : decode cL_law 534 = .ok (.aload_n 0, 1) := by decide +kernel
theorem dL_law_535 : decode cL_law 535 = .ok (.iload 4, 2) := by decide +kernel
theorem dL_law_537 : decode cL_law 537 = .ok (.iconst 1, 1) := by decide +kernel
theorem dL_law_538 : decode cL_law 538 = .ok (.iadd, 1) := by decide +kernel
theorem dL_law_539 : decode cL_law 539 = .ok (.iaload, 1) := by decide +kernel
theorem dL_law_540 : decode cL_law 540 = .ok (.aload_n 0, 1) := by decide +kernel
theorem dL_law_541 : decode cL_law 541 = .ok (.iload 4, 2) := by decide +kernel
theorem dL_law_543 : decode cL_law 543 = .ok (.iconst 2, 1) := by decide +kernel
theorem dL_law_544 : decode cL_law 544 = .ok (.iadd, 1) := by decide +kernel
theorem dL_law_545 : decode cL_law 545 = .ok (.iaload, 1) := by decide +kernel
theorem dL_law_546 : decode cL_law 546 = .ok (.aload_n 0, 1) := by decide +kernel
theorem dL_law_547 : decode cL_law 547 = .ok (.iload 4, 2) := by decide +kernel
theorem dL_law_549 : decode cL_law 549 = .ok (.iconst 3, 1) := by decide +kernel
theorem dL_law_550 : decode cL_law 550 = .ok (.iadd, 1) := by decide +kernel
theorem dL_law_551 : decode cL_law 551 = .ok (.iaload, 1) := by decide +kernel
theorem dL_law_552 : decode cL_law 552 = .ok (.invokevirtual 55, 3) := by decide +kernel
theorem dL_law_555 : decode cL_law 555 = .ok (.if_icmp .eq 1427, 3) := by decide +kernel
theorem dL_law_558 : decode cL_law 558 = .ok (.iconst 0, 1) := by decide +kernel
theorem dL_law_559 : decode cL_law 559 = .ok (.ireturn, 1) := by decide +kernel
theorem dL_law_560 : decode cL_law 560 = .ok (.aload_n 1, 1) := by decide +kernel
theorem dL_law_561 : decode cL_law 561 = .ok (.aload_n 0, 1) := by decide +kernel
theorem dL_law_562 : decode cL_law 562 = .ok (.iload 4, 2) := by decide +kernel
theorem dL_law_564 : decode cL_law 564 = .ok (.iconst 1, 1) := by decide +kernel
theorem dL_law_565 : decode cL_law 565 = .ok (.iadd, 1) := by decide +kernel
theorem dL_law_566 : decode cL_law 566 = .ok (.iaload, 1) := by decide +kernel
theorem dL_law_567 : decode cL_law 567 = .ok (.aload_n 0, 1) := by decide +kernel
theorem dL_law_568 : decode cL_law 568 = .ok (.iload 4, 2) := by decide +kernel
theorem dL_law_570 : decode cL_law 570 = .ok (.iconst 2, 1) := by decide +kernel
theorem dL_law_571 : decode cL_law 571 = .ok (.iadd, 1) := by decide +kernel
theorem dL_law_572 : decode cL_law 572 = .ok (.iaload, 1) := by decide +kernel
theorem dL_law_573 : decode cL_law 573 = .ok (.invokevirtual 56, 3) := by decide +kernel
theorem dL_law_576 : decode cL_law 576 = .ok (.aload_n 2, 1) := by decide +kernel
theorem dL_law_577 : decode cL_law 577 = .ok (.aload_n 0, 1) := by decide +kernel
theorem dL_law_578 : decode cL_law 578 = .ok (.iload 4, 2) := by decide +kernel
theorem dL_law_580 : decode cL_law 580 = .ok (.iconst 1, 1) := by decide +kernel
theorem dL_law_581 : decode cL_law 581 = .ok (.iadd, 1) := by decide +kernel
theorem dL_law_582 : decode cL_law 582 = .ok (.iaload, 1) := by decide +kernel
theorem dL_law_583 : decode cL_law 583 = .ok (.aload_n 0, 1) := by decide +kernel
theorem dL_law_584 : decode cL_law 584 = .ok (.iload 4, 2) := by decide +kernel
theorem dL_law_586 : decode cL_law 586 = .ok (.iconst 2, 1) := by decide +kernel
theorem dL_law_587 : decode cL_law 587 = .ok (.iadd, 1) := by decide +kernel
theorem dL_law_588 : decode cL_law 588 = .ok (.iaload, 1) := by decide +kernel
theorem dL_law_589 : decode cL_law 589 = .ok (.invokevirtual 59, 3) := by decide +kernel
theorem dL_law_592 : decode cL_law 592 = .ok (.if_icmp .eq 1390, 3) := by decide +kernel
theorem dL_law_595 : decode cL_law 595 = .ok (.iconst 0, 1) := by decide +kernel
theorem dL_law_596 : decode cL_law 596 = .ok (.ireturn, 1) := by decide +kernel
theorem dL_law_597 : decode cL_law 597 = .ok (.aload_n 1, 1) := by decide +kernel
theorem dL_law_598 : decode cL_law 598 = .ok (.aload_n 0, 1) := by decide +kernel
theorem dL_law_599 : decode cL_law 599 = .ok (.iload 4, 2) := by decide +kernel
theorem dL_law_601 : decode cL_law 601 = .ok (.iconst 1, 1) := by decide +kernel
theorem dL_law_602 : decode cL_law 602 = .ok (.iadd, 1) := by decide +kernel
theorem dL_law_603 : decode cL_law 603 = .ok (.iaload, 1) := by decide +kernel
theorem dL_law_604 : decode cL_law 604 = .ok (.aload_n 0, 1) := by decide +kernel
theorem dL_law_605 : decode cL_law 605 = .ok (.iload 4, 2) := by decide +kernel
theorem dL_law_607 : decode cL_law 607 = .ok (.iconst 2, 1) := by decide +kernel
theorem dL_law_608 : decode cL_law 608 = .ok (.iadd, 1) := by decide +kernel
theorem dL_law_609 : decode cL_law 609 = .ok (.iaload, 1) := by decide +kernel
theorem dL_law_610 : decode cL_law 610 = .ok (.invokevirtual 60, 3) := by decide +kernel
theorem dL_law_613 : decode cL_law 613 = .ok (.aload_n 2, 1) := by decide +kernel
theorem dL_law_614 : decode cL_law 614 = .ok (.aload_n 0, 1) := by decide +kernel
theorem dL_law_615 : decode cL_law 615 = .ok (.iload 4, 2) := by decide +kernel
theorem dL_law_617 : decode cL_law 617 = .ok (.iconst 1, 1) := by decide +kernel
theorem dL_law_618 : decode cL_law 618 = .ok (.iadd, 1) := by decide +kernel
theorem dL_law_619 : decode cL_law 619 = .ok (.iaload, 1) := by decide +kernel
theorem dL_law_620 : decode cL_law 620 = .ok (.aload_n 0, 1) := by decide +kernel
theorem dL_law_621 : decode cL_law 621 = .ok (.iload 4, 2) := by decide +kernel
theorem dL_law_623 : decode cL_law 623 = .ok (.iconst 2, 1) := by decide +kernel
theorem dL_law_624 : decode cL_law 624 = .ok (.iadd, 1) := by decide +kernel
theorem dL_law_625 : decode cL_law 625 = .ok (.iaload, 1) := by decide +kernel
theorem dL_law_626 : decode cL_law 626 = .ok (.invokevirtual 63, 3) := by decide +kernel
theorem dL_law_629 : decode cL_law 629 = .ok (.if_icmp .eq 1353, 3) := by decide +kernel
theorem dL_law_632 : decode cL_law 632 = .ok (.iconst 0, 1) := by decide +kernel
theorem dL_law_633 : decode cL_law 633 = .ok (.ireturn, 1) := by decide +kernel
theorem dL_law_634 : decode cL_law 634 = .ok (.aload_n 1, 1) := by decide +kernel
theorem dL_law_635 : decode cL_law 635 = .ok (.aload_n 0, 1) := by decide +kernel
theorem dL_law_636 : decode cL_law 636 = .ok (.iload 4, 2) := by decide +kernel
theorem dL_law_638 : decode cL_law 638 = .ok (.iconst 1, 1) := by decide +kernel
theorem dL_law_639 : decode cL_law 639 = .ok (.iadd, 1) := by decide +kernel
theorem dL_law_640 : decode cL_law 640 = .ok (.iaload, 1) := by decide +kernel
theorem dL_law_641 : decode cL_law 641 = .ok (.aload_n 0, 1) := by decide +kernel
theorem dL_law_642 : decode cL_law 642 = .ok (.iload 4, 2) := by decide +kernel
theorem dL_law_644 : decode cL_law 644 = .ok (.iconst 2, 1) := by decide +kernel
theorem dL_law_645 : decode cL_law 645 = .ok (.iadd, 1) := by decide +kernel
theorem dL_law_646 : decode cL_law 646 = .ok (.iaload, 1) := by decide +kernel
theorem dL_law_647 : decode cL_law 647 = .ok (.aload_n 0, 1) := by decide +kernel
theorem dL_law_648 : decode cL_law 648 = .ok (.iload 4, 2) := by decide +kernel
theorem dL_law_650 : decode cL_law 650 = .ok (.iconst 3, 1) := by decide +kernel
theorem dL_law_651 : decode cL_law 651 = .ok (.iadd, 1) := by decide +kernel
theorem dL_law_652 : decode cL_law 652 = .ok (.iaload, 1) := by decide +kernel
theorem dL_law_653 : decode cL_law 653 = .ok (.aload_n 0, 1) := by decide +kernel
theorem dL_law_654 : decode cL_law 654 = .ok (.iload 4, 2) := by decide +kernel
theorem dL_law_656 : decode cL_law 656 = .ok (.iconst 4, 1) := by decide +kernel
theorem dL_law_657 : decode cL_law 657 = .ok (.iadd, 1) := by decide +kernel
theorem dL_law_658 : decode cL_law 658 = .ok (.iaload, 1) := by decide +kernel
theorem dL_law_659 : decode cL_law 659 = .ok (.ifCond .eq 7, 3) := by decide +kernel
theorem dL_law_662 : decode cL_law 662 = .ok (.iconst 1, 1) := by decide +kernel
theorem dL_law_663 : decode cL_law 663 = .ok (.goto 4, 3) := by decide +kernel
theorem dL_law_666 : decode cL_law 666 = .ok (.iconst 0, 1) := by decide +kernel
theorem dL_law_667 : decode cL_law 667 = .ok (.invokevirtual 64, 3) := by decide +kernel
theorem dL_law_670 : decode cL_law 670 = .ok (.aload_n 2, 1) := by decide +kernel
theorem dL_law_671 : decode cL_law 671 = .ok (.aload_n 0, 1) := by decide +kernel
theorem dL_law_672 : decode cL_law 672 = .ok (.iload 4, 2) := by decide +kernel
theorem dL_law_674 : decode cL_law 674 = .ok (.iconst 1, 1) := by decide +kernel
theorem dL_law_675 : decode cL_law 675 = .ok (.iadd, 1) := by decide +kernel
theorem dL_law_676 : decode cL_law 676 = .ok (.iaload, 1) := by decide +kernel
theorem dL_law_677 : decode cL_law 677 = .ok (.aload_n 0, 1) := by decide +kernel
theorem dL_law_678 : decode cL_law 678 = .ok (.iload 4, 2) := by decide +kernel
theorem dL_law_680 : decode cL_law 680 = .ok (.iconst 2, 1) := by decide +kernel
theorem dL_law_681 : decode cL_law 681 = .ok (.iadd, 1) := by decide +kernel
theorem dL_law_682 : decode cL_law 682 = .ok (.iaload, 1) := by decide +kernel
theorem dL_law_683 : decode cL_law 683 = .ok (.aload_n 0, 1) := by decide +kernel
theorem dL_law_684 : decode cL_law 684 = .ok (.iload 4, 2) := by decide +kernel
theorem dL_law_686 : decode cL_law 686 = .ok (.iconst 3, 1) := by decide +kernel
theorem dL_law_687 : decode cL_law 687 = .ok (.iadd, 1) := by decide +kernel
theorem dL_law_688 : decode cL_law 688 = .ok (.iaload, 1) := by decide +kernel
theorem dL_law_689 : decode cL_law 689 = .ok (.aload_n 0, 1) := by decide +kernel
theorem dL_law_690 : decode cL_law 690 = .ok (.iload 4, 2) := by decide +kernel
theorem dL_law_692 : decode cL_law 692 = .ok (.iconst 4, 1) := by decide +kernel
theorem dL_law_693 : decode cL_law 693 = .ok (.iadd, 1) := by decide +kernel
theorem dL_law_694 : decode cL_law 694 = .ok (.iaload, 1) := by decide +kernel
theorem dL_law_695 : decode cL_law 695 = .ok (.ifCond .eq 7, 3) := by decide +kernel
theorem dL_law_698 : decode cL_law 698 = .ok (.iconst 1, 1) := by decide +kernel
theorem dL_law_699 : decode cL_law 699 = .ok (.goto 4, 3) := by decide +kernel
theorem dL_law_702 : decode cL_law 702 = .ok (.iconst 0, 1) := by decide +kernel
theorem dL_law_703 : decode cL_law 703 = .ok (.invokevirtual 68, 3) := by decide +kernel
theorem dL_law_706 : decode cL_law 706 = .ok (.if_icmp .eq 1276, 3) := by decide +kernel
theorem dL_law_709 : decode cL_law 709 = .ok (.iconst 0, 1) := by decide +kernel
theorem dL_law_710 : decode cL_law 710 = .ok (.ireturn, 1) := by decide +kernel
theorem dL_law_711 : decode cL_law 711 = .ok (.aload_n 1, 1) := by decide +kernel
theorem dL_law_712 : decode cL_law 712 = .ok (.aload_n 0, 1) := by decide +kernel
theorem dL_law_713 : decode cL_law 713 = .ok (.iload 4, 2) := by decide +kernel
theorem dL_law_715 : decode cL_law 715 = .ok (.iconst 1, 1) := by decide +kernel
theorem dL_law_716 : decode cL_law 716 = .ok (.iadd, 1) := by decide +kernel
theorem dL_law_717 : decode cL_law 717 = .ok (.iaload, 1) := by decide +kernel
theorem dL_law_718 : decode cL_law 718 = .ok (.aload_n 0, 1) := by decide +kernel
theorem dL_law_719 : decode cL_law 719 = .ok (.iload 4, 2) := by decide +kernel
theorem dL_law_721 : decode cL_law 721 = .ok (.iconst 2, 1) := by decide +kernel
theorem dL_law_722 : decode cL_law 722 = .ok (.iadd, 1) := by decide +kernel
theorem dL_law_723 : decode cL_law 723 = .ok (.iaload, 1) := by decide +kernel
theorem dL_law_724 : decode cL_law 724 = .ok (.aload_n 0, 1) := by decide +kernel
theorem dL_law_725 : decode cL_law 725 = .ok (.iload 4, 2) := by decide +kernel
theorem dL_law_727 : decode cL_law 727 = .ok (.iconst 3, 1) := by decide +kernel
theorem dL_law_728 : decode cL_law 728 = .ok (.iadd, 1) := by decide +kernel
theorem dL_law_729 : decode cL_law 729 = .ok (.iaload, 1) := by decide +kernel
theorem dL_law_730 : decode cL_law 730 = .ok (.invokevirtual 69, 3) := by decide +kernel
theorem dL_law_733 : decode cL_law 733 = .ok (.aload_n 2, 1) := by decide +kernel
theorem dL_law_734 : decode cL_law 734 = .ok (.aload_n 0, 1) := by decide +kernel
theorem dL_law_735 : decode cL_law 735 = .ok (.iload 4, 2) := by decide +kernel
theorem dL_law_737 : decode cL_law 737 = .ok (.iconst 1, 1) := by decide +kernel
theorem dL_law_738 : decode cL_law 738 = .ok (.iadd, 1) := by decide +kernel
theorem dL_law_739 : decode cL_law 739 = .ok (.iaload, 1) := by decide +kernel
theorem dL_law_740 : decode cL_law 740 = .ok (.aload_n 0, 1) := by decide +kernel
theorem dL_law_741 : decode cL_law 741 = .ok (.iload 4, 2) := by decide +kernel
theorem dL_law_743 : decode cL_law 743 = .ok (.iconst 2, 1) := by decide +kernel
theorem dL_law_744 : decode cL_law 744 = .ok (.iadd, 1) := by decide +kernel
theorem dL_law_745 : decode cL_law 745 = .ok (.iaload, 1) := by decide +kernel
theorem dL_law_746 : decode cL_law 746 = .ok (.aload_n 0, 1) := by decide +kernel
theorem dL_law_747 : decode cL_law 747 = .ok (.iload 4, 2) := by decide +kernel
theorem dL_law_749 : decode cL_law 749 = .ok (.iconst 3, 1) := by decide +kernel
theorem dL_law_750 : decode cL_law 750 = .ok (.iadd, 1) := by decide +kernel
theorem dL_law_751 : decode cL_law 751 = .ok (.iaload, 1) := by decide +kernel
theorem dL_law_752 : decode cL_law 752 = .ok (.invokevirtual 72, 3) := by decide +kernel
theorem dL_law_755 : decode cL_law 755 = .ok (.if_icmp .eq 1227, 3) := by decide +kernel
theorem dL_law_758 : decode cL_law 758 = .ok (.iconst 0, 1) := by decide +kernel
theorem dL_law_759 : decode cL_law 759 = .ok (.ireturn, 1) := by decide +kernel
theorem dL_law_760 : decode cL_law 760 = .ok (.aload_n 1, 1) := by decide +kernel
theorem dL_law_761 : decode cL_law 761 = .ok (.aload_n 0, 1) := by decide +kernel
theorem dL_law_762 : decode cL_law 762 = .ok (.iload 4, 2) := by decide +kernel
theorem dL_law_764 : decode cL_law 764 = .ok (.iconst 1, 1) := by decide +kernel
theorem dL_law_765 : decode cL_law 765 = .ok (.iadd, 1) := by decide +kernel
theorem dL_law_766 : decode cL_law 766 = .ok (.iaload, 1) := by decide +kernel
theorem dL_law_767 : decode cL_law 767 = .ok (.invokevirtual 73, 3) := by decide +kernel
theorem dL_law_770 : decode cL_law 770 = .ok (.aload_n 2, 1) := by decide +kernel
theorem dL_law_771 : decode cL_law 771 = .ok (.aload_n 0, 1) := by decide +kernel
theorem dL_law_772 : decode cL_law 772 = .ok (.iload 4, 2) := by decide +kernel
theorem dL_law_774 : decode cL_law 774 = .ok (.iconst 1, 1) := by decide +kernel
theorem dL_law_775 : decode cL_law 775 = .ok (.iadd, 1) := by decide +kernel
theorem dL_law_776 : decode cL_law 776 = .ok (.iaload, 1) := by decide +kernel
theorem dL_law_777 : decode cL_law 777 = .ok (.invokevirtual 76, 3) := by decide +kernel
theorem dL_law_780 : decode cL_law 780 = .ok (.if_icmp .eq 1202, 3) := by decide +kernel
theorem dL_law_783 : decode cL_law 783 = .ok (.iconst 0, 1) := by decide +kernel
theorem dL_law_784 : decode cL_law 784 = .ok (.ireturn, 1) := by decide +kernel
theorem dL_law_785 : decode cL_law 785 = .ok (.aload_n 1, 1) := by decide +kernel
theorem dL_law_786 : decode cL_law 786 = .ok (.invokevirtual 77, 3) := by decide +kernel
theorem dL_law_789 : decode cL_law 789 = .ok (.aload_n 2, 1) := by decide +kernel
theorem dL_law_790 : decode cL_law 790 = .ok (.invokevirtual 80, 3) := by decide +kernel
theorem dL_law_793 : decode cL_law 793 = .ok (.if_icmp .eq 1189, 3) := by decide +kernel
theorem dL_law_796 : decode cL_law 796 = .ok (.iconst 0, 1) := by decide +kernel
theorem dL_law_797 : decode cL_law 797 = .ok (.ireturn, 1) := by decide +kernel
theorem dL_law_798 : decode cL_law 798 = .ok (.aload_n 1, 1) := by decide +kernel
theorem dL_law_799 : decode cL_law 799 = .ok (.aload_n 0, 1) := by decide +kernel
theorem dL_law_800 : decode cL_law 800 = .ok (.iload 4, 2) := by decide +kernel
theorem dL_law_802 : decode cL_law 802 = .ok (.iconst 1, 1) := by decide +kernel
theorem dL_law_803 : decode cL_law 803 = .ok (.iadd, 1) := by decide +kernel
theorem dL_law_804 : decode cL_law 804 = .ok (.iaload, 1) := by decide +kernel
theorem dL_law_805 : decode cL_law 805 = .ok (.aload_n 0, 1) := by decide +kernel
theorem dL_law_806 : decode cL_law 806 = .ok (.iload 4, 2) := by decide +kernel
theorem dL_law_808 : decode cL_law 808 = .ok (.iconst 2, 1) := by decide +kernel
theorem dL_law_809 : decode cL_law 809 = .ok (.iadd, 1) := by decide +kernel
theorem dL_law_810 : decode cL_law 810 = .ok (.iaload, 1) := by decide +kernel
theorem dL_law_811 : decode cL_law 811 = .ok (.invokevirtual 81, 3) := by decide +kernel
theorem dL_law_814 : decode cL_law 814 = .ok (.aload_n 2, 1) := by decide +kernel
theorem dL_law_815 : decode cL_law 815 = .ok (.aload_n 0, 1) := by decide +kernel
theorem dL_law_816 : decode cL_law 816 = .ok (.iload 4, 2) := by decide +kernel
theorem dL_law_818 : decode cL_law 818 = .ok (.iconst 1, 1) := by decide +kernel
theorem dL_law_819 : decode cL_law 819 = .ok (.iadd, 1) := by decide +kernel
theorem dL_law_820 : decode cL_law 820 = .ok (.iaload, 1) := by decide +kernel
theorem dL_law_821 : decode cL_law 821 = .ok (.aload_n 0, 1) := by decide +kernel
theorem dL_law_822 : decode cL_law 822 = .ok (.iload 4, 2) := by decide +kernel
theorem dL_law_824 : decode cL_law 824 = .ok (.iconst 2, 1) := by decide +kernel
theorem dL_law_825 : decode cL_law 825 = .ok (.iadd, 1) := by decide +kernel
theorem dL_law_826 : decode cL_law 826 = .ok (.iaload, 1) := by decide +kernel
theorem dL_law_827 : decode cL_law 827 = .ok (.invokevirtual 84, 3) := by decide +kernel
theorem dL_law_830 : decode cL_law 830 = .ok (.if_icmp .eq 1152, 3) := by decide +kernel
theorem dL_law_833 : decode cL_law 833 = .ok (.iconst 0, 1) := by decide +kernel
theorem dL_law_834 : decode cL_law 834 = .ok (.ireturn, 1) := by decide +kernel
theorem dL_law_835 : decode cL_law 835 = .ok (.aload_n 1, 1) := by decide +kernel
theorem dL_law_836 : decode cL_law 836 = .ok (.aload_n 0, 1) := by decide +kernel
theorem dL_law_837 : decode cL_law 837 = .ok (.iload 4, 2) := by decide +kernel
theorem dL_law_839 : decode cL_law 839 = .ok (.iconst 1, 1) := by decide +kernel
theorem dL_law_840 : decode cL_law 840 = .ok (.iadd, 1) := by decide +kernel
theorem dL_law_841 : decode cL_law 841 = .ok (.iaload, 1) := by decide +kernel
theorem dL_law_842 : decode cL_law 842 = .ok (.aload_n 0, 1) := by decide +kernel
theorem dL_law_843 : decode cL_law 843 = .ok (.iload 4, 2) := by decide +kernel
theorem dL_law_845 : decode cL_law 845 = .ok (.iconst 2, 1) := by decide +kernel
theorem dL_law_846 : decode cL_law 846 = .ok (.iadd, 1) := by decide +kernel
theorem dL_law_847 : decode cL_law 847 = .ok (.iaload, 1) := by decide +kernel
theorem dL_law_848 : decode cL_law 848 = .ok (.aload_n 0, 1) := by decide +kernel
theorem dL_law_849 : decode cL_law 849 = .ok (.iload 4, 2) := by decide +kernel
theorem dL_law_851 : decode cL_law 851 = .ok (.iconst 3, 1) := by decide +kernel
theorem dL_law_852 : decode cL_law 852 = .ok (.iadd, 1) := by decide +kernel
theorem dL_law_853 : decode cL_law 853 = .ok (.iaload, 1) := by decide +kernel
theorem dL_law_854 : decode cL_law 854 = .ok (.invokevirtual 85, 3) := by decide +kernel
theorem dL_law_857 : decode cL_law 857 = .ok (.aload_n 2, 1) := by decide +kernel
theorem dL_law_858 : decode cL_law 858 = .ok (.aload_n 0, 1) := by decide +kernel
theorem dL_law_859 : decode cL_law 859 = .ok (.iload 4, 2) := by decide +kernel
theorem dL_law_861 : decode cL_law 861 = .ok (.iconst 1, 1) := by decide +kernel
theorem dL_law_862 : decode cL_law 862 = .ok (.iadd, 1) := by decide +kernel
theorem dL_law_863 : decode cL_law 863 = .ok (.iaload, 1) := by decide +kernel
theorem dL_law_864 : decode cL_law 864 = .ok (.aload_n 0, 1) := by decide +kernel
theorem dL_law_865 : decode cL_law 865 = .ok (.iload 4, 2) := by decide +kernel
theorem dL_law_867 : decode cL_law 867 = .ok (.iconst 2, 1) := by decide +kernel
theorem dL_law_868 : decode cL_law 868 = .ok (.iadd, 1) := by decide +kernel
theorem dL_law_869 : decode cL_law 869 = .ok (.iaload, 1) := by decide +kernel
theorem dL_law_870 : decode cL_law 870 = .ok (.aload_n 0, 1) := by decide +kernel
theorem dL_law_871 : decode cL_law 871 = .ok (.iload 4, 2) := by decide +kernel
theorem dL_law_873 : decode cL_law 873 = .ok (.iconst 3, 1) := by decide +kernel
theorem dL_law_874 : decode cL_law 874 = .ok (.iadd, 1) := by decide +kernel
theorem dL_law_875 : decode cL_law 875 = .ok (.iaload, 1) := by decide +kernel
theorem dL_law_876 : decode cL_law 876 = .ok (.invokevirtual 88, 3) := by decide +kernel
theorem dL_law_879 : decode cL_law 879 = .ok (.if_icmp .eq 1103, 3) := by decide +kernel
theorem dL_law_882 : decode cL_law 882 = .ok (.iconst 0, 1) := by decide +kernel
theorem dL_law_883 : decode cL_law 883 = .ok (.ireturn, 1) := by decide +kernel
theorem dL_law_884 : decode cL_law 884 = .ok (.aload_n 1, 1) := by decide +kernel
theorem dL_law_885 : decode cL_law 885 = .ok (.aload_n 0, 1) := by decide +kernel
theorem dL_law_886 : decode cL_law 886 = .ok (.iload 4, 2) := by decide +kernel
theorem dL_law_888 : decode cL_law 888 = .ok (.iconst 1, 1) := by decide +kernel
theorem dL_law_889 : decode cL_law 889 = .ok (.iadd, 1) := by decide +kernel
theorem dL_law_890 : decode cL_law 890 = .ok (.iaload, 1) := by decide +kernel
theorem dL_law_891 : decode cL_law 891 = .ok (.invokevirtual 89, 3) := by decide +kernel
theorem dL_law_894 : decode cL_law 894 = .ok (.aload_n 2, 1) := by decide +kernel
theorem dL_law_895 : decode cL_law 895 = .ok (.aload_n 0, 1) := by decide +kernel
theorem dL_law_896 : decode cL_law 896 = .ok (.iload 4, 2) := by decide +kernel
theorem dL_law_898 : decode cL_law 898 = .ok (.iconst 1, 1) := by decide +kernel
theorem dL_law_899 : decode cL_law 899 = .ok (.iadd, 1) := by decide +kernel
theorem dL_law_900 : decode cL_law 900 = .ok (.iaload, 1) := by decide +kernel
theorem dL_law_901 : decode cL_law 901 = .ok (.invokevirtual 92, 3) := by decide +kernel
theorem dL_law_904 : decode cL_law 904 = .ok (.if_icmp .eq 1078, 3) := by decide +kernel
theorem dL_law_907 : decode cL_law 907 = .ok (.iconst 0, 1) := by decide +kernel
theorem dL_law_908 : decode cL_law 908 = .ok (.ireturn, 1) := by decide +kernel
theorem dL_law_909 : decode cL_law 909 = .ok (.aload_n 1, 1) := by decide +kernel
theorem dL_law_910 : decode cL_law 910 = .ok (.aload_n 0, 1) := by decide +kernel
theorem dL_law_911 : decode cL_law 911 = .ok (.iload 4, 2) := by decide +kernel
theorem dL_law_913 : decode cL_law 913 = .ok (.iconst 1, 1) := by decide +kernel
theorem dL_law_914 : decode cL_law 914 = .ok (.iadd, 1) := by decide +kernel
theorem dL_law_915 : decode cL_law 915 = .ok (.iaload, 1) := by decide +kernel
theorem dL_law_916 : decode cL_law 916 = .ok (.aload_n 0, 1) := by decide +kernel
theorem dL_law_917 : decode cL_law 917 = .ok (.iload 4, 2) := by decide +kernel
theorem dL_law_919 : decode cL_law 919 = .ok (.iconst 2, 1) := by decide +kernel
theorem dL_law_920 : decode cL_law 920 = .ok (.iadd, 1) := by decide +kernel
theorem dL_law_921 : decode cL_law 921 = .ok (.iaload, 1) := by decide +kernel
theorem dL_law_922 : decode cL_law 922 = .ok (.ifCond .eq 7, 3) := by decide +kernel
theorem dL_law_925 : decode cL_law 925 = .ok (.iconst 1, 1) := by decide +kernel
theorem dL_law_926 : decode cL_law 926 = .ok (.goto 4, 3) := by decide +kernel
theorem dL_law_929 : decode cL_law 929 = .ok (.iconst 0, 1) := by decide +kernel
theorem dL_law_930 : decode cL_law 930 = .ok (.invokevirtual 93, 3) := by decide +kernel
theorem dL_law_933 : decode cL_law 933 = .ok (.aload_n 2, 1) := by decide +kernel
theorem dL_law_934 : decode cL_law 934 = .ok (.aload_n 0, 1) := by decide +kernel
theorem dL_law_935 : decode cL_law 935 = .ok (.iload 4, 2) := by decide +kernel
theorem dL_law_937 : decode cL_law 937 = .ok (.iconst 1, 1) := by decide +kernel
theorem dL_law_938 : decode cL_law 938 = .ok (.iadd, 1) := by decide +kernel
theorem dL_law_939 : decode cL_law 939 = .ok (.iaload, 1) := by decide +kernel
theorem dL_law_940 : decode cL_law 940 = .ok (.aload_n 0, 1) := by decide +kernel
theorem dL_law_941 : decode cL_law 941 = .ok (.iload 4, 2) := by decide +kernel
theorem dL_law_943 : decode cL_law 943 = .ok (.iconst 2, 1) := by decide +kernel
theorem dL_law_944 : decode cL_law 944 = .ok (.iadd, 1) := by decide +kernel
theorem dL_law_945 : decode cL_law 945 = .ok (.iaload, 1) := by decide +kernel
theorem dL_law_946 : decode cL_law 946 = .ok (.ifCond .eq 7, 3) := by decide +kernel
theorem dL_law_949 : decode cL_law 949 = .ok (.iconst 1, 1) := by decide +kernel
theorem dL_law_950 : decode cL_law 950 = .ok (.goto 4, 3) := by decide +kernel
theorem dL_law_953 : decode cL_law 953 = .ok (.iconst 0, 1) := by decide +kernel
theorem dL_law_954 : decode cL_law 954 = .ok (.invokevirtual 97, 3) := by decide +kernel
theorem dL_law_957 : decode cL_law 957 = .ok (.if_icmp .eq 1025, 3) := by decide +kernel
theorem dL_law_960 : decode cL_law 960 = .ok (.iconst 0, 1) := by decide +kernel
theorem dL_law_961 : decode cL_law 961 = .ok (.ireturn, 1) := by decide +kernel
theorem dL_law_962 : decode cL_law 962 = .ok (.aload_n 1, 1) := by decide +kernel
theorem dL_law_963 : decode cL_law 963 = .ok (.aload_n 0, 1) := by decide +kernel
theorem dL_law_964 : decode cL_law 964 = .ok (.iload 4, 2) := by decide +kernel
theorem dL_law_966 : decode cL_law 966 = .ok (.iconst 1, 1) := by decide +kernel
theorem dL_law_967 : decode cL_law 967 = .ok (.iadd, 1) := by decide +kernel
theorem dL_law_968 : decode cL_law 968 = .ok (.iaload, 1) := by decide +kernel
theorem dL_law_969 : decode cL_law 969 = .ok (.invokevirtual 98, 3) := by decide +kernel
theorem dL_law_972 : decode cL_law 972 = .ok (.aload_n 2, 1) := by decide +kernel
theorem dL_law_973 : decode cL_law 973 = .ok (.aload_n 0, 1) := by decide +kernel
theorem dL_law_974 : decode cL_law 974 = .ok (.iload 4, 2) := by decide +kernel
theorem dL_law_976 : decode cL_law 976 = .ok (.iconst 1, 1) := by decide +kernel
theorem dL_law_977 : decode cL_law 977 = .ok (.iadd, 1) := by decide +kernel
theorem dL_law_978 : decode cL_law 978 = .ok (.iaload, 1) := by decide +kernel
theorem dL_law_979 : decode cL_law 979 = .ok (.invokevirtual 101, 3) := by decide +kernel
theorem dL_law_982 : decode cL_law 982 = .ok (.if_icmp .eq 1000, 3) := by decide +kernel
theorem dL_law_985 : decode cL_law 985 = .ok (.iconst 0, 1) := by decide +kernel
theorem dL_law_986 : decode cL_law 986 = .ok (.ireturn, 1) := by decide +kernel
theorem dL_law_987 : decode cL_law 987 = .ok (.aload_n 1, 1) := by decide +kernel
theorem dL_law_988 : decode cL_law 988 = .ok (.aload_n 0, 1) := by decide +kernel
theorem dL_law_989 : decode cL_law 989 = .ok (.iload 4, 2) := by decide +kernel
theorem dL_law_991 : decode cL_law 991 = .ok (.iconst 1, 1) := by decide +kernel
theorem dL_law_992 : decode cL_law 992 = .ok (.iadd, 1) := by decide +kernel
theorem dL_law_993 : decode cL_law 993 = .ok (.iaload, 1) := by decide +kernel
theorem dL_law_994 : decode cL_law 994 = .ok (.aload_n 0, 1) := by decide +kernel
theorem dL_law_995 : decode cL_law 995 = .ok (.iload 4, 2) := by decide +kernel
theorem dL_law_997 : decode cL_law 997 = .ok (.iconst 2, 1) := by decide +kernel
theorem dL_law_998 : decode cL_law 998 = .ok (.iadd, 1) := by decide +kernel
theorem dL_law_999 : decode cL_law 999 = .ok (.iaload, 1) := by decide +kernel
theorem dL_law_1000 : decode cL_law 1000 = .ok (.invokevirtual 102, 3) := by decide +kernel
theorem dL_law_1003 : decode cL_law 1003 = .ok (.aload_n 2, 1) := by decide +kernel
theorem dL_law_1004 : decode cL_law 1004 = .ok (.aload_n 0, 1) := by decide +kernel
theorem dL_law_1005 : decode cL_law 1005 = .ok (.iload 4, 2) := by decide +kernel
theorem dL_law_1007 : decode cL_law 1007 = .ok (.iconst 1, 1) := by decide +kernel
theorem dL_law_1008 : decode cL_law 1008 = .ok (.iadd, 1) := by decide +kernel
theorem dL_law_1009 : decode cL_law 1009 = .ok (.iaload, 1) := by decide +kernel
theorem dL_law_1010 : decode cL_law 1010 = .ok (.aload_n 0, 1) := by decide +kernel
theorem dL_law_1011 : decode cL_law 1011 = .ok (.iload 4, 2) := by decide +kernel
theorem dL_law_1013 : decode cL_law 1013 = .ok (.iconst 2, 1) := by decide +kernel
theorem dL_law_1014 : decode cL_law 1014 = .ok (.iadd, 1) := by decide +kernel
theorem dL_law_1015 : decode cL_law 1015 = .ok (.iaload, 1) := by decide +kernel
theorem dL_law_1016 : decode cL_law 1016 = .ok (.invokevirtual 105, 3) := by decide +kernel
theorem dL_law_1019 : decode cL_law 1019 = .ok (.if_icmp .eq 963, 3) := by decide +kernel
theorem dL_law_1022 : decode cL_law 1022 = .ok (.iconst 0, 1) := by decide +kernel
theorem dL_law_1023 : decode cL_law 1023 = .ok (.ireturn, 1) := by decide +kernel
theorem dL_law_1024 : decode cL_law 1024 = .ok (.aload_n 1, 1) := by decide +kernel
theorem dL_law_1025 : decode cL_law 1025 = .ok (.aload_n 0, 1) := by decide +kernel
theorem dL_law_1026 : decode cL_law 1026 = .ok (.iload 4, 2) := by decide +kernel
theorem dL_law_1028 : decode cL_law 1028 = .ok (.iconst 1, 1) := by decide +kernel
theorem dL_law_1029 : decode cL_law 1029 = .ok (.iadd, 1) := by decide +kernel
theorem dL_law_1030 : decode cL_law 1030 = .ok (.iaload, 1) := by decide +kernel
theorem dL_law_1031 : decode cL_law 1031 = .ok (.aload_n 0, 1) := by decide +kernel
theorem dL_law_1032 : decode cL_law 1032 = .ok (.iload 4, 2) := by decide +kernel
theorem dL_law_1034 : decode cL_law 1034 = .ok (.iconst 2, 1) := by decide +kernel
theorem dL_law_1035 : decode cL_law 1035 = .ok (.iadd, 1) := by decide +kernel
theorem dL_law_1036 : decode cL_law 1036 = .ok (.iaload, 1) := by decide +kernel
theorem dL_law_1037 : decode cL_law 1037 = .ok (.invokevirtual 106, 3) := by decide +kernel
theorem dL_law_1040 : decode cL_law 1040 = .ok (.aload_n 2, 1) := by decide +kernel
theorem dL_law_1041 : decode cL_law 1041 = .ok (.aload_n 0, 1) := by decide +kernel
theorem dL_law_1042 : decode cL_law 1042 = .ok (.iload 4, 2) := by decide +kernel
theorem dL_law_1044 : decode cL_law 1044 = .ok (.iconst 1, 1) := by decide +kernel
theorem dL_law_1045 : decode cL_law 1045 = .ok (.iadd, 1) := by decide +kernel
theorem dL_law_1046 : decode cL_law 1046 = .ok (.iaload, 1) := by decide +kernel
theorem dL_law_1047 : decode cL_law 1047 = .ok (.aload_n 0, 1) := by decide +kernel
theorem dL_law_1048 : decode cL_law 1048 = .ok (.iload 4, 2) := by decide +kernel
theorem dL_law_1050 : decode cL_law 1050 = .ok (.iconst 2, 1) := by decide +kernel
theorem dL_law_1051 : decode cL_law 1051 = .ok (.iadd, 1) := by decide +kernel
theorem dL_law_1052 : decode cL_law 1052 = .ok (.iaload, 1) := by decide +kernel
theorem dL_law_1053 : decode cL_law 1053 = .ok (.invokevirtual 109, 3) := by decide +kernel
theorem dL_law_1056 : decode cL_law 1056 = .ok (.if_icmp .eq 926, 3) := by decide +kernel
theorem dL_law_1059 : decode cL_law 1059 = .ok (.iconst 0, 1) := by decide +kernel
theorem dL_law_1060 : decode cL_law 1060 = .ok (.ireturn, 1) := by decide +kernel
theorem dL_law_1061 : decode cL_law 1061 = .ok (.aload_n 1, 1) := by decide +kernel
theorem dL_law_1062 : decode cL_law 1062 = .ok (.aload_n 0, 1) := by decide +kernel
theorem dL_law_1063 : decode cL_law 1063 = .ok (.iload 4, 2) := by decide +kernel
theorem dL_law_1065 : decode cL_law 1065 = .ok (.iconst 1, 1) := by decide +kernel
theorem dL_law_1066 : decode cL_law 1066 = .ok (.iadd, 1) := by decide +kernel
theorem dL_law_1067 : decode cL_law 1067 = .ok (.iaload, 1) := by decide +kernel
theorem dL_law_1068 : decode cL_law 1068 = .ok (.invokevirtual 110, 3) := by decide +kernel
theorem dL_law_1071 : decode cL_law 1071 = .ok (.aload_n 2, 1) := by decide +kernel
theorem dL_law_1072 : decode cL_law 1072 = .ok (.aload_n 0, 1) := by decide +kernel
theorem dL_law_1073 : decode cL_law 1073 = .ok (.iload 4, 2) := by decide +kernel
theorem dL_law_1075 : decode cL_law 1075 = .ok (.iconst 1, 1) := by decide +kernel
theorem dL_law_1076 : decode cL_law 1076 = .ok (.iadd, 1) := by decide +kernel
theorem dL_law_1077 : decode cL_law 1077 = .ok (.iaload, 1) := by decide +kernel
theorem dL_law_1078 : decode cL_law 1078 = .ok (.invokevirtual 113, 3) := by decide +kernel
theorem dL_law_1081 : decode cL_law 1081 = .ok (.if_icmp .eq 901, 3) := by decide +kernel
theorem dL_law_1084 : decode cL_law 1084 = .ok (.iconst 0, 1) := by decide +kernel
theorem dL_law_1085 : decode cL_law 1085 = .ok (.ireturn, 1) := by decide +kernel
theorem dL_law_1086 : decode cL_law 1086 = .ok (.aload_n 1, 1) := by decide +kernel
theorem dL_law_1087 : decode cL_law 1087 = .ok (.aload_n 0, 1) := by decide +kernel
theorem dL_law_1088 : decode cL_law 1088 = .ok (.iload 4, 2) := by decide +kernel
theorem dL_law_1090 : decode cL_law 1090 = .ok (.iconst 1, 1) := by decide +kernel
theorem dL_law_1091 : decode cL_law 1091 = .ok (.iadd, 1) := by decide +kernel
theorem dL_law_1092 : decode cL_law 1092 = .ok (.iaload, 1) := by decide +kernel
theorem dL_law_1093 : decode cL_law 1093 = .ok (.invokevirtual 114, 3) := by decide +kernel
theorem dL_law_1096 : decode cL_law 1096 = .ok (.aload_n 2, 1) := by decide +kernel
theorem dL_law_1097 : decode cL_law 1097 = .ok (.aload_n 0, 1) := by decide +kernel
theorem dL_law_1098 : decode cL_law 1098 = .ok (.iload 4, 2) := by decide +kernel
theorem dL_law_1100 : decode cL_law 1100 = .ok (.iconst 1, 1) := by decide +kernel
theorem dL_law_1101 : decode cL_law 1101 = .ok (.iadd, 1) := by decide +kernel
theorem dL_law_1102 : decode cL_law 1102 = .ok (.iaload, 1) := by decide +kernel
theorem dL_law_1103 : decode cL_law 1103 = .ok (.invokevirtual 117, 3) := by decide +kernel
theorem dL_law_1106 : decode cL_law 1106 = .ok (.if_icmp .eq 876, 3) := by decide +kernel
theorem dL_law_1109 : decode cL_law 1109 = .ok (.iconst 0, 1) := by decide +kernel
theorem dL_law_1110 : decode cL_law 1110 = .ok (.ireturn, 1) := by decide +kernel
theorem dL_law_1111 : decode cL_law 1111 = .ok (.aload_n 1, 1) := by decide +kernel
theorem dL_law_1112 : decode cL_law 1112 = .ok (.aload_n 0, 1) := by decide +kernel
theorem dL_law_1113 : decode cL_law 1113 = .ok (.iload 4, 2) := by decide +kernel
theorem dL_law_1115 : decode cL_law 1115 = .ok (.iconst 1, 1) := by decide +kernel
theorem dL_law_1116 : decode cL_law 1116 = .ok (.iadd, 1) := by decide +kernel
theorem dL_law_1117 : decode cL_law 1117 = .ok (.iaload, 1) := by decide +kernel
theorem dL_law_1118 : decode cL_law 1118 = .ok (.invokevirtual 118, 3) := by decide +kernel
theorem dL_law_1121 : decode cL_law 1121 = .ok (.aload_n 2, 1) := by decide +kernel
theorem dL_law_1122 : decode cL_law 1122 = .ok (.aload_n 0, 1) := by decide +kernel
theorem dL_law_1123 : decode cL_law 1123 = .ok (.iload 4, 2) := by decide +kernel
theorem dL_law_1125 : decode cL_law 1125 = .ok (.iconst 1, 1) := by decide +kernel
theorem dL_law_1126 : decode cL_law 1126 = .ok (.iadd, 1) := by decide +kernel
theorem dL_law_1127 : decode cL_law 1127 = .ok (.iaload, 1) := by decide +kernel
theorem dL_law_1128 : decode cL_law 1128 = .ok (.invokevirtual 121, 3) := by decide +kernel
theorem dL_law_1131 : decode cL_law 1131 = .ok (.if_icmp .eq 851, 3) := by decide +kernel
theorem dL_law_1134 : decode cL_law 1134 = .ok (.iconst 0, 1) := by decide +kernel
theorem dL_law_1135 : decode cL_law 1135 = .ok (.ireturn, 1) := by decide +kernel
theorem dL_law_1136 : decode cL_law 1136 = .ok (.aload_n 1, 1) := by decide +kernel
theorem dL_law_1137 : decode cL_law 1137 = .ok (.aload_n 0, 1) := by decide +kernel
theorem dL_law_1138 : decode cL_law 1138 = .ok (.iload 4, 2) := by decide +kernel
theorem dL_law_1140 : decode cL_law 1140 = .ok (.iconst 1, 1) := by decide +kernel
theorem dL_law_1141 : decode cL_law 1141 = .ok (.iadd, 1) := by decide +kernel
theorem dL_law_1142 : decode cL_law 1142 = .ok (.iaload, 1) := by decide +kernel
theorem dL_law_1143 : decode cL_law 1143 = .ok (.aload_n 0, 1) := by decide +kernel
theorem dL_law_1144 : decode cL_law 1144 = .ok (.iload 4, 2) := by decide +kernel
theorem dL_law_1146 : decode cL_law 1146 = .ok (.iconst 2, 1) := by decide +kernel
theorem dL_law_1147 : decode cL_law 1147 = .ok (.iadd, 1) := by decide +kernel
theorem dL_law_1148 : decode cL_law 1148 = .ok (.iaload, 1) := by decide +kernel
theorem dL_law_1149 : decode cL_law 1149 = .ok (.invokevirtual 122, 3) := by decide +kernel
theorem dL_law_1152 : decode cL_law 1152 = .ok (.aload_n 2, 1) := by decide +kernel
theorem dL_law_1153 : decode cL_law 1153 = .ok (.aload_n 0, 1) := by decide +kernel
theorem dL_law_1154 : decode cL_law 1154 = .ok (.iload 4, 2) := by decide +kernel
theorem dL_law_1156 : decode cL_law 1156 = .ok (.iconst 1, 1) := by decide +kernel
theorem dL_law_1157 : decode cL_law 1157 = .ok (.iadd, 1) := by decide +kernel
theorem dL_law_1158 : decode cL_law 1158 = .ok (.iaload, 1) := by decide +kernel
theorem dL_law_1159 : decode cL_law 1159 = .ok (.aload_n 0, 1) := by decide +kernel
theorem dL_law_1160 : decode cL_law 1160 = .ok (.iload 4, 2) := by decide +kernel
theorem dL_law_1162 : decode cL_law 1162 = .ok (.iconst 2, 1) := by decide +kernel
theorem dL_law_1163 : decode cL_law 1163 = .ok (.iadd, 1) := by decide +kernel
theorem dL_law_1164 : decode cL_law 1164 = .ok (.iaload, 1) := by decide +kernel
theorem dL_law_1165 : decode cL_law 1165 = .ok (.invokevirtual 125, 3) := by decide +kernel
theorem dL_law_1168 : decode cL_law 1168 = .ok (.if_icmp .eq 814, 3) := by decide +kernel
theorem dL_law_1171 : decode cL_law 1171 = .ok (.iconst 0, 1) := by decide +kernel
theorem dL_law_1172 : decode cL_law 1172 = .ok (.ireturn, 1) := by decide +kernel
theorem dL_law_1173 : decode cL_law 1173 = .ok (.aload_n 1, 1) := by decide +kernel
theorem dL_law_1174 : decode cL_law 1174 = .ok (.aload_n 0, 1) := by decide +kernel
theorem dL_law_1175 : decode cL_law 1175 = .ok (.iload 4, 2) := by decide +kernel
theorem dL_law_1177 : decode cL_law 1177 = .ok (.iconst 1, 1) := by decide +kernel
theorem dL_law_1178 : decode cL_law 1178 = .ok (.iadd, 1) := by decide +kernel
theorem dL_law_1179 : decode cL_law 1179 = .ok (.iaload, 1) := by decide +kernel
theorem dL_law_1180 : decode cL_law 1180 = .ok (.aload_n 0, 1) := by decide +kernel
theorem dL_law_1181 : decode cL_law 1181 = .ok (.iload 4, 2) := by decide +kernel
theorem dL_law_1183 : decode cL_law 1183 = .ok (.iconst 2, 1) := by decide +kernel
theorem dL_law_1184 : decode cL_law 1184 = .ok (.iadd, 1) := by decide +kernel
theorem dL_law_1185 : decode cL_law 1185 = .ok (.iaload, 1) := by decide +kernel
theorem dL_law_1186 : decode cL_law 1186 = .ok (.invokevirtual 126, 3) := by decide +kernel
theorem dL_law_1189 : decode cL_law 1189 = .ok (.aload_n 2, 1) := by decide +kernel
theorem dL_law_1190 : decode cL_law 1190 = .ok (.aload_n 0, 1) := by decide +kernel
theorem dL_law_1191 : decode cL_law 1191 = .ok (.iload 4, 2) := by decide +kernel
theorem dL_law_1193 : decode cL_law 1193 = .ok (.iconst 1, 1) := by decide +kernel
theorem dL_law_1194 : decode cL_law 1194 = .ok (.iadd, 1) := by decide +kernel
theorem dL_law_1195 : decode cL_law 1195 = .ok (.iaload, 1) := by decide +kernel
theorem dL_law_1196 : decode cL_law 1196 = .ok (.aload_n 0, 1) := by decide +kernel
theorem dL_law_1197 : decode cL_law 1197 = .ok (.iload 4, 2) := by decide +kernel
theorem dL_law_1199 : decode cL_law 1199 = .ok (.iconst 2, 1) := by decide +kernel
theorem dL_law_1200 : decode cL_law 1200 = .ok (.iadd, 1) := by decide +kernel
theorem dL_law_1201 : decode cL_law 1201 = .ok (.iaload, 1) := by decide +kernel
theorem dL_law_1202 : decode cL_law 1202 = .ok (.invokevirtual 129, 3) := by decide +kernel
theorem dL_law_1205 : decode cL_law 1205 = .ok (.if_icmp .eq 777, 3) := by decide +kernel
theorem dL_law_1208 : decode cL_law 1208 = .ok (.iconst 0, 1) := by decide +kernel
theorem dL_law_1209 : decode cL_law 1209 = .ok (.ireturn, 1) := by decide +kernel
theorem dL_law_1210 : decode cL_law 1210 = .ok (.aload_n 1, 1) := by decide +kernel
theorem dL_law_1211 : decode cL_law 1211 = .ok (.aload_n 0, 1) := by decide +kernel
theorem dL_law_1212 : decode cL_law 1212 = .ok (.iload 4, 2) := by decide +kernel
theorem dL_law_1214 : decode cL_law 1214 = .ok (.iconst 1, 1) := by decide +kernel
theorem dL_law_1215 : decode cL_law 1215 = .ok (.iadd, 1) := by decide +kernel
theorem dL_law_1216 : decode cL_law 1216 = .ok (.iaload, 1) := by decide +kernel
theorem dL_law_1217 : decode cL_law 1217 = .ok (.aload_n 0, 1) := by decide +kernel
theorem dL_law_1218 : decode cL_law 1218 = .ok (.iload 4, 2) := by decide +kernel
theorem dL_law_1220 : decode cL_law 1220 = .ok (.iconst 2, 1) := by decide +kernel
theorem dL_law_1221 : decode cL_law 1221 = .ok (.iadd, 1) := by decide +kernel
theorem dL_law_1222 : decode cL_law 1222 = .ok (.iaload, 1) := by decide +kernel
theorem dL_law_1223 : decode cL_law 1223 = .ok (.invokevirtual 130, 3) := by decide +kernel
theorem dL_law_1226 : decode cL_law 1226 = .ok (.aload_n 2, 1) := by decide +kernel
theorem dL_law_1227 : decode cL_law 1227 = .ok (.aload_n 0, 1) := by decide +kernel
theorem dL_law_1228 : decode cL_law 1228 = .ok (.iload 4, 2) := by decide +kernel
theorem dL_law_1230 : decode cL_law 1230 = .ok (.iconst 1, 1) := by decide +kernel
theorem dL_law_1231 : decode cL_law 1231 = .ok (.iadd, 1) := by decide +kernel
theorem dL_law_1232 : decode cL_law 1232 = .ok (.iaload, 1) := by decide +kernel
theorem dL_law_1233 : decode cL_law 1233 = .ok (.aload_n 0, 1) := by decide +kernel
theorem dL_law_1234 : decode cL_law 1234 = .ok (.iload 4, 2) := by decide +kernel
theorem dL_law_1236 : decode cL_law 1236 = .ok (.iconst 2, 1) := by decide +kernel
theorem dL_law_1237 : decode cL_law 1237 = .ok (.iadd, 1) := by decide +kernel
theorem dL_law_1238 : decode cL_law 1238 = .ok (.iaload, 1) := by decide +kernel
theorem dL_law_1239 : decode cL_law 1239 = .ok (.invokevirtual 133, 3) := by decide +kernel
theorem dL_law_1242 : decode cL_law 1242 = .ok (.if_icmp .eq 740, 3) := by decide +kernel
theorem dL_law_1245 : decode cL_law 1245 = .ok (.iconst 0, 1) := by decide +kernel
theorem dL_law_1246 : decode cL_law 1246 = .ok (.ireturn, 1) := by decide +kernel
theorem dL_law_1247 : decode cL_law 1247 = .ok (.aload_n 1, 1) := by decide +kernel
theorem dL_law_1248 : decode cL_law 1248 = .ok (.invokevirtual 134, 3) := by decide +kernel
theorem dL_law_1251 : decode cL_law 1251 = .ok (.aload_n 2, 1) := by decide +kernel
theorem dL_law_1252 : decode cL_law 1252 = .ok (.invokevirtual 137, 3) := by decide +kernel
theorem dL_law_1255 : decode cL_law 1255 = .ok (.if_icmp .eq 727, 3) := by decide +kernel
theorem dL_law_1258 : decode cL_law 1258 = .ok (.iconst 0, 1) := by decide +kernel
theorem dL_law_1259 : decode cL_law 1259 = .ok (.ireturn, 1) := by decide +kernel
theorem dL_law_1260 : decode cL_law 1260 = .ok (.aload_n 1, 1) := by decide +kernel
theorem dL_law_1261 : decode cL_law 1261 = .ok (.aload_n 0, 1) := by decide +kernel
theorem dL_law_1262 : decode cL_law 1262 = .ok (.iload 4, 2) := by decide +kernel
theorem dL_law_1264 : decode cL_law 1264 = .ok (.iconst 1, 1) := by decide +kernel
theorem dL_law_1265 : decode cL_law 1265 = .ok (.iadd, 1) := by decide +kernel
theorem dL_law_1266 : decode cL_law 1266 = .ok (.iaload, 1) := by decide +kernel
theorem dL_law_1267 : decode cL_law 1267 = .ok (.invokevirtual 138, 3) := by decide +kernel
theorem dL_law_1270 : decode cL_law 1270 = .ok (.aload_n 2, 1) := by decide +kernel
theorem dL_law_1271 : decode cL_law 1271 = .ok (.aload_n 0, 1) := by decide +kernel
theorem dL_law_1272 : decode cL_law 1272 = .ok (.iload 4, 2) := by decide +kernel
theorem dL_law_1274 : decode cL_law 1274 = .ok (.iconst 1, 1) := by decide +kernel
theorem dL_law_1275 : decode cL_law 1275 = .ok (.iadd, 1) := by decide +kernel
theorem dL_law_1276 : decode cL_law 1276 = .ok (.iaload, 1) := by decide +kernel
theorem dL_law_1277 : decode cL_law 1277 = .ok (.invokevirtual 141, 3) := by decide +kernel
theorem dL_law_1280 : decode cL_law 1280 = .ok (.if_icmp .eq 702, 3) := by decide +kernel
theorem dL_law_1283 : decode cL_law 1283 = .ok (.iconst 0, 1) := by decide +kernel
theorem dL_law_1284 : decode cL_law 1284 = .ok (.ireturn, 1) := by decide +kernel
theorem dL_law_1285 : decode cL_law 1285 = .ok (.aload_n 1, 1) := by decide +kernel
theorem dL_law_1286 : decode cL_law 1286 = .ok (.invokevirtual 142, 3) := by decide +kernel
theorem dL_law_1289 : decode cL_law 1289 = .ok (.aload_n 2, 1) := by decide +kernel
theorem dL_law_1290 : decode cL_law 1290 = .ok (.invokevirtual 145, 3) := by decide +kernel
theorem dL_law_1293 : decode cL_law 1293 = .ok (.if_icmp .eq 689, 3) := by decide +kernel
theorem dL_law_1296 : decode cL_law 1296 = .ok (.iconst 0, 1) := by decide +kernel
theorem dL_law_1297 : decode cL_law 1297 = .ok (.ireturn, 1) := by decide +kernel
theorem dL_law_1298 : decode cL_law 1298 = .ok (.aload_n 1, 1) := by decide +kernel
theorem dL_law_1299 : decode cL_law 1299 = .ok (.aload_n 0, 1) := by decide +kernel
theorem dL_law_1300 : decode cL_law 1300 = .ok (.iload 4, 2) := by decide +kernel
theorem dL_law_1302 : decode cL_law 1302 = .ok (.iconst 1, 1) := by decide +kernel
theorem dL_law_1303 : decode cL_law 1303 = .ok (.iadd, 1) := by decide +kernel
theorem dL_law_1304 : decode cL_law 1304 = .ok (.iaload, 1) := by decide +kernel
theorem dL_law_1305 : decode cL_law 1305 = .ok (.invokevirtual 146, 3) := by decide +kernel
theorem dL_law_1308 : decode cL_law 1308 = .ok (.aload_n 2, 1) := by decide +kernel
theorem dL_law_1309 : decode cL_law 1309 = .ok (.aload_n 0, 1) := by decide +kernel
theorem dL_law_1310 : decode cL_law 1310 = .ok (.iload 4, 2) := by decide +kernel
theorem dL_law_1312 : decode cL_law 1312 = .ok (.iconst 1, 1) := by decide +kernel
theorem dL_law_1313 : decode cL_law 1313 = .ok (.iadd, 1) := by decide +kernel
theorem dL_law_1314 : decode cL_law 1314 = .ok (.iaload, 1) := by decide +kernel
theorem dL_law_1315 : decode cL_law 1315 = .ok (.invokevirtual 149, 3) := by decide +kernel
theorem dL_law_1318 : decode cL_law 1318 = .ok (.if_icmp .eq 664, 3) := by decide +kernel
theorem dL_law_1321 : decode cL_law 1321 = .ok (.iconst 0, 1) := by decide +kernel
theorem dL_law_1322 : decode cL_law 1322 = .ok (.ireturn, 1) := by decide +kernel
theorem dL_law_1323 : decode cL_law 1323 = .ok (.aload_n 1, 1) := by decide +kernel
theorem dL_law_1324 : decode cL_law 1324 = .ok (.aload_n 0, 1) := by decide +kernel
theorem dL_law_1325 : decode cL_law 1325 = .ok (.iload 4, 2) := by decide +kernel
theorem dL_law_1327 : decode cL_law 1327 = .ok (.iconst 1, 1) := by decide +kernel
theorem dL_law_1328 : decode cL_law 1328 = .ok (.iadd, 1) := by decide +kernel
theorem dL_law_1329 : decode cL_law 1329 = .ok (.iaload, 1) := by decide +kernel
theorem dL_law_1330 : decode cL_law 1330 = .ok (.invokevirtual 150, 3) := by decide +kernel
theorem dL_law_1333 : decode cL_law 1333 = .ok (.aload_n 2, 1) := by decide +kernel
theorem dL_law_1334 : decode cL_law 1334 = .ok (.aload_n 0, 1) := by decide +kernel
theorem dL_law_1335 : decode cL_law 1335 = .ok (.iload 4, 2) := by decide +kernel
theorem dL_law_1337 : decode cL_law 1337 = .ok (.iconst 1, 1) := by decide +kernel
theorem dL_law_1338 : decode cL_law 1338 = .ok (.iadd, 1) := by decide +kernel
theorem dL_law_1339 : decode cL_law 1339 = .ok (.iaload, 1) := by decide +kernel
theorem dL_law_1340 : decode cL_law 1340 = .ok (.invokevirtual 153, 3) := by decide +kernel
theorem dL_law_1343 : decode cL_law 1343 = .ok (.if_icmp .eq 639, 3) := by decide +kernel
theorem dL_law_1346 : decode cL_law 1346 = .ok (.iconst 0, 1) := by decide +kernel
theorem dL_law_1347 : decode cL_law 1347 = .ok (.ireturn, 1) := by decide +kernel
theorem dL_law_1348 : decode cL_law 1348 = .ok (.aload_n 1, 1) := by decide +kernel
theorem dL_law_1349 : decode cL_law 1349 = .ok (.invokevirtual 154, 3) := by decide +kernel
theorem dL_law_1352 : decode cL_law 1352 = .ok (.aload_n 2, 1) := by decide +kernel
theorem dL_law_1353 : decode cL_law 1353 = .ok (.invokevirtual 157, 3) := by decide +kernel
theorem dL_law_1356 : decode cL_law 1356 = .ok (.if_icmp .eq 626, 3) := by decide +kernel
theorem dL_law_1359 : decode cL_law 1359 = .ok (.iconst 0, 1) := by decide +kernel
theorem dL_law_1360 : decode cL_law 1360 = .ok (.ireturn, 1) := by decide +kernel
theorem dL_law_1361 : decode cL_law 1361 = .ok (.aload_n 1, 1) := by decide +kernel
theorem dL_law_1362 : decode cL_law 1362 = .ok (.invokevirtual 158, 3) := by decide +kernel
theorem dL_law_1365 : decode cL_law 1365 = .ok (.aload_n 2, 1) := by decide +kernel
theorem dL_law_1366 : decode cL_law 1366 = .ok (.invokevirtual 161, 3) := by decide +kernel
theorem dL_law_1369 : decode cL_law 1369 = .ok (.if_icmp .eq 613, 3) := by decide +kernel
theorem dL_law_1372 : decode cL_law 1372 = .ok (.iconst 0, 1) := by decide +kernel
theorem dL_law_1373 : decode cL_law 1373 = .ok (.ireturn, 1) := by decide +kernel
theorem dL_law_1374 : decode cL_law 1374 = .ok (.aload_n 1, 1) := by decide +kernel
theorem dL_law_1375 : decode cL_law 1375 = .ok (.invokevirtual 162, 3) := by decide +kernel
theorem dL_law_1378 : decode cL_law 1378 = .ok (.aload_n 2, 1) := by decide +kernel
theorem dL_law_1379 : decode cL_law 1379 = .ok (.invokevirtual 165, 3) := by decide +kernel
theorem dL_law_1382 : decode cL_law 1382 = .ok (.if_icmp .eq 600, 3) := by decide +kernel
theorem dL_law_1385 : decode cL_law 1385 = .ok (.iconst 0, 1) := by decide +kernel
theorem dL_law_1386 : decode cL_law 1386 = .ok (.ireturn, 1) := by decide +kernel
theorem dL_law_1387 : decode cL_law 1387 = .ok (.aload_n 1, 1) := by decide +kernel
theorem dL_law_1388 : decode cL_law 1388 = .ok (.aload_n 0, 1) := by decide +kernel
theorem dL_law_1389 : decode cL_law 1389 = .ok (.iload 4, 2) := by decide +kernel
theorem dL_law_1391 : decode cL_law 1391 = .ok (.iconst 1, 1) := by decide +kernel
theorem dL_law_1392 : decode cL_law 1392 = .ok (.iadd, 1) := by decide +kernel
theorem dL_law_1393 : decode cL_law 1393 = .ok (.iaload, 1) := by decide +kernel
theorem dL_law_1394 : decode cL_law 1394 = .ok (.aload_n 0, 1) := by decide +kernel
theorem dL_law_1395 : decode cL_law 1395 = .ok (.iload 4, 2) := by decide +kernel
theorem dL_law_1397 : decode cL_law 1397 = .ok (.iconst 2, 1) := by decide +kernel
theorem dL_law_1398 : decode cL_law 1398 = .ok (.iadd, 1) := by decide +kernel
theorem dL_law_1399 : decode cL_law 1399 = .ok (.iaload, 1) := by decide +kernel
theorem dL_law_1400 : decode cL_law 1400 = .ok (.aload_n 0, 1) := by decide +kernel
theorem dL_law_1401 : decode cL_law 1401 = .ok (.iload 4, 2) := by decide +kernel
theorem dL_law_1403 : decode cL_law 1403 = .ok (.iconst 3, 1) := by decide +kernel
theorem dL_law_1404 : decode cL_law 1404 = .ok (.iadd, 1) := by decide +kernel
theorem dL_law_1405 : decode cL_law 1405 = .ok (.iaload, 1) := by decide +kernel
theorem dL_law_1406 : decode cL_law 1406 = .ok (.aload_n 0, 1) := by decide +kernel
theorem dL_law_1407 : decode cL_law 1407 = .ok (.iload 4, 2) := by decide +kernel
theorem dL_law_1409 : decode cL_law 1409 = .ok (.iconst 4, 1) := by decide +kernel
theorem dL_law_1410 : decode cL_law 1410 = .ok (.iadd, 1) := by decide +kernel
theorem dL_law_1411 : decode cL_law 1411 = .ok (.iaload, 1) := by decide +kernel
theorem dL_law_1412 : decode cL_law 1412 = .ok (.ifCond .eq 7, 3) := by decide +kernel
theorem dL_law_1415 : decode cL_law 1415 = .ok (.iconst 1, 1) := by decide +kernel
theorem dL_law_1416 : decode cL_law 1416 = .ok (.goto 4, 3) := by decide +kernel
theorem dL_law_1419 : decode cL_law 1419 = .ok (.iconst 0, 1) := by decide +kernel
theorem dL_law_1420 : decode cL_law 1420 = .ok (.invokevirtual 166, 3) := by decide +kernel
theorem dL_law_1423 : decode cL_law 1423 = .ok (.aload_n 2, 1) := by decide +kernel
theorem dL_law_1424 : decode cL_law 1424 = .ok (.aload_n 0, 1) := by decide +kernel
theorem dL_law_1425 : decode cL_law 1425 = .ok (.iload 4, 2) := by decide +kernel
theorem dL_law_1427 : decode cL_law 1427 = .ok (.iconst 1, 1) := by decide +kernel
theorem dL_law_1428 : decode cL_law 1428 = .ok (.iadd, 1) := by decide +kernel
theorem dL_law_1429 : decode cL_law 1429 = .ok (.iaload, 1) := by decide +kernel
theorem dL_law_1430 : decode cL_law 1430 = .ok (.aload_n 0, 1) := by decide +kernel
theorem dL_law_1431 : decode cL_law 1431 = .ok (.iload 4, 2) := by decide +kernel
theorem dL_law_1433 : decode cL_law 1433 = .ok (.iconst 2, 1) := by decide +kernel
theorem dL_law_1434 : decode cL_law 1434 = .ok (.iadd, 1) := by decide +kernel
theorem dL_law_1435 : decode cL_law 1435 = .ok (.iaload, 1) := by decide +kernel
theorem dL_law_1436 : decode cL_law 1436 = .ok (.aload_n 0, 1) := by decide +kernel
theorem dL_law_1437 : decode cL_law 1437 = .ok (.iload 4, 2) := by decide +kernel
theorem dL_law_1439 : decode cL_law 1439 = .ok (.iconst 3, 1) := by decide +kernel
theorem dL_law_1440 : decode cL_law 1440 = .ok (.iadd, 1) := by decide +kernel
theorem dL_law_1441 : decode cL_law 1441 = .ok (.iaload, 1) := by decide +kernel
theorem dL_law_1442 : decode cL_law 1442 = .ok (.aload_n 0, 1) := by decide +kernel
theorem dL_law_1443 : decode cL_law 1443 = .ok (.iload 4, 2) := by decide +kernel
theorem dL_law_1445 : decode cL_law 1445 = .ok (.iconst 4, 1) := by decide +kernel
theorem dL_law_1446 : decode cL_law 1446 = .ok (.iadd, 1) := by decide +kernel
theorem dL_law_1447 : decode cL_law 1447 = .ok (.iaload, 1) := by decide +kernel
theorem dL_law_1448 : decode cL_law 1448 = .ok (.ifCond .eq 7, 3) := by decide +kernel
theorem dL_law_1451 : decode cL_law 1451 = .ok (.iconst 1, 1) := by decide +kernel
theorem dL_law_1452 : decode cL_law 1452 = .ok (.goto 4, 3) := by decide +kernel
theorem dL_law_1455 : decode cL_law 1455 = .ok (.iconst 0, 1) := by decide +kernel
theorem dL_law_1456 : decode cL_law 1456 = .ok (.invokevirtual 169, 3) := by decide +kernel
theorem dL_law_1459 : decode cL_law 1459 = .ok (.if_icmp .eq 523, 3) := by decide +kernel
theorem dL_law_1462 : decode cL_law 1462 = .ok (.iconst 0, 1) := by decide +kernel
theorem dL_law_1463 : decode cL_law 1463 = .ok (.ireturn, 1) := by decide +kernel
theorem dL_law_1464 : decode cL_law 1464 = .ok (.aload_n 1, 1) := by decide +kernel
theorem dL_law_1465 : decode cL_law 1465 = .ok (.aload_n 0, 1) := by decide +kernel
theorem dL_law_1466 : decode cL_law 1466 = .ok (.iload 4, 2) := by decide +kernel
theorem dL_law_1468 : decode cL_law 1468 = .ok (.iconst 1, 1) := by decide +kernel
theorem dL_law_1469 : decode cL_law 1469 = .ok (.iadd, 1) := by decide +kernel
theorem dL_law_1470 : decode cL_law 1470 = .ok (.iaload, 1) := by decide +kernel
theorem dL_law_1471 : decode cL_law 1471 = .ok (.invokevirtual 170, 3) := by decide +kernel
theorem dL_law_1474 : decode cL_law 1474 = .ok (.aload_n 2, 1) := by decide +kernel
theorem dL_law_1475 : decode cL_law 1475 = .ok (.aload_n 0, 1) := by decide +kernel
theorem dL_law_1476 : decode cL_law 1476 = .ok (.iload 4, 2) := by decide +kernel
theorem dL_law_1478 : decode cL_law 1478 = .ok (.iconst 1, 1) := by decide +kernel
theorem dL_law_1479 : decode cL_law 1479 = .ok (.iadd, 1) := by decide +kernel
theorem dL_law_1480 : decode cL_law 1480 = .ok (.iaload, 1) := by decide +kernel
theorem dL_law_1481 : decode cL_law 1481 = .ok (.invokevirtual 173, 3) := by decide +kernel
theorem dL_law_1484 : decode cL_law 1484 = .ok (.if_icmp .eq 498, 3) := by decide +kernel
theorem dL_law_1487 : decode cL_law 1487 = .ok (.iconst 0, 1) := by decide +kernel
theorem dL_law_1488 : decode cL_law 1488 = .ok (.ireturn, 1) := by decide +kernel
theorem dL_law_1489 : decode cL_law 1489 = .ok (.aload_n 1, 1) := by decide +kernel
theorem dL_law_1490 : decode cL_law 1490 = .ok (.aload_n 0, 1) := by decide +kernel
theorem dL_law_1491 : decode cL_law 1491 = .ok (.iload 4, 2) := by decide +kernel
theorem dL_law_1493 : decode cL_law 1493 = .ok (.iconst 1, 1) := by decide +kernel
theorem dL_law_1494 : decode cL_law 1494 = .ok (.iadd, 1) := by decide +kernel
theorem dL_law_1495 : decode cL_law 1495 = .ok (.iaload, 1) := by decide +kernel
theorem dL_law_1496 : decode cL_law 1496 = .ok (.invokevirtual 174, 3) := by decide +kernel
theorem dL_law_1499 : decode cL_law 1499 = .ok (.aload_n 2, 1) := by decide +kernel
theorem dL_law_1500 : decode cL_law 1500 = .ok (.aload_n 0, 1) := by decide +kernel
theorem dL_law_1501 : decode cL_law 1501 = .ok (.iload 4, 2) := by decide +kernel
theorem dL_law_1503 : decode cL_law 1503 = .ok (.iconst 1, 1) := by decide +kernel
theorem dL_law_1504 : decode cL_law 1504 = .ok (.iadd, 1) := by decide +kernel
theorem dL_law_1505 : decode cL_law 1505 = .ok (.iaload, 1) := by decide +kernel
theorem dL_law_1506 : decode cL_law 1506 = .ok (.invokevirtual 177, 3) := by decide +kernel
theorem dL_law_1509 : decode cL_law 1509 = .ok (.if_icmp .eq 473, 3) := by decide +kernel
theorem dL_law_1512 : decode cL_law 1512 = .ok (.iconst 0, 1) := by decide +kernel
theorem dL_law_1513 : decode cL_law 1513 = .ok (.ireturn, 1) := by decide +kernel
theorem dL_law_1514 : decode cL_law 1514 = .ok (.aload_n 1, 1) := by decide +kernel
theorem dL_law_1515 : decode cL_law 1515 = .ok (.aload_n 0, 1) := by decide +kernel
theorem dL_law_1516 : decode cL_law 1516 = .ok (.iload 4, 2) := by decide +kernel
theorem dL_law_1518 : decode cL_law 1518 = .ok (.iconst 1, 1) := by decide +kernel
theorem dL_law_1519 : decode cL_law 1519 = .ok (.iadd, 1) := by decide +kernel
theorem dL_law_1520 : decode cL_law 1520 = .ok (.iaload, 1) := by decide +kernel
theorem dL_law_1521 : decode cL_law 1521 = .ok (.aload_n 0, 1) := by decide +kernel
theorem dL_law_1522 : decode cL_law 1522 = .ok (.iload 4, 2) := by decide +kernel
theorem dL_law_1524 : decode cL_law 1524 = .ok (.iconst 2, 1) := by decide +kernel
theorem dL_law_1525 : decode cL_law 1525 = .ok (.iadd, 1) := by decide +kernel
theorem dL_law_1526 : decode cL_law 1526 = .ok (.iaload, 1) := by decide +kernel
theorem dL_law_1527 : decode cL_law 1527 = .ok (.aload_n 0, 1) := by decide +kernel
theorem dL_law_1528 : decode cL_law 1528 = .ok (.iload 4, 2) := by decide +kernel
theorem dL_law_1530 : decode cL_law 1530 = .ok (.iconst 3, 1) := by decide +kernel
theorem dL_law_1531 : decode cL_law 1531 = .ok (.iadd, 1) := by decide +kernel
theorem dL_law_1532 : decode cL_law 1532 = .ok (.iaload, 1) := by decide +kernel
theorem dL_law_1533 : decode cL_law 1533 = .ok (.invokevirtual 178, 3) := by decide +kernel
theorem dL_law_1536 : decode cL_law 1536 = .ok (.aload_n 2, 1) := by decide +kernel
theorem dL_law_1537 : decode cL_law 1537 = .ok (.aload_n 0, 1) := by decide +kernel
theorem dL_law_1538 : decode cL_law 1538 = .ok (.iload 4, 2) := by decide +kernel
theorem dL_law_1540 : decode cL_law 1540 = .ok (.iconst 1, 1) := by decide +kernel
theorem dL_law_1541 : decode cL_law 1541 = .ok (.iadd, 1) := by decide +kernel
theorem dL_law_1542 : decode cL_law 1542 = .ok (.iaload, 1) := by decide +kernel
theorem dL_law_1543 : decode cL_law 1543 = .ok (.aload_n 0, 1) := by decide +kernel
theorem dL_law_1544 : decode cL_law 1544 = .ok (.iload 4, 2) := by decide +kernel
theorem dL_law_1546 : decode cL_law 1546 = .ok (.iconst 2, 1) := by decide +kernel
theorem dL_law_1547 : decode cL_law 1547 = .ok (.iadd, 1) := by decide +kernel
theorem dL_law_1548 : decode cL_law 1548 = .ok (.iaload, 1) := by decide +kernel
theorem dL_law_1549 : decode cL_law 1549 = .ok (.aload_n 0, 1) := by decide +kernel
theorem dL_law_1550 : decode cL_law 1550 = .ok (.iload 4, 2) := by decide +kernel
theorem dL_law_1552 : decode cL_law 1552 = .ok (.iconst 3, 1) := by decide +kernel
theorem dL_law_1553 : decode cL_law 1553 = .ok (.iadd, 1) := by decide +kernel
theorem dL_law_1554 : decode cL_law 1554 = .ok (.iaload, 1) := by decide +kernel
theorem dL_law_1555 : decode cL_law 1555 = .ok (.invokevirtual 181, 3) := by decide +kernel
theorem dL_law_1558 : decode cL_law 1558 = .ok (.if_icmp .eq 424, 3) := by decide +kernel
theorem dL_law_1561 : decode cL_law 1561 = .ok (.iconst 0, 1) := by decide +kernel
theorem dL_law_1562 : decode cL_law 1562 = .ok (.ireturn, 1) := by decide +kernel
theorem dL_law_1563 : decode cL_law 1563 = .ok (.aload_n 1, 1) := by decide +kernel
theorem dL_law_1564 : decode cL_law 1564 = .ok (.aload_n 0, 1) := by decide +kernel
theorem dL_law_1565 : decode cL_law 1565 = .ok (.iload 4, 2) := by decide +kernel
theorem dL_law_1567 : decode cL_law 1567 = .ok (.iconst 1, 1) := by decide +kernel
theorem dL_law_1568 : decode cL_law 1568 = .ok (.iadd, 1) := by decide +kernel
theorem dL_law_1569 : decode cL_law 1569 = .ok (.iaload, 1) := by decide +kernel
theorem dL_law_1570 : decode cL_law 1570 = .ok (.aload_n 0, 1) := by decide +kernel
theorem dL_law_1571 : decode cL_law 1571 = .ok (.iload 4, 2) := by decide +kernel
theorem dL_law_1573 : decode cL_law 1573 = .ok (.iconst 2, 1) := by decide +kernel
theorem dL_law_1574 : decode cL_law 1574 = .ok (.iadd, 1) := by decide +kernel
theorem dL_law_1575 : decode cL_law 1575 = .ok (.iaload, 1) := by decide +kernel
theorem dL_law_1576 : decode cL_law 1576 = .ok (.aload_n 0, 1) := by decide +kernel
theorem dL_law_1577 : decode cL_law 1577 = .ok (.iload 4, 2) := by decide +kernel
theorem dL_law_1579 : decode cL_law 1579 = .ok (.iconst 3, 1) := by decide +kernel
theorem dL_law_1580 : decode cL_law 1580 = .ok (.iadd, 1) := by decide +kernel
theorem dL_law_1581 : decode cL_law 1581 = .ok (.iaload, 1) := by decide +kernel
theorem dL_law_1582 : decode cL_law 1582 = .ok (.invokevirtual 182, 3) := by decide +kernel
theorem dL_law_1585 : decode cL_law 1585 = .ok (.aload_n 2, 1) := by decide +kernel
theorem dL_law_1586 : decode cL_law 1586 = .ok (.aload_n 0, 1) := by decide +kernel
theorem dL_law_1587 : decode cL_law 1587 = .ok (.iload 4, 2) := by decide +kernel
theorem dL_law_1589 : decode cL_law 1589 = .ok (.iconst 1, 1) := by decide +kernel
theorem dL_law_1590 : decode cL_law 1590 = .ok (.iadd, 1) := by decide +kernel
theorem dL_law_1591 : decode cL_law 1591 = .ok (.iaload, 1) := by decide +kernel
theorem dL_law_1592 : decode cL_law 1592 = .ok (.aload_n 0, 1) := by decide +kernel
theorem dL_law_1593 : decode cL_law 1593 = .ok (.iload 4, 2) := by decide +kernel
theorem dL_law_1595 : decode cL_law 1595 = .ok (.iconst 2, 1) := by decide +kernel
theorem dL_law_1596 : decode cL_law 1596 = .ok (.iadd, 1) := by decide +kernel
theorem dL_law_1597 : decode cL_law 1597 = .ok (.iaload, 1) := by decide +kernel
theorem dL_law_1598 : decode cL_law 1598 = .ok (.aload_n 0, 1) := by decide +kernel
theorem dL_law_1599 : decode cL_law 1599 = .ok (.iload 4, 2) := by decide +kernel
theorem dL_law_1601 : decode cL_law 1601 = .ok (.iconst 3, 1) := by decide +kernel
theorem dL_law_1602 : decode cL_law 1602 = .ok (.iadd, 1) := by decide +kernel
theorem dL_law_1603 : decode cL_law 1603 = .ok (.iaload, 1) := by decide +kernel
theorem dL_law_1604 : decode cL_law 1604 = .ok (.invokevirtual 185, 3) := by decide +kernel
theorem dL_law_1607 : decode cL_law 1607 = .ok (.if_icmp .eq 375, 3) := by decide +kernel
theorem dL_law_1610 : decode cL_law 1610 = .ok (.iconst 0, 1) := by decide +kernel
theorem dL_law_1611 : decode cL_law 1611 = .ok (.ireturn, 1) := by decide +kernel
theorem dL_law_1612 : decode cL_law 1612 = .ok (.aload_n 1, 1) := by decide +kernel
theorem dL_law_1613 : decode cL_law 1613 = .ok (.aload_n 0, 1) := by decide +kernel
theorem dL_law_1614 : decode cL_law 1614 = .ok (.iload 4, 2) := by decide +kernel
theorem dL_law_1616 : decode cL_law 1616 = .ok (.iconst 1, 1) := by decide +kernel
theorem dL_law_1617 : decode cL_law 1617 = .ok (.iadd, 1) := by decide +kernel
theorem dL_law_1618 : decode cL_law 1618 = .ok (.iaload, 1) := by decide +kernel
theorem dL_law_1619 : decode cL_law 1619 = .ok (.aload_n 0, 1) := by decide +kernel
theorem dL_law_1620 : decode cL_law 1620 = .ok (.iload 4, 2) := by decide +kernel
theorem dL_law_1622 : decode cL_law 1622 = .ok (.iconst 2, 1) := by decide +kernel
theorem dL_law_1623 : decode cL_law 1623 = .ok (.iadd, 1) := by decide +kernel
theorem dL_law_1624 : decode cL_law 1624 = .ok (.iaload, 1) := by decide +kernel
theorem dL_law_1625 : decode cL_law 1625 = .ok (.aload_n 0, 1) := by decide +kernel
theorem dL_law_1626 : decode cL_law 1626 = .ok (.iload 4, 2) := by decide +kernel
theorem dL_law_1628 : decode cL_law 1628 = .ok (.iconst 3, 1) := by decide +kernel
theorem dL_law_1629 : decode cL_law 1629 = .ok (.iadd, 1) := by decide +kernel
theorem dL_law_1630 : decode cL_law 1630 = .ok (.iaload, 1) := by decide +kernel
theorem dL_law_1631 : decode cL_law 1631 = .ok (.aload_n 0, 1) := by decide +kernel
theorem dL_law_1632 : decode cL_law 1632 = .ok (.iload 4, 2) := by decide +kernel
theorem dL_law_1634 : decode cL_law 1634 = .ok (.iconst 4, 1) := by decide +kernel
theorem dL_law_1635 : decode cL_law 1635 = .ok (.iadd, 1) := by decide +kernel
theorem dL_law_1636 : decode cL_law 1636 = .ok (.iaload, 1) := by decide +kernel
theorem dL_law_1637 : decode cL_law 1637 = .ok (.invokevirtual 186, 3) := by decide +kernel
theorem dL_law_1640 : decode cL_law 1640 = .ok (.aload_n 2, 1) := by decide +kernel
theorem dL_law_1641 : decode cL_law 1641 = .ok (.aload_n 0, 1) := by decide +kernel
theorem dL_law_1642 : decode cL_law 1642 = .ok (.iload 4, 2) := by decide +kernel
theorem dL_law_1644 : decode cL_law 1644 = .ok (.iconst 1, 1) := by decide +kernel
theorem dL_law_1645 : decode cL_law 1645 = .ok (.iadd, 1) := by decide +kernel
theorem dL_law_1646 : decode cL_law 1646 = .ok (.iaload, 1) := by decide +kernel
theorem dL_law_1647 : decode cL_law 1647 = .ok (.aload_n 0, 1) := by decide +kernel
theorem dL_law_1648 : decode cL_law 1648 = .ok (.iload 4, 2) := by decide +kernel
theorem dL_law_1650 : decode cL_law 1650 = .ok (.iconst 2, 1) := by decide +kernel
theorem dL_law_1651 : decode cL_law 1651 = .ok (.iadd, 1) := by decide +kernel
theorem dL_law_1652 : decode cL_law 1652 = .ok (.iaload, 1) := by decide +kernel
theorem dL_law_1653 : decode cL_law 1653 = .ok (.aload_n 0, 1) := by decide +kernel
theorem dL_law_1654 : decode cL_law 1654 = .ok (.iload 4, 2) := by decide +kernel
theorem dL_law_1656 : decode cL_law 1656 = .ok (.iconst 3, 1) := by decide +kernel
theorem dL_law_1657 : decode cL_law 1657 = .ok (.iadd, 1) := by decide +kernel
theorem dL_law_1658 : decode cL_law 1658 = .ok (.iaload, 1) := by decide +kernel
theorem dL_law_1659 : decode cL_law 1659 = .ok (.aload_n 0, 1) := by decide +kernel
theorem dL_law_1660 : decode cL_law 1660 = .ok (.iload 4, 2) := by decide +kernel
theorem dL_law_1662 : decode cL_law 1662 = .ok (.iconst 4, 1) := by decide +kernel
theorem dL_law_1663 : decode cL_law 1663 = .ok (.iadd, 1) := by decide +kernel
theorem dL_law_1664 : decode cL_law 1664 = .ok (.iaload, 1) := by decide +kernel
theorem dL_law_1665 : decode cL_law 1665 = .ok (.invokevirtual 190, 3) := by decide +kernel
theorem dL_law_1668 : decode cL_law 1668 = .ok (.if_icmp .eq 314, 3) := by decide +kernel
theorem dL_law_1671 : decode cL_law 1671 = .ok (.iconst 0, 1) := by decide +kernel
theorem dL_law_1672 : decode cL_law 1672 = .ok (.ireturn, 1) := by decide +kernel
theorem dL_law_1673 : decode cL_law 1673 = .ok (.aload_n 1, 1) := by decide +kernel
theorem dL_law_1674 : decode cL_law 1674 = .ok (.aload_n 0, 1) := by decide +kernel
theorem dL_law_1675 : decode cL_law 1675 = .ok (.iload 4, 2) := by decide +kernel
theorem dL_law_1677 : decode cL_law 1677 = .ok (.iconst 1, 1) := by decide +kernel
theorem dL_law_1678 : decode cL_law 1678 = .ok (.iadd, 1) := by decide +kernel
theorem dL_law_1679 : decode cL_law 1679 = .ok (.iaload, 1) := by decide +kernel
theorem dL_law_1680 : decode cL_law 1680 = .ok (.aload_n 0, 1) := by decide +kernel
theorem dL_law_1681 : decode cL_law 1681 = .ok (.iload 4, 2) := by decide +kernel
theorem dL_law_1683 : decode cL_law 1683 = .ok (.iconst 2, 1) := by decide +kernel
theorem dL_law_1684 : decode cL_law 1684 = .ok (.iadd, 1) := by decide +kernel
theorem dL_law_1685 : decode cL_law 1685 = .ok (.iaload, 1) := by decide +kernel
theorem dL_law_1686 : decode cL_law 1686 = .ok (.invokevirtual 191, 3) := by decide +kernel
theorem dL_law_1689 : decode cL_law 1689 = .ok (.aload_n 2, 1) := by decide +kernel
theorem dL_law_1690 : decode cL_law 1690 = .ok (.aload_n 0, 1) := by decide +kernel
theorem dL_law_1691 : decode cL_law 1691 = .ok (.iload 4, 2) := by decide +kernel
theorem dL_law_1693 : decode cL_law 1693 = .ok (.iconst 1, 1) := by decide +kernel
theorem dL_law_1694 : decode cL_law 1694 = .ok (.iadd, 1) := by decide +kernel
theorem dL_law_1695 : decode cL_law 1695 = .ok (.iaload, 1) := by decide +kernel
theorem dL_law_1696 : decode cL_law 1696 = .ok (.aload_n 0, 1) := by decide +kernel
theorem dL_law_1697 : decode cL_law 1697 = .ok (.iload 4, 2) := by decide +kernel
theorem dL_law_1699 : decode cL_law 1699 = .ok (.iconst 2, 1) := by decide +kernel
theorem dL_law_1700 : decode cL_law 1700 = .ok (.iadd, 1) := by decide +kernel
theorem dL_law_1701 : decode cL_law 1701 = .ok (.iaload, 1) := by decide +kernel
theorem dL_law_1702 : decode cL_law 1702 = .ok (.invokevirtual 194, 3) := by decide +kernel
theorem dL_law_1705 : decode cL_law 1705 = .ok (.if_icmp .eq 277, 3) := by decide +kernel
theorem dL_law_1708 : decode cL_law 1708 = .ok (.iconst 0, 1) := by decide +kernel
theorem dL_law_1709 : decode cL_law 1709 = .ok (.ireturn, 1) := by decide +kernel
theorem dL_law_1710 : decode cL_law 1710 = .ok (.aload_n 1, 1) := by decide +kernel
theorem dL_law_1711 : decode cL_law 1711 = .ok (.aload_n 0, 1) := by decide +kernel
theorem dL_law_1712 : decode cL_law 1712 = .ok (.iload 4, 2) := by decide +kernel
theorem dL_law_1714 : decode cL_law 1714 = .ok (.iconst 1, 1) := by decide +kernel
theorem dL_law_1715 : decode cL_law 1715 = .ok (.iadd, 1) := by decide +kernel
theorem dL_law_1716 : decode cL_law 1716 = .ok (.iaload, 1) := by decide +kernel
theorem dL_law_1717 : decode cL_law 1717 = .ok (.aload_n 0, 1) := by decide +kernel
theorem dL_law_1718 : decode cL_law 1718 = .ok (.iload 4, 2) := by decide +kernel
theorem dL_law_1720 : decode cL_law 1720 = .ok (.iconst 2, 1) := by decide +kernel
theorem dL_law_1721 : decode cL_law 1721 = .ok (.iadd, 1) := by decide +kernel
theorem dL_law_1722 : decode cL_law 1722 = .ok (.iaload, 1) := by decide +kernel
theorem dL_law_1723 : decode cL_law 1723 = .ok (.invokevirtual 195, 3) := by decide +kernel
theorem dL_law_1726 : decode cL_law 1726 = .ok (.aload_n 2, 1) := by decide +kernel
theorem dL_law_1727 : decode cL_law 1727 = .ok (.aload_n 0, 1) := by decide +kernel
theorem dL_law_1728 : decode cL_law 1728 = .ok (.iload 4, 2) := by decide +kernel
theorem dL_law_1730 : decode cL_law 1730 = .ok (.iconst 1, 1) := by decide +kernel
theorem dL_law_1731 : decode cL_law 1731 = .ok (.iadd, 1) := by decide +kernel
theorem dL_law_1732 : decode cL_law 1732 = .ok (.iaload, 1) := by decide +kernel
theorem dL_law_1733 : decode cL_law 1733 = .ok (.aload_n 0, 1) := by decide +kernel
theorem dL_law_1734 : decode cL_law 1734 = .ok (.iload 4, 2) := by decide +kernel
theorem dL_law_1736 : decode cL_law 1736 = .ok (.iconst 2, 1) := by decide +kernel
theorem dL_law_1737 : decode cL_law 1737 = .ok (.iadd, 1) := by decide +kernel
theorem dL_law_1738 : decode cL_law 1738 = .ok (.iaload, 1) := by decide +kernel
theorem dL_law_1739 : decode cL_law 1739 = .ok (.invokevirtual 198, 3) := by decide +kernel
theorem dL_law_1742 : decode cL_law 1742 = .ok (.if_icmp .eq 240, 3) := by decide +kernel
theorem dL_law_1745 : decode cL_law 1745 = .ok (.iconst 0, 1) := by decide +kernel
theorem dL_law_1746 : decode cL_law 1746 = .ok (.ireturn, 1) := by decide +kernel
theorem dL_law_1747 : decode cL_law 1747 = .ok (.aload_n 1, 1) := by decide +kernel
theorem dL_law_1748 : decode cL_law 1748 = .ok (.aload_n 0, 1) := by decide +kernel
theorem dL_law_1749 : decode cL_law 1749 = .ok (.iload 4, 2) := by decide +kernel
theorem dL_law_1751 : decode cL_law 1751 = .ok (.iconst 1, 1) := by decide +kernel
theorem dL_law_1752 : decode cL_law 1752 = .ok (.iadd, 1) := by decide +kernel
theorem dL_law_1753 : decode cL_law 1753 = .ok (.iaload, 1) := by decide +kernel
theorem dL_law_1754 : decode cL_law 1754 = .ok (.aload_n 0, 1) := by decide +kernel
theorem dL_law_1755 : decode cL_law 1755 = .ok (.iload 4, 2) := by decide +kernel
theorem dL_law_1757 : decode cL_law 1757 = .ok (.iconst 2, 1) := by decide +kernel
theorem dL_law_1758 : decode cL_law 1758 = .ok (.iadd, 1) := by decide +kernel
theorem dL_law_1759 : decode cL_law 1759 = .ok (.iaload, 1) := by decide +kernel
theorem dL_law_1760 : decode cL_law 1760 = .ok (.aload_n 0, 1) := by decide +kernel
theorem dL_law_1761 : decode cL_law 1761 = .ok (.iload 4, 2) := by decide +kernel
theorem dL_law_1763 : decode cL_law 1763 = .ok (.iconst 3, 1) := by decide +kernel
theorem dL_law_1764 : decode cL_law 1764 = .ok (.iadd, 1) := by decide +kernel
theorem dL_law_1765 : decode cL_law 1765 = .ok (.iaload, 1) := by decide +kernel
theorem dL_law_1766 : decode cL_law 1766 = .ok (.invokevirtual 199, 3) := by decide +kernel
theorem dL_law_1769 : decode cL_law 1769 = .ok (.aload_n 2, 1) := by decide +kernel
theorem dL_law_1770 : decode cL_law 1770 = .ok (.aload_n 0, 1) := by decide +kernel
theorem dL_law_1771 : decode cL_law 1771 = .ok (.iload 4, 2) := by decide +kernel
theorem dL_law_1773 : decode cL_law 1773 = .ok (.iconst 1, 1) := by decide +kernel
theorem dL_law_1774 : decode cL_law 1774 = .ok (.iadd, 1) := by decide +kernel
theorem dL_law_1775 : decode cL_law 1775 = .ok (.iaload, 1) := by decide +kernel
theorem dL_law_1776 : decode cL_law 1776 = .ok (.aload_n 0, 1) := by decide +kernel
theorem dL_law_1777 : decode cL_law 1777 = .ok (.iload 4, 2) := by decide +kernel
theorem dL_law_1779 : decode cL_law 1779 = .ok (.iconst 2, 1) := by decide +kernel
theorem dL_law_1780 : decode cL_law 1780 = .ok (.iadd, 1) := by decide +kernel
theorem dL_law_1781 : decode cL_law 1781 = .ok (.iaload, 1) := by decide +kernel
theorem dL_law_1782 : decode cL_law 1782 = .ok (.aload_n 0, 1) := by decide +kernel
theorem dL_law_1783 : decode cL_law 1783 = .ok (.iload 4, 2) := by decide +kernel
theorem dL_law_1785 : decode cL_law 1785 = .ok (.iconst 3, 1) := by decide +kernel
theorem dL_law_1786 : decode cL_law 1786 = .ok (.iadd, 1) := by decide +kernel
theorem dL_law_1787 : decode cL_law 1787 = .ok (.iaload, 1) := by decide +kernel
theorem dL_law_1788 : decode cL_law 1788 = .ok (.invokevirtual 203, 3) := by decide +kernel
theorem dL_law_1791 : decode cL_law 1791 = .ok (.if_icmp .eq 191, 3) := by decide +kernel
theorem dL_law_1794 : decode cL_law 1794 = .ok (.iconst 0, 1) := by decide +kernel
theorem dL_law_1795 : decode cL_law 1795 = .ok (.ireturn, 1) := by decide +kernel
theorem dL_law_1796 : decode cL_law 1796 = .ok (.aload_n 1, 1) := by decide +kernel
theorem dL_law_1797 : decode cL_law 1797 = .ok (.aload_n 0, 1) := by decide +kernel
theorem dL_law_1798 : decode cL_law 1798 = .ok (.iload 4, 2) := by decide +kernel
theorem dL_law_1800 : decode cL_law 1800 = .ok (.iconst 1, 1) := by decide +kernel
theorem dL_law_1801 : decode cL_law 1801 = .ok (.iadd, 1) := by decide +kernel
theorem dL_law_1802 : decode cL_law 1802 = .ok (.iaload, 1) := by decide +kernel
theorem dL_law_1803 : decode cL_law 1803 = .ok (.ifCond .eq 7, 3) := by decide +kernel
theorem dL_law_1806 : decode cL_law 1806 = .ok (.iconst 1, 1) := by decide +kernel
theorem dL_law_1807 : decode cL_law 1807 = .ok (.goto 4, 3) := by decide +kernel
theorem dL_law_1810 : decode cL_law 1810 = .ok (.iconst 0, 1) := by decide +kernel
theorem dL_law_1811 : decode cL_law 1811 = .ok (.invokevirtual 204, 3) := by decide +kernel
theorem dL_law_1814 : decode cL_law 1814 = .ok (.aload_n 2, 1) := by decide +kernel
theorem dL_law_1815 : decode cL_law 1815 = .ok (.aload_n 0, 1) := by decide +kernel
theorem dL_law_1816 : decode cL_law 1816 = .ok (.iload 4, 2) := by decide +kernel
theorem dL_law_1818 : decode cL_law 1818 = .ok (.iconst 1, 1) := by decide +kernel
theorem dL_law_1819 : decode cL_law 1819 = .ok (.iadd, 1) := by decide +kernel
theorem dL_law_1820 : decode cL_law 1820 = .ok (.iaload, 1) := by decide +kernel
theorem dL_law_1821 : decode cL_law 1821 = .ok (.ifCond .eq 7, 3) := by decide +kernel
theorem dL_law_1824 : decode cL_law 1824 = .ok (.iconst 1, 1) := by decide +kernel
theorem dL_law_1825 : decode cL_law 1825 = .ok (.goto 4, 3) := by decide +kernel
theorem dL_law_1828 : decode cL_law 1828 = .ok (.iconst 0, 1) := by decide +kernel
theorem dL_law_1829 : decode cL_law 1829 = .ok (.invokevirtual 208, 3) := by decide +kernel
theorem dL_law_1832 : decode cL_law 1832 = .ok (.if_icmp .eq 150, 3) := by decide +kernel
theorem dL_law_1835 : decode cL_law 1835 = .ok (.iconst 0, 1) := by decide +kernel
theorem dL_law_1836 : decode cL_law 1836 = .ok (.ireturn, 1) := by decide +kernel
theorem dL_law_1837 : decode cL_law 1837 = .ok (.aload_n 1, 1) := by decide +kernel
theorem dL_law_1838 : decode cL_law 1838 = .ok (.invokevirtual 209, 3) := by decide +kernel
theorem dL_law_1841 : decode cL_law 1841 = .ok (.aload_n 2, 1) := by decide +kernel
theorem dL_law_1842 : decode cL_law 1842 = .ok (.invokevirtual 213, 3) := by decide +kernel
theorem dL_law_1845 : decode cL_law 1845 = .ok (.if_icmp .eq 137, 3) := by decide +kernel
theorem dL_law_1848 : decode cL_law 1848 = .ok (.iconst 0, 1) := by decide +kernel
theorem dL_law_1849 : decode cL_law 1849 = .ok (.ireturn, 1) := by decide +kernel
theorem dL_law_1850 : decode cL_law 1850 = .ok (.aload_n 1, 1) := by decide +kernel
theorem dL_law_1851 : decode cL_law 1851 = .ok (.invokevirtual 214, 3) := by decide +kernel
theorem dL_law_1854 : decode cL_law 1854 = .ok (.aload_n 2, 1) := by decide +kernel
theorem dL_law_1855 : decode cL_law 1855 = .ok (.invokevirtual 217, 3) := by decide +kernel
theorem dL_law_1858 : decode cL_law 1858 = .ok (.if_icmp .eq 124, 3) := by decide +kernel
theorem dL_law_1861 : decode cL_law 1861 = .ok (.iconst 0, 1) := by decide +kernel
theorem dL_law_1862 : decode cL_law 1862 = .ok (.ireturn, 1) := by decide +kernel
theorem dL_law_1863 : decode cL_law 1863 = .ok (.aload_n 1, 1) := by decide +kernel
theorem dL_law_1864 : decode cL_law 1864 = .ok (.aload_n 0, 1) := by decide +kernel
theorem dL_law_1865 : decode cL_law 1865 = .ok (.iload 4, 2) := by decide +kernel
theorem dL_law_1867 : decode cL_law 1867 = .ok (.iconst 1, 1) := by decide +kernel
theorem dL_law_1868 : decode cL_law 1868 = .ok (.iadd, 1) := by decide +kernel
theorem dL_law_1869 : decode cL_law 1869 = .ok (.iaload, 1) := by decide +kernel
theorem dL_law_1870 : decode cL_law 1870 = .ok (.invokevirtual 218, 3) := by decide +kernel
theorem dL_law_1873 : decode cL_law 1873 = .ok (.aload_n 2, 1) := by decide +kernel
theorem dL_law_1874 : decode cL_law 1874 = .ok (.aload_n 0, 1) := by decide +kernel
theorem dL_law_1875 : decode cL_law 1875 = .ok (.iload 4, 2) := by decide +kernel
theorem dL_law_1877 : decode cL_law 1877 = .ok (.iconst 1, 1) := by decide +kernel
theorem dL_law_1878 : decode cL_law 1878 = .ok (.iadd, 1) := by decide +kernel
theorem dL_law_1879 : decode cL_law 1879 = .ok (.iaload, 1) := by decide +kernel
theorem dL_law_1880 : decode cL_law 1880 = .ok (.invokevirtual 222, 3) := by decide +kernel
theorem dL_law_1883 : decode cL_law 1883 = .ok (.if_icmp .eq 99, 3) := by decide +kernel
theorem dL_law_1886 : decode cL_law 1886 = .ok (.iconst 0, 1) := by decide +kernel
theorem dL_law_1887 : decode cL_law 1887 = .ok (.ireturn, 1) := by decide +kernel
theorem dL_law_1888 : decode cL_law 1888 = .ok (.aload_n 1, 1) := by decide +kernel
theorem dL_law_1889 : decode cL_law 1889 = .ok (.aload_n 0, 1) := by decide +kernel
theorem dL_law_1890 : decode cL_law 1890 = .ok (.iload 4, 2) := by decide +kernel
theorem dL_law_1892 : decode cL_law 1892 = .ok (.iconst 1, 1) := by decide +kernel
theorem dL_law_1893 : decode cL_law 1893 = .ok (.iadd, 1) := by decide +kernel
theorem dL_law_1894 : decode cL_law 1894 = .ok (.iaload, 1) := by decide +kernel
theorem dL_law_1895 : decode cL_law 1895 = .ok (.aload_n 3, 1) := by decide +kernel
theorem dL_law_1896 : decode cL_law 1896 = .ok (.invokestatic 223, 3) := by decide +kernel
theorem dL_law_1899 : decode cL_law 1899 = .ok (.istore 5, 2) := by decide +kernel
theorem dL_law_1901 : decode cL_law 1901 = .ok (.aload_n 2, 1) := by decide +kernel
theorem dL_law_1902 : decode cL_law 1902 = .ok (.aload_n 0, 1) := by decide +kernel
theorem dL_law_1903 : decode cL_law 1903 = .ok (.iload 4, 2) := by decide +kernel
theorem dL_law_1905 : decode cL_law 1905 = .ok (.iconst 1, 1) := by decide +kernel
theorem dL_law_1906 : decode cL_law 1906 = .ok (.iadd, 1) := by decide +kernel
theorem dL_law_1907 : decode cL_law 1907 = .ok (.iaload, 1) := by decide +kernel
theorem dL_law_1908 : decode cL_law 1908 = .ok (.invokevirtual 228, 3) := by decide +kernel
theorem dL_law_1911 : decode cL_law 1911 = .ok (.istore 6, 2) := by decide +kernel
theorem dL_law_1913 : decode cL_law 1913 = .ok (.aload_n 2, 1) := by decide +kernel
theorem dL_law_1914 : decode cL_law 1914 = .ok (.invokevirtual 229, 3) := by decide +kernel
theorem dL_law_1917 : decode cL_law 1917 = .ok (.iload 5, 2) := by decide +kernel
theorem dL_law_1919 : decode cL_law 1919 = .ok (.if_icmp .eq 5, 3) := by decide +kernel
theorem dL_law_1922 : decode cL_law 1922 = .ok (.iconst 0, 1) := by decide +kernel
theorem dL_law_1923 : decode cL_law 1923 = .ok (.ireturn, 1) := by decide +kernel
theorem dL_law_1924 : decode cL_law 1924 = .ok (.iload 5, 2) := by decide +kernel
theorem dL_law_1926 : decode cL_law 1926 = .ok (.ifCond .ne 15, 3) := by decide +kernel
theorem dL_law_1929 : decode cL_law 1929 = .ok (.aload_n 3, 1) := by decide +kernel
theorem dL_law_1930 : decode cL_law 1930 = .ok (.iconst 0, 1) := by decide +kernel
theorem dL_law_1931 : decode cL_law 1931 = .ok (.laload, 1) := by decide +kernel
theorem dL_law_1932 : decode cL_law 1932 = .ok (.iload 6, 2) := by decide +kernel
theorem dL_law_1934 : decode cL_law 1934 = .ok (.i2l, 1) := by decide +kernel
theorem dL_law_1935 : decode cL_law 1935 = .ok (.lcmp, 1) := by decide +kernel
theorem dL_law_1936 : decode cL_law 1936 = .ok (.ifCond .eq 5, 3) := by decide +kernel
theorem dL_law_1939 : decode cL_law 1939 = .ok (.iconst 0, 1) := by decide +kernel
theorem dL_law_1940 : decode cL_law 1940 = .ok (.ireturn, 1) := by decide +kernel
theorem dL_law_1941 : decode cL_law 1941 = .ok (.goto 41, 3) := by decide +kernel
theorem dL_law_1944 : decode cL_law 1944 = .ok (.aload_n 1, 1) := by decide +kernel
theorem dL_law_1945 : decode cL_law 1945 = .ok (.aload_n 0, 1) := by decide +kernel
theorem dL_law_1946 : decode cL_law 1946 = .ok (.iload 4, 2) := by decide +kernel
theorem dL_law_1948 : decode cL_law 1948 = .ok (.iconst 1, 1) := by decide +kernel
theorem dL_law_1949 : decode cL_law 1949 = .ok (.iadd, 1) := by decide +kernel
theorem dL_law_1950 : decode cL_law 1950 = .ok (.iaload, 1) := by decide +kernel
theorem dL_law_1951 : decode cL_law 1951 = .ok (.invokevirtual 232, 3) := by decide +kernel
theorem dL_law_1954 : decode cL_law 1954 = .ok (.aload_n 2, 1) := by decide +kernel
theorem dL_law_1955 : decode cL_law 1955 = .ok (.aload_n 0, 1) := by decide +kernel
theorem dL_law_1956 : decode cL_law 1956 = .ok (.iload 4, 2) := by decide +kernel
theorem dL_law_1958 : decode cL_law 1958 = .ok (.iconst 1, 1) := by decide +kernel
theorem dL_law_1959 : decode cL_law 1959 = .ok (.iadd, 1) := by decide +kernel
theorem dL_law_1960 : decode cL_law 1960 = .ok (.iaload, 1) := by decide +kernel
theorem dL_law_1961 : decode cL_law 1961 = .ok (.invokevirtual 235, 3) := by decide +kernel
theorem dL_law_1964 : decode cL_law 1964 = .ok (.if_icmp .eq 18, 3) := by decide +kernel
theorem dL_law_1967 : decode cL_law 1967 = .ok (.iconst 0, 1) := by decide +kernel
theorem dL_law_1968 : decode cL_law 1968 = .ok (.ireturn, 1) := by decide +kernel
theorem dL_law_1969 : decode cL_law 1969 = .ok (.aload_n 1, 1) := by decide +kernel
theorem dL_law_1970 : decode cL_law 1970 = .ok (.invokevirtual 236, 3) := by decide +kernel
theorem dL_law_1973 : decode cL_law 1973 = .ok (.aload_n 2, 1) := by decide +kernel
theorem dL_law_1974 : decode cL_law 1974 = .ok (.invokevirtual 239, 3) := by decide +kernel
theorem dL_law_1977 : decode cL_law 1977 = .ok (.if_icmp .eq 5, 3) := by decide +kernel
theorem dL_law_1980 : decode cL_law 1980 = .ok (.iconst 0, 1) := by decide +kernel
theorem dL_law_1981 : decode cL_law 1981 = .ok (.ireturn, 1) := by decide +kernel
theorem dL_law_1982 : decode cL_law 1982 = .ok (.iinc 4 6, 3) := by decide +kernel
theorem dL_law_1985 : decode cL_law 1985 = .ok (.goto (-1962), 3) := by decide +kernel
theorem dL_law_1988 : decode cL_law 1988 = .ok (.iconst 1, 1) := by decide +kernel
theorem dL_law_1989 : decode cL_law 1989 = .ok (.ireturn, 1) := by decide +kernel
def lc_0 (sc : Nat → Int32) (L : Nat) (h : Mem) (v4 : Int32) : Option Mem :=
  (scI sc L (v4 + 1)).bind fun x1 => (scI sc L (v4 + 2)).bind fun x2 => (scI sc L (v4 + 3)).bind fun x3 => (scI sc L (v4 + 4)).bind fun x4 => (scI sc L (v4 + 5)).bind fun x5 => (f_X11_feed h 1 x1 x2 x3 x4 x5).bind fun q6 => (scI sc L (v4 + 1)).bind fun x7 => (scI sc L (v4 + 2)).bind fun x8 => (scI sc L (v4 + 3)).bind fun x9 => (scI sc L (v4 + 4)).bind fun x10 => (scI sc L (v4 + 5)).bind fun x11 => (f_X13_feed q6.2 55 x7 x8 x9 x10 x11).bind fun q12 => (if q6.1 = q12.1 then some q12.2 else none)
set_option maxRecDepth 100000 in
set_option maxHeartbeats 4000000 in
theorem w_lc_0 {G : GE} {X : CX} {sc : Nat → Int32} {L : Nat} (hX : Ok G X cL_law RL) (hN : xn X = 7) (hr : xr X = room_1) (hsc : SC G X L sc) {P : Mem → Prop} (ce sl : Nat) (hce : ce + 20 ≤ 601024) (hsl : sl + 400 ≤ 7293034) (v4 : Int32) (hc : ∀ h', P h' → AW G X 1982 [(0, vX 20), (1, vR 1), (2, vR 55), (3, vR 68), (4, vI v4)] [] h' (ce + 20) (sl + 400)) (h : Mem) (hy : OK (lc_0 sc L h v4) P) : AW G X 260 [(0, vX 20), (1, vR 1), (2, vR 55), (3, vR 68), (4, vI v4)] [] h ce sl := by
  unfold lc_0 at hy
  refine aw_aloadn (pc := 260) hX 1 rfl dL_law_260 ?_
  refine aw_xloadn (pc := 261) hX 0 rfl dL_law_261 ?_
  refine aw_iload (pc := 262) hX 4 rfl dL_law_262 ?_
  refine aw_iconst (pc := 264) hX 1 (by decide) dL_law_264 ?_
  refine aw_iadd (pc := 265) hX dL_law_265 ?_
  refine aw_scl (pc := 266) hX hsc hy dL_law_266 (fun x1 hy => ?_)
  refine aw_xloadn (pc := 267) hX 0 rfl dL_law_267 ?_
  refine aw_iload (pc := 268) hX 4 rfl dL_law_268 ?_
  refine aw_iconst (pc := 270) hX 2 (by decide) dL_law_270 ?_
  refine aw_iadd (pc := 271) hX dL_law_271 ?_
  refine aw_scl (pc := 272) hX hsc hy dL_law_272 (fun x2 hy => ?_)
  refine aw_xloadn (pc := 273) hX 0 rfl dL_law_273 ?_
  refine aw_iload (pc := 274) hX 4 rfl dL_law_274 ?_
  refine aw_iconst (pc := 276) hX 3 (by decide) dL_law_276 ?_
  refine aw_iadd (pc := 277) hX dL_law_277 ?_
  refine aw_scl (pc := 278) hX hsc hy dL_law_278 (fun x3 hy => ?_)
  refine aw_xloadn (pc := 279) hX 0 rfl dL_law_279 ?_
  refine aw_iload (pc := 280) hX 4 rfl dL_law_280 ?_
  refine aw_iconst (pc := 282) hX 4 (by decide) dL_law_282 ?_
  refine aw_iadd (pc := 283) hX dL_law_283 ?_
  refine aw_scl (pc := 284) hX hsc hy dL_law_284 (fun x4 hy => ?_)
  refine aw_xloadn (pc := 285) hX 0 rfl dL_law_285 ?_
  refine aw_iload (pc := 286) hX 4 rfl dL_law_286 ?_
  refine aw_iconst (pc := 288) hX 5 (by decide) dL_law_288 ?_
  refine aw_iadd (pc := 289) hX dL_law_289 ?_
  refine aw_scl (pc := 290) hX hsc hy dL_law_290 (fun x5 hy => ?_)
  refine aw_callV (pc := 291) (st := []) (a := 1) hX [vI x1, vI x2, vI x3, vI x4, vI x5] (con_X11_feed _ G _ 1 x1 x2 x3 x4 x5 hy.bd) mc_X11_feed ml_L_19 im_X11_feed se_X11_feed (by decide) hy.bd.kd rfl (rm_law hr (by decide) (show ce + 0 ≤ 601024 by omega) (show sl + 0 ≤ 7293034 by omega)) (Nat.le_of_ble_eq_true rfl) rfl dL_law_291 (kmI rfl rfl (fun q6 hy => ?_))
  refine aw_aloadn (pc := 294) hX 2 rfl dL_law_294 ?_
  refine aw_xloadn (pc := 295) hX 0 rfl dL_law_295 ?_
  refine aw_iload (pc := 296) hX 4 rfl dL_law_296 ?_
  refine aw_iconst (pc := 298) hX 1 (by decide) dL_law_298 ?_
  refine aw_iadd (pc := 299) hX dL_law_299 ?_
  refine aw_scl (pc := 300) hX hsc hy dL_law_300 (fun x7 hy => ?_)
  refine aw_xloadn (pc := 301) hX 0 rfl dL_law_301 ?_
  refine aw_iload (pc := 302) hX 4 rfl dL_law_302 ?_
  refine aw_iconst (pc := 304) hX 2 (by decide) dL_law_304 ?_
  refine aw_iadd (pc := 305) hX dL_law_305 ?_
  refine aw_scl (pc := 306) hX hsc hy dL_law_306 (fun x8 hy => ?_)
  refine aw_xloadn (pc := 307) hX 0 rfl dL_law_307 ?_
  refine aw_iload (pc := 308) hX 4 rfl dL_law_308 ?_
  refine aw_iconst (pc := 310) hX 3 (by decide) dL_law_310 ?_
  refine aw_iadd (pc := 311) hX dL_law_311 ?_
  refine aw_scl (pc := 312) hX hsc hy dL_law_312 (fun x9 hy => ?_)
  refine aw_xloadn (pc := 313) hX 0 rfl dL_law_313 ?_
  refine aw_iload (pc := 314) hX 4 rfl dL_law_314 ?_
  refine aw_iconst (pc := 316) hX 4 (by decide) dL_law_316 ?_
  refine aw_iadd (pc := 317) hX dL_law_317 ?_
  refine aw_scl (pc := 318) hX hsc hy dL_law_318 (fun x10 hy => ?_)
  refine aw_xloadn (pc := 319) hX 0 rfl dL_law_319 ?_
  refine aw_iload (pc := 320) hX 4 rfl dL_law_320 ?_
  refine aw_iconst (pc := 322) hX 5 (by decide) dL_law_322 ?_
  refine aw_iadd (pc := 323) hX dL_law_323 ?_
  refine aw_scl (pc := 324) hX hsc hy dL_law_324 (fun x11 hy => ?_)
  refine aw_callV (pc := 325) (st := [vI q6.1]) (a := 55) hX [vI x7, vI x8, vI x9, vI x10, vI x11] (con_X13_feed _ G _ 55 x7 x8 x9 x10 x11 hy.bd) mc_X13_feed ml_L_23 im_X13_feed se_X13_feed (by decide) hy.bd.kd rfl (rm_law hr (by decide) (show ce + 0 ≤ 601024 by omega) (show sl + 0 ≤ 7293034 by omega)) (Nat.le_of_ble_eq_true rfl) rfl dL_law_325 (kmI rfl rfl (fun q12 hy => ?_))
  refine aw_ic_eq (pc := 328) hX 1982 (by decide) dL_law_328 (fun hc9 => ?_) (fun hc9 => ?_)
  · have hy := hy.t hc9
    exact AW.widen (by omega) (by omega) (hc q12.2 hy.s)
  · have hy := hy.f hc9
    exact hy.no.elim
def lc_1 (sc : Nat → Int32) (L : Nat) (h : Mem) (v4 : Int32) : Option Mem :=
  (scI sc L (v4 + 1)).bind fun x1 => (f_X11_turnpike h 1 x1).bind fun q2 => (scI sc L (v4 + 1)).bind fun x3 => (f_X13_turnpike q2.2 55 x3).bind fun q4 => (if q2.1 = q4.1 then some q4.2 else none)
set_option maxRecDepth 100000 in
set_option maxHeartbeats 4000000 in
theorem w_lc_1 {G : GE} {X : CX} {sc : Nat → Int32} {L : Nat} (hX : Ok G X cL_law RL) (hN : xn X = 7) (hr : xr X = room_1) (hsc : SC G X L sc) {P : Mem → Prop} (ce sl : Nat) (hce : ce + 20 ≤ 601024) (hsl : sl + 400 ≤ 7293034) (v4 : Int32) (hc : ∀ h', P h' → AW G X 1982 [(0, vX 20), (1, vR 1), (2, vR 55), (3, vR 68), (4, vI v4)] [] h' (ce + 20) (sl + 400)) (h : Mem) (hy : OK (lc_1 sc L h v4) P) : AW G X 333 [(0, vX 20), (1, vR 1), (2, vR 55), (3, vR 68), (4, vI v4)] [] h ce sl := by
  unfold lc_1 at hy
  refine aw_aloadn (pc := 333) hX 1 rfl dL_law_333 ?_
  refine aw_xloadn (pc := 334) hX 0 rfl dL_law_334 ?_
  refine aw_iload (pc := 335) hX 4 rfl dL_law_335 ?_
  refine aw_iconst (pc := 337) hX 1 (by decide) dL_law_337 ?_
  refine aw_iadd (pc := 338) hX dL_law_338 ?_
  refine aw_scl (pc := 339) hX hsc hy dL_law_339 (fun x1 hy => ?_)
  refine aw_callV (pc := 340) (st := []) (a := 1) hX [vI x1] (con_X11_turnpike _ G _ 1 x1 hy.bd) mc_X11_turnpike ml_L_24 im_X11_turnpike se_X11_turnpike (by decide) hy.bd.kd rfl (rm_law hr (by decide) (show ce + 0 ≤ 601024 by omega) (show sl + 0 ≤ 7293034 by omega)) (Nat.le_of_ble_eq_true rfl) rfl dL_law_340 (kmI rfl rfl (fun q2 hy => ?_))
  refine aw_aloadn (pc := 343) hX 2 rfl dL_law_343 ?_
  refine aw_xloadn (pc := 344) hX 0 rfl dL_law_344 ?_
  refine aw_iload (pc := 345) hX 4 rfl dL_law_345 ?_
  refine aw_iconst (pc := 347) hX 1 (by decide) dL_law_347 ?_
  refine aw_iadd (pc := 348) hX dL_law_348 ?_
  refine aw_scl (pc := 349) hX hsc hy dL_law_349 (fun x3 hy => ?_)
  refine aw_callV (pc := 350) (st := [vI q2.1]) (a := 55) hX [vI x3] (con_X13_turnpike _ G _ 55 x3 hy.bd) mc_X13_turnpike ml_L_27 im_X13_turnpike se_X13_turnpike (by decide) hy.bd.kd rfl (rm_law hr (by decide) (show ce + 19 ≤ 601024 by omega) (show sl + 341 ≤ 7293034 by omega)) (Nat.le_of_ble_eq_true rfl) rfl dL_law_350 (kmIa (ce' := ce + 19) (sl' := sl + 341) rfl rfl (fun q4 hy => ?_))
  refine aw_ic_eq (pc := 353) hX 1982 (by decide) dL_law_353 (fun hc9 => ?_) (fun hc9 => ?_)
  · have hy := hy.t hc9
    exact AW.widen (by omega) (by omega) (hc q4.2 hy.s)
  · have hy := hy.f hc9
    exact hy.no.elim
def lc_2 (sc : Nat → Int32) (L : Nat) (h : Mem) (v4 : Int32) : Option Mem :=
  (f_X11_fault h 1).bind fun x1 => (f_X13_fault h 55).bind fun q2 => (if x1 = q2.1 then some q2.2 else none)
set_option maxRecDepth 100000 in
set_option maxHeartbeats 4000000 in
theorem w_lc_2 {G : GE} {X : CX} {sc : Nat → Int32} {L : Nat} (hX : Ok G X cL_law RL) (hN : xn X = 7) (hr : xr X = room_1) (hsc : SC G X L sc) {P : Mem → Prop} (ce sl : Nat) (hce : ce + 20 ≤ 601024) (hsl : sl + 400 ≤ 7293034) (v4 : Int32) (hc : ∀ h', P h' → AW G X 1982 [(0, vX 20), (1, vR 1), (2, vR 55), (3, vR 68), (4, vI v4)] [] h' (ce + 20) (sl + 400)) (h : Mem) (hy : OK (lc_2 sc L h v4) P) : AW G X 358 [(0, vX 20), (1, vR 1), (2, vR 55), (3, vR 68), (4, vI v4)] [] h ce sl := by
  unfold lc_2 at hy
  refine aw_aloadn (pc := 358) hX 1 rfl dL_law_358 ?_
  refine aw_callV (pc := 359) (st := []) (a := 1) hX [] (con_X11_fault _ G _ 1 hy.bd) mc_X11_fault ml_L_28 im_X11_fault se_X11_fault (by decide) hy.bd.kd rfl (rm_law hr (by decide) (show ce + 0 ≤ 601024 by omega) (show sl + 0 ≤ 7293034 by omega)) (Nat.le_of_ble_eq_true rfl) rfl dL_law_359 (kpI rfl rfl (fun x1 hy => ?_))
  refine aw_aloadn (pc := 362) hX 2 rfl dL_law_362 ?_
  refine aw_callV (pc := 363) (st := [vI x1]) (a := 55) hX [] (con_X13_fault _ G _ 55 hy.bd) mc_X13_fault ml_L_32 im_X13_fault se_X13_fault (by decide) hy.bd.kd rfl (rm_law hr (by decide) (show ce + 0 ≤ 601024 by omega) (show sl + 0 ≤ 7293034 by omega)) (Nat.le_of_ble_eq_true rfl) rfl dL_law_363 (kmI rfl rfl (fun q2 hy => ?_))
  refine aw_ic_eq (pc := 366) hX 1982 (by decide) dL_law_366 (fun hc9 => ?_) (fun hc9 => ?_)
  · have hy := hy.t hc9
    exact AW.widen (by omega) (by omega) (hc q2.2 hy.s)
  · have hy := hy.f hc9
    exact hy.no.elim
def lc_3 (sc : Nat → Int32) (L : Nat) (h : Mem) (v4 : Int32) : Option Mem :=
  (f_X11_where h 1).bind fun x1 => (f_X13_where h 55).bind fun q2 => (if x1 = q2.1 then some q2.2 else none)
set_option maxRecDepth 100000 in
set_option maxHeartbeats 4000000 in
theorem w_lc_3 {G : GE} {X : CX} {sc : Nat → Int32} {L : Nat} (hX : Ok G X cL_law RL) (hN : xn X = 7) (hr : xr X = room_1) (hsc : SC G X L sc) {P : Mem → Prop} (ce sl : Nat) (hce : ce + 20 ≤ 601024) (hsl : sl + 400 ≤ 7293034) (v4 : Int32) (hc : ∀ h', P h' → AW G X 1982 [(0, vX 20), (1, vR 1), (2, vR 55), (3, vR 68), (4, vI v4)] [] h' (ce + 20) (sl + 400)) (h : Mem) (hy : OK (lc_3 sc L h v4) P) : AW G X 371 [(0, vX 20), (1, vR 1), (2, vR 55), (3, vR 68), (4, vI v4)] [] h ce sl := by
  unfold lc_3 at hy
  refine aw_aloadn (pc := 371) hX 1 rfl dL_law_371 ?_
  refine aw_callV (pc := 372) (st := []) (a := 1) hX [] (con_X11_where _ G _ 1 hy.bd) mc_X11_where ml_L_33 im_X11_where se_X11_where (by decide) hy.bd.kd rfl (rm_law hr (by decide) (show ce + 0 ≤ 601024 by omega) (show sl + 0 ≤ 7293034 by omega)) (Nat.le_of_ble_eq_true rfl) rfl dL_law_372 (kpI rfl rfl (fun x1 hy => ?_))
  refine aw_aloadn (pc := 375) hX 2 rfl dL_law_375 ?_
  refine aw_callV (pc := 376) (st := [vI x1]) (a := 55) hX [] (con_X13_where _ G _ 55 hy.bd) mc_X13_where ml_L_36 im_X13_where se_X13_where (by decide) hy.bd.kd rfl (rm_law hr (by decide) (show ce + 0 ≤ 601024 by omega) (show sl + 0 ≤ 7293034 by omega)) (Nat.le_of_ble_eq_true rfl) rfl dL_law_376 (kmI rfl rfl (fun q2 hy => ?_))
  refine aw_ic_eq (pc := 379) hX 1982 (by decide) dL_law_379 (fun hc9 => ?_) (fun hc9 => ?_)
  · have hy := hy.t hc9
    exact AW.widen (by omega) (by omega) (hc q2.2 hy.s)
  · have hy := hy.f hc9
    exact hy.no.elim
def lc_4 (sc : Nat → Int32) (L : Nat) (h : Mem) (v4 : Int32) : Option Mem :=
  (scI sc L (v4 + 1)).bind fun x1 => (f_X11_length h 1 x1).bind fun q2 => (scI sc L (v4 + 1)).bind fun x3 => (f_X13_length q2.2 55 x3).bind fun q4 => (if q2.1 = q4.1 then some q4.2 else none)
set_option maxRecDepth 100000 in
set_option maxHeartbeats 4000000 in
theorem w_lc_4 {G : GE} {X : CX} {sc : Nat → Int32} {L : Nat} (hX : Ok G X cL_law RL) (hN : xn X = 7) (hr : xr X = room_1) (hsc : SC G X L sc) {P : Mem → Prop} (ce sl : Nat) (hce : ce + 20 ≤ 601024) (hsl : sl + 400 ≤ 7293034) (v4 : Int32) (hc : ∀ h', P h' → AW G X 1982 [(0, vX 20), (1, vR 1), (2, vR 55), (3, vR 68), (4, vI v4)] [] h' (ce + 20) (sl + 400)) (h : Mem) (hy : OK (lc_4 sc L h v4) P) : AW G X 384 [(0, vX 20), (1, vR 1), (2, vR 55), (3, vR 68), (4, vI v4)] [] h ce sl := by
  unfold lc_4 at hy
  refine aw_aloadn (pc := 384) hX 1 rfl dL_law_384 ?_
  refine aw_xloadn (pc := 385) hX 0 rfl dL_law_385 ?_
  refine aw_iload (pc := 386) hX 4 rfl dL_law_386 ?_
  refine aw_iconst (pc := 388) hX 1 (by decide) dL_law_388 ?_
  refine aw_iadd (pc := 389) hX dL_law_389 ?_
  refine aw_scl (pc := 390) hX hsc hy dL_law_390 (fun x1 hy => ?_)
  refine aw_callV (pc := 391) (st := []) (a := 1) hX [vI x1] (con_X11_length _ G _ 1 x1 hy.bd) mc_X11_length ml_L_37 im_X11_length se_X11_length (by decide) hy.bd.kd rfl (rm_law hr (by decide) (show ce + 0 ≤ 601024 by omega) (show sl + 0 ≤ 7293034 by omega)) (Nat.le_of_ble_eq_true rfl) rfl dL_law_391 (kmI rfl rfl (fun q2 hy => ?_))
  refine aw_aloadn (pc := 394) hX 2 rfl dL_law_394 ?_
  refine aw_xloadn (pc := 395) hX 0 rfl dL_law_395 ?_
  refine aw_iload (pc := 396) hX 4 rfl dL_law_396 ?_
  refine aw_iconst (pc := 398) hX 1 (by decide) dL_law_398 ?_
  refine aw_iadd (pc := 399) hX dL_law_399 ?_
  refine aw_scl (pc := 400) hX hsc hy dL_law_400 (fun x3 hy => ?_)
  refine aw_callV (pc := 401) (st := [vI q2.1]) (a := 55) hX [vI x3] (con_X13_length _ G _ 55 x3 hy.bd) mc_X13_length ml_L_40 im_X13_length se_X13_length (by decide) hy.bd.kd rfl (rm_law hr (by decide) (show ce + 0 ≤ 601024 by omega) (show sl + 0 ≤ 7293034 by omega)) (Nat.le_of_ble_eq_true rfl) rfl dL_law_401 (kmI rfl rfl (fun q4 hy => ?_))
  refine aw_ic_eq (pc := 404) hX 1982 (by decide) dL_law_404 (fun hc9 => ?_) (fun hc9 => ?_)
  · have hy := hy.t hc9
    exact AW.widen (by omega) (by omega) (hc q4.2 hy.s)
  · have hy := hy.f hc9
    exact hy.no.elim
def lc_5 (sc : Nat → Int32) (L : Nat) (h : Mem) (v4 : Int32) : Option Mem :=
  (scI sc L (v4 + 1)).bind fun x1 => (scI sc L (v4 + 2)).bind fun x2 => (scI sc L (v4 + 3)).bind fun x3 => (if x3 = 0 then (f_X11_sung h 1 x1 x2 0).bind fun q4 => (scI sc L (v4 + 1)).bind fun x5 => (scI sc L (v4 + 2)).bind fun x6 => (scI sc L (v4 + 3)).bind fun x7 => (if x7 = 0 then (f_X13_sung q4.2 55 x5 x6 0).bind fun q8 => (if q4.1 = q8.1 then some q8.2 else none) else (f_X13_sung q4.2 55 x5 x6 1).bind fun q9 => (if q4.1 = q9.1 then some q9.2 else none)) else (f_X11_sung h 1 x1 x2 1).bind fun q10 => (scI sc L (v4 + 1)).bind fun x11 => (scI sc L (v4 + 2)).bind fun x12 => (scI sc L (v4 + 3)).bind fun x13 => (if x13 = 0 then (f_X13_sung q10.2 55 x11 x12 0).bind fun q14 => (if q10.1 = q14.1 then some q14.2 else none) else (f_X13_sung q10.2 55 x11 x12 1).bind fun q15 => (if q10.1 = q15.1 then some q15.2 else none)))
set_option maxRecDepth 100000 in
set_option maxHeartbeats 4000000 in
theorem w_lc_5 {G : GE} {X : CX} {sc : Nat → Int32} {L : Nat} (hX : Ok G X cL_law RL) (hN : xn X = 7) (hr : xr X = room_1) (hsc : SC G X L sc) {P : Mem → Prop} (ce sl : Nat) (hce : ce + 20 ≤ 601024) (hsl : sl + 400 ≤ 7293034) (v4 : Int32) (hc : ∀ h', P h' → AW G X 1982 [(0, vX 20), (1, vR 1), (2, vR 55), (3, vR 68), (4, vI v4)] [] h' (ce + 20) (sl + 400)) (h : Mem) (hy : OK (lc_5 sc L h v4) P) : AW G X 409 [(0, vX 20), (1, vR 1), (2, vR 55), (3, vR 68), (4, vI v4)] [] h ce sl := by
  unfold lc_5 at hy
  refine aw_aloadn (pc := 409) hX 1 rfl dL_law_409 ?_
  refine aw_xloadn (pc := 410) hX 0 rfl dL_law_410 ?_
  refine aw_iload (pc := 411) hX 4 rfl dL_law_411 ?_
  refine aw_iconst (pc := 413) hX 1 (by decide) dL_law_413 ?_
  refine aw_iadd (pc := 414) hX dL_law_414 ?_
  refine aw_scl (pc := 415) hX hsc hy dL_law_415 (fun x1 hy => ?_)
  refine aw_xloadn (pc := 416) hX 0 rfl dL_law_416 ?_
  refine aw_iload (pc := 417) hX 4 rfl dL_law_417 ?_
  refine aw_iconst (pc := 419) hX 2 (by decide) dL_law_419 ?_
  refine aw_iadd (pc := 420) hX dL_law_420 ?_
  refine aw_scl (pc := 421) hX hsc hy dL_law_421 (fun x2 hy => ?_)
  refine aw_xloadn (pc := 422) hX 0 rfl dL_law_422 ?_
  refine aw_iload (pc := 423) hX 4 rfl dL_law_423 ?_
  refine aw_iconst (pc := 425) hX 3 (by decide) dL_law_425 ?_
  refine aw_iadd (pc := 426) hX dL_law_426 ?_
  refine aw_scl (pc := 427) hX hsc hy dL_law_427 (fun x3 hy => ?_)
  refine aw_if_eq (pc := 428) hX 435 (by decide) dL_law_428 (fun hc9 => ?_) (fun hc9 => ?_)
  · have hy := hy.t hc9
    refine aw_iconst (pc := 435) hX 0 (by decide) dL_law_435 ?_
    refine aw_callV (pc := 436) (st := []) (a := 1) hX [vI x1, vI x2, vI 0] (con_X11_sung _ G _ 1 x1 x2 0 hy.bd) mc_X11_sung ml_L_41 im_X11_sung se_X11_sung (by decide) hy.bd.kd rfl (rm_law hr (by decide) (show ce + 0 ≤ 601024 by omega) (show sl + 0 ≤ 7293034 by omega)) (Nat.le_of_ble_eq_true rfl) rfl dL_law_436 (kmI rfl rfl (fun q4 hy => ?_))
    refine aw_aloadn (pc := 439) hX 2 rfl dL_law_439 ?_
    refine aw_xloadn (pc := 440) hX 0 rfl dL_law_440 ?_
    refine aw_iload (pc := 441) hX 4 rfl dL_law_441 ?_
    refine aw_iconst (pc := 443) hX 1 (by decide) dL_law_443 ?_
    refine aw_iadd (pc := 444) hX dL_law_444 ?_
    refine aw_scl (pc := 445) hX hsc hy dL_law_445 (fun x5 hy => ?_)
    refine aw_xloadn (pc := 446) hX 0 rfl dL_law_446 ?_
    refine aw_iload (pc := 447) hX 4 rfl dL_law_447 ?_
    refine aw_iconst (pc := 449) hX 2 (by decide) dL_law_449 ?_
    refine aw_iadd (pc := 450) hX dL_law_450 ?_
    refine aw_scl (pc := 451) hX hsc hy dL_law_451 (fun x6 hy => ?_)
    refine aw_xloadn (pc := 452) hX 0 rfl dL_law_452 ?_
    refine aw_iload (pc := 453) hX 4 rfl dL_law_453 ?_
    refine aw_iconst (pc := 455) hX 3 (by decide) dL_law_455 ?_
    refine aw_iadd (pc := 456) hX dL_law_456 ?_
    refine aw_scl (pc := 457) hX hsc hy dL_law_457 (fun x7 hy => ?_)
    refine aw_if_eq (pc := 458) hX 465 (by decide) dL_law_458 (fun hc9 => ?_) (fun hc9 => ?_)
    · have hy := hy.t hc9
      refine aw_iconst (pc := 465) hX 0 (by decide) dL_law_465 ?_
      refine aw_callV (pc := 466) (st := [vI q4.1]) (a := 55) hX [vI x5, vI x6, vI 0] (con_X13_sung _ G _ 55 x5 x6 0 hy.bd) mc_X13_sung ml_L_45 im_X13_sung se_X13_sung (by decide) hy.bd.kd rfl (rm_law hr (by decide) (show ce + 0 ≤ 601024 by omega) (show sl + 0 ≤ 7293034 by omega)) (Nat.le_of_ble_eq_true rfl) rfl dL_law_466 (kmI rfl rfl (fun q8 hy => ?_))
      refine aw_ic_eq (pc := 469) hX 1982 (by decide) dL_law_469 (fun hc9 => ?_) (fun hc9 => ?_)
      · have hy := hy.t hc9
        exact AW.widen (by omega) (by omega) (hc q8.2 hy.s)
      · have hy := hy.f hc9
        exact hy.no.elim
    · have hy := hy.f hc9
      refine aw_iconst (pc := 461) hX 1 (by decide) dL_law_461 ?_
      refine aw_goto (pc := 462) hX 466 (by decide) dL_law_462 ?_
      refine aw_callV (pc := 466) (st := [vI q4.1]) (a := 55) hX [vI x5, vI x6, vI 1] (con_X13_sung _ G _ 55 x5 x6 1 hy.bd) mc_X13_sung ml_L_45 im_X13_sung se_X13_sung (by decide) hy.bd.kd rfl (rm_law hr (by decide) (show ce + 0 ≤ 601024 by omega) (show sl + 0 ≤ 7293034 by omega)) (Nat.le_of_ble_eq_true rfl) rfl dL_law_466 (kmI rfl rfl (fun q9 hy => ?_))
      refine aw_ic_eq (pc := 469) hX 1982 (by decide) dL_law_469 (fun hc9 => ?_) (fun hc9 => ?_)
      · have hy := hy.t hc9
        exact AW.widen (by omega) (by omega) (hc q9.2 hy.s)
      · have hy := hy.f hc9
        exact hy.no.elim
  · have hy := hy.f hc9
    refine aw_iconst (pc := 431) hX 1 (by decide) dL_law_431 ?_
    refine aw_goto (pc := 432) hX 436 (by decide) dL_law_432 ?_
    refine aw_callV (pc := 436) (st := []) (a := 1) hX [vI x1, vI x2, vI 1] (con_X11_sung _ G _ 1 x1 x2 1 hy.bd) mc_X11_sung ml_L_41 im_X11_sung se_X11_sung (by decide) hy.bd.kd rfl (rm_law hr (by decide) (show ce + 0 ≤ 601024 by omega) (show sl + 0 ≤ 7293034 by omega)) (Nat.le_of_ble_eq_true rfl) rfl dL_law_436 (kmI rfl rfl (fun q10 hy => ?_))
    refine aw_aloadn (pc := 439) hX 2 rfl dL_law_439 ?_
    refine aw_xloadn (pc := 440) hX 0 rfl dL_law_440 ?_
    refine aw_iload (pc := 441) hX 4 rfl dL_law_441 ?_
    refine aw_iconst (pc := 443) hX 1 (by decide) dL_law_443 ?_
    refine aw_iadd (pc := 444) hX dL_law_444 ?_
    refine aw_scl (pc := 445) hX hsc hy dL_law_445 (fun x11 hy => ?_)
    refine aw_xloadn (pc := 446) hX 0 rfl dL_law_446 ?_
    refine aw_iload (pc := 447) hX 4 rfl dL_law_447 ?_
    refine aw_iconst (pc := 449) hX 2 (by decide) dL_law_449 ?_
    refine aw_iadd (pc := 450) hX dL_law_450 ?_
    refine aw_scl (pc := 451) hX hsc hy dL_law_451 (fun x12 hy => ?_)
    refine aw_xloadn (pc := 452) hX 0 rfl dL_law_452 ?_
    refine aw_iload (pc := 453) hX 4 rfl dL_law_453 ?_
    refine aw_iconst (pc := 455) hX 3 (by decide) dL_law_455 ?_
    refine aw_iadd (pc := 456) hX dL_law_456 ?_
    refine aw_scl (pc := 457) hX hsc hy dL_law_457 (fun x13 hy => ?_)
    refine aw_if_eq (pc := 458) hX 465 (by decide) dL_law_458 (fun hc9 => ?_) (fun hc9 => ?_)
    · have hy := hy.t hc9
      refine aw_iconst (pc := 465) hX 0 (by decide) dL_law_465 ?_
      refine aw_callV (pc := 466) (st := [vI q10.1]) (a := 55) hX [vI x11, vI x12, vI 0] (con_X13_sung _ G _ 55 x11 x12 0 hy.bd) mc_X13_sung ml_L_45 im_X13_sung se_X13_sung (by decide) hy.bd.kd rfl (rm_law hr (by decide) (show ce + 0 ≤ 601024 by omega) (show sl + 0 ≤ 7293034 by omega)) (Nat.le_of_ble_eq_true rfl) rfl dL_law_466 (kmI rfl rfl (fun q14 hy => ?_))
      refine aw_ic_eq (pc := 469) hX 1982 (by decide) dL_law_469 (fun hc9 => ?_) (fun hc9 => ?_)
      · have hy := hy.t hc9
        exact AW.widen (by omega) (by omega) (hc q14.2 hy.s)
      · have hy := hy.f hc9
        exact hy.no.elim
    · have hy := hy.f hc9
      refine aw_iconst (pc := 461) hX 1 (by decide) dL_law_461 ?_
      refine aw_goto (pc := 462) hX 466 (by decide) dL_law_462 ?_
      refine aw_callV (pc := 466) (st := [vI q10.1]) (a := 55) hX [vI x11, vI x12, vI 1] (con_X13_sung _ G _ 55 x11 x12 1 hy.bd) mc_X13_sung ml_L_45 im_X13_sung se_X13_sung (by decide) hy.bd.kd rfl (rm_law hr (by decide) (show ce + 0 ≤ 601024 by omega) (show sl + 0 ≤ 7293034 by omega)) (Nat.le_of_ble_eq_true rfl) rfl dL_law_466 (kmI rfl rfl (fun q15 hy => ?_))
      refine aw_ic_eq (pc := 469) hX 1982 (by decide) dL_law_469 (fun hc9 => ?_) (fun hc9 => ?_)
      · have hy := hy.t hc9
        exact AW.widen (by omega) (by omega) (hc q15.2 hy.s)
      · have hy := hy.f hc9
        exact hy.no.elim
def lc_6 (sc : Nat → Int32) (L : Nat) (h : Mem) (v4 : Int32) : Option Mem :=
  (scI sc L (v4 + 1)).bind fun x1 => (scI sc L (v4 + 2)).bind fun x2 => (f_X11_road h 1 x1 x2).bind fun q3 => (scI sc L (v4 + 1)).bind fun x4 => (scI sc L (v4 + 2)).bind fun x5 => (f_X13_road q3.2 55 x4 x5).bind fun q6 => (if q3.1 = q6.1 then some q6.2 else none)
set_option maxRecDepth 100000 in
set_option maxHeartbeats 4000000 in
theorem w_lc_6 {G : GE} {X : CX} {sc : Nat → Int32} {L : Nat} (hX : Ok G X cL_law RL) (hN : xn X = 7) (hr : xr X = room_1) (hsc : SC G X L sc) {P : Mem → Prop} (ce sl : Nat) (hce : ce + 20 ≤ 601024) (hsl : sl + 400 ≤ 7293034) (v4 : Int32) (hc : ∀ h', P h' → AW G X 1982 [(0, vX 20), (1, vR 1), (2, vR 55), (3, vR 68), (4, vI v4)] [] h' (ce + 20) (sl + 400)) (h : Mem) (hy : OK (lc_6 sc L h v4) P) : AW G X 474 [(0, vX 20), (1, vR 1), (2, vR 55), (3, vR 68), (4, vI v4)] [] h ce sl := by
  unfold lc_6 at hy
  refine aw_aloadn (pc := 474) hX 1 rfl dL_law_474 ?_
  refine aw_xloadn (pc := 475) hX 0 rfl dL_law_475 ?_
  refine aw_iload (pc := 476) hX 4 rfl dL_law_476 ?_
  refine aw_iconst (pc := 478) hX 1 (by decide) dL_law_478 ?_
  refine aw_iadd (pc := 479) hX dL_law_479 ?_
  refine aw_scl (pc := 480) hX hsc hy dL_law_480 (fun x1 hy => ?_)
  refine aw_xloadn (pc := 481) hX 0 rfl dL_law_481 ?_
  refine aw_iload (pc := 482) hX 4 rfl dL_law_482 ?_
  refine aw_iconst (pc := 484) hX 2 (by decide) dL_law_484 ?_
  refine aw_iadd (pc := 485) hX dL_law_485 ?_
  refine aw_scl (pc := 486) hX hsc hy dL_law_486 (fun x2 hy => ?_)
  refine aw_callV (pc := 487) (st := []) (a := 1) hX [vI x1, vI x2] (con_X11_road _ G _ 1 x1 x2 hy.bd) mc_X11_road ml_L_46 im_X11_road se_X11_road (by decide) hy.bd.kd rfl (rm_law hr (by decide) (show ce + 0 ≤ 601024 by omega) (show sl + 0 ≤ 7293034 by omega)) (Nat.le_of_ble_eq_true rfl) rfl dL_law_487 (kmI rfl rfl (fun q3 hy => ?_))
  refine aw_aloadn (pc := 490) hX 2 rfl dL_law_490 ?_
  refine aw_xloadn (pc := 491) hX 0 rfl dL_law_491 ?_
  refine aw_iload (pc := 492) hX 4 rfl dL_law_492 ?_
  refine aw_iconst (pc := 494) hX 1 (by decide) dL_law_494 ?_
  refine aw_iadd (pc := 495) hX dL_law_495 ?_
  refine aw_scl (pc := 496) hX hsc hy dL_law_496 (fun x4 hy => ?_)
  refine aw_xloadn (pc := 497) hX 0 rfl dL_law_497 ?_
  refine aw_iload (pc := 498) hX 4 rfl dL_law_498 ?_
  refine aw_iconst (pc := 500) hX 2 (by decide) dL_law_500 ?_
  refine aw_iadd (pc := 501) hX dL_law_501 ?_
  refine aw_scl (pc := 502) hX hsc hy dL_law_502 (fun x5 hy => ?_)
  refine aw_callV (pc := 503) (st := [vI q3.1]) (a := 55) hX [vI x4, vI x5] (con_X13_road _ G _ 55 x4 x5 hy.bd) mc_X13_road ml_L_50 im_X13_road se_X13_road (by decide) hy.bd.kd rfl (rm_law hr (by decide) (show ce + 0 ≤ 601024 by omega) (show sl + 0 ≤ 7293034 by omega)) (Nat.le_of_ble_eq_true rfl) rfl dL_law_503 (kmI rfl rfl (fun q6 hy => ?_))
  refine aw_ic_eq (pc := 506) hX 1982 (by decide) dL_law_506 (fun hc9 => ?_) (fun hc9 => ?_)
  · have hy := hy.t hc9
    exact AW.widen (by omega) (by omega) (hc q6.2 hy.s)
  · have hy := hy.f hc9
    exact hy.no.elim
def lc_7 (sc : Nat → Int32) (L : Nat) (h : Mem) (v4 : Int32) : Option Mem :=
  (scI sc L (v4 + 1)).bind fun x1 => (scI sc L (v4 + 2)).bind fun x2 => (scI sc L (v4 + 3)).bind fun x3 => (f_X11_gate h 1 x1 x2 x3).bind fun q4 => (scI sc L (v4 + 1)).bind fun x5 => (scI sc L (v4 + 2)).bind fun x6 => (scI sc L (v4 + 3)).bind fun x7 => (f_X13_gate q4.2 55 x5 x6 x7).bind fun q8 => (if q4.1 = q8.1 then some q8.2 else none)
set_option maxRecDepth 100000 in
set_option maxHeartbeats 4000000 in
theorem w_lc_7 {G : GE} {X : CX} {sc : Nat → Int32} {L : Nat} (hX : Ok G X cL_law RL) (hN : xn X = 7) (hr : xr X = room_1) (hsc : SC G X L sc) {P : Mem → Prop} (ce sl : Nat) (hce : ce + 20 ≤ 601024) (hsl : sl + 400 ≤ 7293034) (v4 : Int32) (hc : ∀ h', P h' → AW G X 1982 [(0, vX 20), (1, vR 1), (2, vR 55), (3, vR 68), (4, vI v4)] [] h' (ce + 20) (sl + 400)) (h : Mem) (hy : OK (lc_7 sc L h v4) P) : AW G X 511 [(0, vX 20), (1, vR 1), (2, vR 55), (3, vR 68), (4, vI v4)] [] h ce sl := by
  unfold lc_7 at hy
  refine aw_aloadn (pc := 511) hX 1 rfl dL_law_511 ?_
  refine aw_xloadn (pc := 512) hX 0 rfl dL_law_512 ?_
  refine aw_iload (pc := 513) hX 4 rfl dL_law_513 ?_
  refine aw_iconst (pc := 515) hX 1 (by decide) dL_law_515 ?_
  refine aw_iadd (pc := 516) hX dL_law_516 ?_
  refine aw_scl (pc := 517) hX hsc hy dL_law_517 (fun x1 hy => ?_)
  refine aw_xloadn (pc := 518) hX 0 rfl dL_law_518 ?_
  refine aw_iload (pc := 519) hX 4 rfl dL_law_519 ?_
  refine aw_iconst (pc := 521) hX 2 (by decide) dL_law_521 ?_
  refine aw_iadd (pc := 522) hX dL_law_522 ?_
  refine aw_scl (pc := 523) hX hsc hy dL_law_523 (fun x2 hy => ?_)
  refine aw_xloadn (pc := 524) hX 0 rfl dL_law_524 ?_
  refine aw_iload (pc := 525) hX 4 rfl dL_law_525 ?_
  refine aw_iconst (pc := 527) hX 3 (by decide) dL_law_527 ?_
  refine aw_iadd (pc := 528) hX dL_law_528 ?_
  refine aw_scl (pc := 529) hX hsc hy dL_law_529 (fun x3 hy => ?_)
  refine aw_callV (pc := 530) (st := []) (a := 1) hX [vI x1, vI x2, vI x3] (con_X11_gate _ G _ 1 x1 x2 x3 hy.bd) mc_X11_gate ml_L_51 im_X11_gate se_X11_gate (by decide) hy.bd.kd rfl (rm_law hr (by decide) (show ce + 0 ≤ 601024 by omega) (show sl + 0 ≤ 7293034 by omega)) (Nat.le_of_ble_eq_true rfl) rfl dL_law_530 (kmI rfl rfl (fun q4 hy => ?_))
  refine aw_aloadn (pc := 533) hX 2 rfl dL_law_533 ?_
  refine aw_xloadn (pc := 534) hX 0 rfl dL_law_534 ?_
  refine aw_iload (pc := 535) hX 4 rfl dL_law_535 ?_
  refine aw_iconst (pc := 537) hX 1 (by decide) dL_law_537 ?_
  refine aw_iadd (pc := 538) hX dL_law_538 ?_
  refine aw_scl (pc := 539) hX hsc hy dL_law_539 (fun x5 hy => ?_)
  refine aw_xloadn (pc := 540) hX 0 rfl dL_law_540 ?_
  refine aw_iload (pc := 541) hX 4 rfl dL_law_541 ?_
  refine aw_iconst (pc := 543) hX 2 (by decide) dL_law_543 ?_
  refine aw_iadd (pc := 544) hX dL_law_544 ?_
  refine aw_scl (pc := 545) hX hsc hy dL_law_545 (fun x6 hy => ?_)
  refine aw_xloadn (pc := 546) hX 0 rfl dL_law_546 ?_
  refine aw_iload (pc := 547) hX 4 rfl dL_law_547 ?_
  refine aw_iconst (pc := 549) hX 3 (by decide) dL_law_549 ?_
  refine aw_iadd (pc := 550) hX dL_law_550 ?_
  refine aw_scl (pc := 551) hX hsc hy dL_law_551 (fun x7 hy => ?_)
  refine aw_callV (pc := 552) (st := [vI q4.1]) (a := 55) hX [vI x5, vI x6, vI x7] (con_X13_gate _ G _ 55 x5 x6 x7 hy.bd) mc_X13_gate ml_L_55 im_X13_gate se_X13_gate (by decide) hy.bd.kd rfl (rm_law hr (by decide) (show ce + 0 ≤ 601024 by omega) (show sl + 0 ≤ 7293034 by omega)) (Nat.le_of_ble_eq_true rfl) rfl dL_law_552 (kmI rfl rfl (fun q8 hy => ?_))
  refine aw_ic_eq (pc := 555) hX 1982 (by decide) dL_law_555 (fun hc9 => ?_) (fun hc9 => ?_)
  · have hy := hy.t hc9
    exact AW.widen (by omega) (by omega) (hc q8.2 hy.s)
  · have hy := hy.f hc9
    exact hy.no.elim
def lc_8 (sc : Nat → Int32) (L : Nat) (h : Mem) (v4 : Int32) : Option Mem :=
  (scI sc L (v4 + 1)).bind fun x1 => (scI sc L (v4 + 2)).bind fun x2 => (f_X11_inn h 1 x1 x2).bind fun q3 => (scI sc L (v4 + 1)).bind fun x4 => (scI sc L (v4 + 2)).bind fun x5 => (f_X13_inn q3.2 55 x4 x5).bind fun q6 => (if q3.1 = q6.1 then some q6.2 else none)
set_option maxRecDepth 100000 in
set_option maxHeartbeats 4000000 in
theorem w_lc_8 {G : GE} {X : CX} {sc : Nat → Int32} {L : Nat} (hX : Ok G X cL_law RL) (hN : xn X = 7) (hr : xr X = room_1) (hsc : SC G X L sc) {P : Mem → Prop} (ce sl : Nat) (hce : ce + 20 ≤ 601024) (hsl : sl + 400 ≤ 7293034) (v4 : Int32) (hc : ∀ h', P h' → AW G X 1982 [(0, vX 20), (1, vR 1), (2, vR 55), (3, vR 68), (4, vI v4)] [] h' (ce + 20) (sl + 400)) (h : Mem) (hy : OK (lc_8 sc L h v4) P) : AW G X 560 [(0, vX 20), (1, vR 1), (2, vR 55), (3, vR 68), (4, vI v4)] [] h ce sl := by
  unfold lc_8 at hy
  refine aw_aloadn (pc := 560) hX 1 rfl dL_law_560 ?_
  refine aw_xloadn (pc := 561) hX 0 rfl dL_law_561 ?_
  refine aw_iload (pc := 562) hX 4 rfl dL_law_562 ?_
  refine aw_iconst (pc := 564) hX 1 (by decide) dL_law_564 ?_
  refine aw_iadd (pc := 565) hX dL_law_565 ?_
  refine aw_scl (pc := 566) hX hsc hy dL_law_566 (fun x1 hy => ?_)
  refine aw_xloadn (pc := 567) hX 0 rfl dL_law_567 ?_
  refine aw_iload (pc := 568) hX 4 rfl dL_law_568 ?_
  refine aw_iconst (pc := 570) hX 2 (by decide) dL_law_570 ?_
  refine aw_iadd (pc := 571) hX dL_law_571 ?_
  refine aw_scl (pc := 572) hX hsc hy dL_law_572 (fun x2 hy => ?_)
  refine aw_callV (pc := 573) (st := []) (a := 1) hX [vI x1, vI x2] (con_X11_inn _ G _ 1 x1 x2 hy.bd) mc_X11_inn ml_L_56 im_X11_inn se_X11_inn (by decide) hy.bd.kd rfl (rm_law hr (by decide) (show ce + 0 ≤ 601024 by omega) (show sl + 0 ≤ 7293034 by omega)) (Nat.le_of_ble_eq_true rfl) rfl dL_law_573 (kmI rfl rfl (fun q3 hy => ?_))
  refine aw_aloadn (pc := 576) hX 2 rfl dL_law_576 ?_
  refine aw_xloadn (pc := 577) hX 0 rfl dL_law_577 ?_
  refine aw_iload (pc := 578) hX 4 rfl dL_law_578 ?_
  refine aw_iconst (pc := 580) hX 1 (by decide) dL_law_580 ?_
  refine aw_iadd (pc := 581) hX dL_law_581 ?_
  refine aw_scl (pc := 582) hX hsc hy dL_law_582 (fun x4 hy => ?_)
  refine aw_xloadn (pc := 583) hX 0 rfl dL_law_583 ?_
  refine aw_iload (pc := 584) hX 4 rfl dL_law_584 ?_
  refine aw_iconst (pc := 586) hX 2 (by decide) dL_law_586 ?_
  refine aw_iadd (pc := 587) hX dL_law_587 ?_
  refine aw_scl (pc := 588) hX hsc hy dL_law_588 (fun x5 hy => ?_)
  refine aw_callV (pc := 589) (st := [vI q3.1]) (a := 55) hX [vI x4, vI x5] (con_X13_inn _ G _ 55 x4 x5 hy.bd) mc_X13_inn ml_L_59 im_X13_inn se_X13_inn (by decide) hy.bd.kd rfl (rm_law hr (by decide) (show ce + 0 ≤ 601024 by omega) (show sl + 0 ≤ 7293034 by omega)) (Nat.le_of_ble_eq_true rfl) rfl dL_law_589 (kmI rfl rfl (fun q6 hy => ?_))
  refine aw_ic_eq (pc := 592) hX 1982 (by decide) dL_law_592 (fun hc9 => ?_) (fun hc9 => ?_)
  · have hy := hy.t hc9
    exact AW.widen (by omega) (by omega) (hc q6.2 hy.s)
  · have hy := hy.f hc9
    exact hy.no.elim
def lc_9 (sc : Nat → Int32) (L : Nat) (h : Mem) (v4 : Int32) : Option Mem :=
  (scI sc L (v4 + 1)).bind fun x1 => (scI sc L (v4 + 2)).bind fun x2 => (f_X11_person h 1 x1 x2).bind fun q3 => (scI sc L (v4 + 1)).bind fun x4 => (scI sc L (v4 + 2)).bind fun x5 => (f_X13_person q3.2 55 x4 x5).bind fun q6 => (if q3.1 = q6.1 then some q6.2 else none)
set_option maxRecDepth 100000 in
set_option maxHeartbeats 4000000 in
theorem w_lc_9 {G : GE} {X : CX} {sc : Nat → Int32} {L : Nat} (hX : Ok G X cL_law RL) (hN : xn X = 7) (hr : xr X = room_1) (hsc : SC G X L sc) {P : Mem → Prop} (ce sl : Nat) (hce : ce + 20 ≤ 601024) (hsl : sl + 400 ≤ 7293034) (v4 : Int32) (hc : ∀ h', P h' → AW G X 1982 [(0, vX 20), (1, vR 1), (2, vR 55), (3, vR 68), (4, vI v4)] [] h' (ce + 20) (sl + 400)) (h : Mem) (hy : OK (lc_9 sc L h v4) P) : AW G X 597 [(0, vX 20), (1, vR 1), (2, vR 55), (3, vR 68), (4, vI v4)] [] h ce sl := by
  unfold lc_9 at hy
  refine aw_aloadn (pc := 597) hX 1 rfl dL_law_597 ?_
  refine aw_xloadn (pc := 598) hX 0 rfl dL_law_598 ?_
  refine aw_iload (pc := 599) hX 4 rfl dL_law_599 ?_
  refine aw_iconst (pc := 601) hX 1 (by decide) dL_law_601 ?_
  refine aw_iadd (pc := 602) hX dL_law_602 ?_
  refine aw_scl (pc := 603) hX hsc hy dL_law_603 (fun x1 hy => ?_)
  refine aw_xloadn (pc := 604) hX 0 rfl dL_law_604 ?_
  refine aw_iload (pc := 605) hX 4 rfl dL_law_605 ?_
  refine aw_iconst (pc := 607) hX 2 (by decide) dL_law_607 ?_
  refine aw_iadd (pc := 608) hX dL_law_608 ?_
  refine aw_scl (pc := 609) hX hsc hy dL_law_609 (fun x2 hy => ?_)
  refine aw_callV (pc := 610) (st := []) (a := 1) hX [vI x1, vI x2] (con_X11_person _ G _ 1 x1 x2 hy.bd) mc_X11_person ml_L_60 im_X11_person se_X11_person (by decide) hy.bd.kd rfl (rm_law hr (by decide) (show ce + 0 ≤ 601024 by omega) (show sl + 0 ≤ 7293034 by omega)) (Nat.le_of_ble_eq_true rfl) rfl dL_law_610 (kmI rfl rfl (fun q3 hy => ?_))
  refine aw_aloadn (pc := 613) hX 2 rfl dL_law_613 ?_
  refine aw_xloadn (pc := 614) hX 0 rfl dL_law_614 ?_
  refine aw_iload (pc := 615) hX 4 rfl dL_law_615 ?_
  refine aw_iconst (pc := 617) hX 1 (by decide) dL_law_617 ?_
  refine aw_iadd (pc := 618) hX dL_law_618 ?_
  refine aw_scl (pc := 619) hX hsc hy dL_law_619 (fun x4 hy => ?_)
  refine aw_xloadn (pc := 620) hX 0 rfl dL_law_620 ?_
  refine aw_iload (pc := 621) hX 4 rfl dL_law_621 ?_
  refine aw_iconst (pc := 623) hX 2 (by decide) dL_law_623 ?_
  refine aw_iadd (pc := 624) hX dL_law_624 ?_
  refine aw_scl (pc := 625) hX hsc hy dL_law_625 (fun x5 hy => ?_)
  refine aw_callV (pc := 626) (st := [vI q3.1]) (a := 55) hX [vI x4, vI x5] (con_X13_person _ G _ 55 x4 x5 hy.bd) mc_X13_person ml_L_63 im_X13_person se_X13_person (by decide) hy.bd.kd rfl (rm_law hr (by decide) (show ce + 0 ≤ 601024 by omega) (show sl + 0 ≤ 7293034 by omega)) (Nat.le_of_ble_eq_true rfl) rfl dL_law_626 (kmI rfl rfl (fun q6 hy => ?_))
  refine aw_ic_eq (pc := 629) hX 1982 (by decide) dL_law_629 (fun hc9 => ?_) (fun hc9 => ?_)
  · have hy := hy.t hc9
    exact AW.widen (by omega) (by omega) (hc q6.2 hy.s)
  · have hy := hy.f hc9
    exact hy.no.elim
def lc_10 (sc : Nat → Int32) (L : Nat) (h : Mem) (v4 : Int32) : Option Mem :=
  (scI sc L (v4 + 1)).bind fun x1 => (scI sc L (v4 + 2)).bind fun x2 => (scI sc L (v4 + 3)).bind fun x3 => (scI sc L (v4 + 4)).bind fun x4 => (if x4 = 0 then (f_X11_lifts h 1 x1 x2 x3 0).bind fun q5 => (scI sc L (v4 + 1)).bind fun x6 => (scI sc L (v4 + 2)).bind fun x7 => (scI sc L (v4 + 3)).bind fun x8 => (scI sc L (v4 + 4)).bind fun x9 => (if x9 = 0 then (f_X13_lifts q5.2 55 x6 x7 x8 0).bind fun q10 => (if q5.1 = q10.1 then some q10.2 else none) else (f_X13_lifts q5.2 55 x6 x7 x8 1).bind fun q11 => (if q5.1 = q11.1 then some q11.2 else none)) else (f_X11_lifts h 1 x1 x2 x3 1).bind fun q12 => (scI sc L (v4 + 1)).bind fun x13 => (scI sc L (v4 + 2)).bind fun x14 => (scI sc L (v4 + 3)).bind fun x15 => (scI sc L (v4 + 4)).bind fun x16 => (if x16 = 0 then (f_X13_lifts q12.2 55 x13 x14 x15 0).bind fun q17 => (if q12.1 = q17.1 then some q17.2 else none) else (f_X13_lifts q12.2 55 x13 x14 x15 1).bind fun q18 => (if q12.1 = q18.1 then some q18.2 else none)))
set_option maxRecDepth 100000 in
set_option maxHeartbeats 4000000 in
theorem w_lc_10 {G : GE} {X : CX} {sc : Nat → Int32} {L : Nat} (hX : Ok G X cL_law RL) (hN : xn X = 7) (hr : xr X = room_1) (hsc : SC G X L sc) {P : Mem → Prop} (ce sl : Nat) (hce : ce + 20 ≤ 601024) (hsl : sl + 400 ≤ 7293034) (v4 : Int32) (hc : ∀ h', P h' → AW G X 1982 [(0, vX 20), (1, vR 1), (2, vR 55), (3, vR 68), (4, vI v4)] [] h' (ce + 20) (sl + 400)) (h : Mem) (hy : OK (lc_10 sc L h v4) P) : AW G X 634 [(0, vX 20), (1, vR 1), (2, vR 55), (3, vR 68), (4, vI v4)] [] h ce sl := by
  unfold lc_10 at hy
  refine aw_aloadn (pc := 634) hX 1 rfl dL_law_634 ?_
  refine aw_xloadn (pc := 635) hX 0 rfl dL_law_635 ?_
  refine aw_iload (pc := 636) hX 4 rfl dL_law_636 ?_
  refine aw_iconst (pc := 638) hX 1 (by decide) dL_law_638 ?_
  refine aw_iadd (pc := 639) hX dL_law_639 ?_
  refine aw_scl (pc := 640) hX hsc hy dL_law_640 (fun x1 hy => ?_)
  refine aw_xloadn (pc := 641) hX 0 rfl dL_law_641 ?_
  refine aw_iload (pc := 642) hX 4 rfl dL_law_642 ?_
  refine aw_iconst (pc := 644) hX 2 (by decide) dL_law_644 ?_
  refine aw_iadd (pc := 645) hX dL_law_645 ?_
  refine aw_scl (pc := 646) hX hsc hy dL_law_646 (fun x2 hy => ?_)
  refine aw_xloadn (pc := 647) hX 0 rfl dL_law_647 ?_
  refine aw_iload (pc := 648) hX 4 rfl dL_law_648 ?_
  refine aw_iconst (pc := 650) hX 3 (by decide) dL_law_650 ?_
  refine aw_iadd (pc := 651) hX dL_law_651 ?_
  refine aw_scl (pc := 652) hX hsc hy dL_law_652 (fun x3 hy => ?_)
  refine aw_xloadn (pc := 653) hX 0 rfl dL_law_653 ?_
  refine aw_iload (pc := 654) hX 4 rfl dL_law_654 ?_
  refine aw_iconst (pc := 656) hX 4 (by decide) dL_law_656 ?_
  refine aw_iadd (pc := 657) hX dL_law_657 ?_
  refine aw_scl (pc := 658) hX hsc hy dL_law_658 (fun x4 hy => ?_)
  refine aw_if_eq (pc := 659) hX 666 (by decide) dL_law_659 (fun hc9 => ?_) (fun hc9 => ?_)
  · have hy := hy.t hc9
    refine aw_iconst (pc := 666) hX 0 (by decide) dL_law_666 ?_
    refine aw_callV (pc := 667) (st := []) (a := 1) hX [vI x1, vI x2, vI x3, vI 0] (con_X11_lifts _ G _ 1 x1 x2 x3 0 hy.bd) mc_X11_lifts ml_L_64 im_X11_lifts se_X11_lifts (by decide) hy.bd.kd rfl (rm_law hr (by decide) (show ce + 0 ≤ 601024 by omega) (show sl + 0 ≤ 7293034 by omega)) (Nat.le_of_ble_eq_true rfl) rfl dL_law_667 (kmI rfl rfl (fun q5 hy => ?_))
    refine aw_aloadn (pc := 670) hX 2 rfl dL_law_670 ?_
    refine aw_xloadn (pc := 671) hX 0 rfl dL_law_671 ?_
    refine aw_iload (pc := 672) hX 4 rfl dL_law_672 ?_
    refine aw_iconst (pc := 674) hX 1 (by decide) dL_law_674 ?_
    refine aw_iadd (pc := 675) hX dL_law_675 ?_
    refine aw_scl (pc := 676) hX hsc hy dL_law_676 (fun x6 hy => ?_)
    refine aw_xloadn (pc := 677) hX 0 rfl dL_law_677 ?_
    refine aw_iload (pc := 678) hX 4 rfl dL_law_678 ?_
    refine aw_iconst (pc := 680) hX 2 (by decide) dL_law_680 ?_
    refine aw_iadd (pc := 681) hX dL_law_681 ?_
    refine aw_scl (pc := 682) hX hsc hy dL_law_682 (fun x7 hy => ?_)
    refine aw_xloadn (pc := 683) hX 0 rfl dL_law_683 ?_
    refine aw_iload (pc := 684) hX 4 rfl dL_law_684 ?_
    refine aw_iconst (pc := 686) hX 3 (by decide) dL_law_686 ?_
    refine aw_iadd (pc := 687) hX dL_law_687 ?_
    refine aw_scl (pc := 688) hX hsc hy dL_law_688 (fun x8 hy => ?_)
    refine aw_xloadn (pc := 689) hX 0 rfl dL_law_689 ?_
    refine aw_iload (pc := 690) hX 4 rfl dL_law_690 ?_
    refine aw_iconst (pc := 692) hX 4 (by decide) dL_law_692 ?_
    refine aw_iadd (pc := 693) hX dL_law_693 ?_
    refine aw_scl (pc := 694) hX hsc hy dL_law_694 (fun x9 hy => ?_)
    refine aw_if_eq (pc := 695) hX 702 (by decide) dL_law_695 (fun hc9 => ?_) (fun hc9 => ?_)
    · have hy := hy.t hc9
      refine aw_iconst (pc := 702) hX 0 (by decide) dL_law_702 ?_
      refine aw_callV (pc := 703) (st := [vI q5.1]) (a := 55) hX [vI x6, vI x7, vI x8, vI 0] (con_X13_lifts _ G _ 55 x6 x7 x8 0 hy.bd) mc_X13_lifts ml_L_68 im_X13_lifts se_X13_lifts (by decide) hy.bd.kd rfl (rm_law hr (by decide) (show ce + 0 ≤ 601024 by omega) (show sl + 0 ≤ 7293034 by omega)) (Nat.le_of_ble_eq_true rfl) rfl dL_law_703 (kmI rfl rfl (fun q10 hy => ?_))
      refine aw_ic_eq (pc := 706) hX 1982 (by decide) dL_law_706 (fun hc9 => ?_) (fun hc9 => ?_)
      · have hy := hy.t hc9
        exact AW.widen (by omega) (by omega) (hc q10.2 hy.s)
      · have hy := hy.f hc9
        exact hy.no.elim
    · have hy := hy.f hc9
      refine aw_iconst (pc := 698) hX 1 (by decide) dL_law_698 ?_
      refine aw_goto (pc := 699) hX 703 (by decide) dL_law_699 ?_
      refine aw_callV (pc := 703) (st := [vI q5.1]) (a := 55) hX [vI x6, vI x7, vI x8, vI 1] (con_X13_lifts _ G _ 55 x6 x7 x8 1 hy.bd) mc_X13_lifts ml_L_68 im_X13_lifts se_X13_lifts (by decide) hy.bd.kd rfl (rm_law hr (by decide) (show ce + 0 ≤ 601024 by omega) (show sl + 0 ≤ 7293034 by omega)) (Nat.le_of_ble_eq_true rfl) rfl dL_law_703 (kmI rfl rfl (fun q11 hy => ?_))
      refine aw_ic_eq (pc := 706) hX 1982 (by decide) dL_law_706 (fun hc9 => ?_) (fun hc9 => ?_)
      · have hy := hy.t hc9
        exact AW.widen (by omega) (by omega) (hc q11.2 hy.s)
      · have hy := hy.f hc9
        exact hy.no.elim
  · have hy := hy.f hc9
    refine aw_iconst (pc := 662) hX 1 (by decide) dL_law_662 ?_
    refine aw_goto (pc := 663) hX 667 (by decide) dL_law_663 ?_
    refine aw_callV (pc := 667) (st := []) (a := 1) hX [vI x1, vI x2, vI x3, vI 1] (con_X11_lifts _ G _ 1 x1 x2 x3 1 hy.bd) mc_X11_lifts ml_L_64 im_X11_lifts se_X11_lifts (by decide) hy.bd.kd rfl (rm_law hr (by decide) (show ce + 0 ≤ 601024 by omega) (show sl + 0 ≤ 7293034 by omega)) (Nat.le_of_ble_eq_true rfl) rfl dL_law_667 (kmI rfl rfl (fun q12 hy => ?_))
    refine aw_aloadn (pc := 670) hX 2 rfl dL_law_670 ?_
    refine aw_xloadn (pc := 671) hX 0 rfl dL_law_671 ?_
    refine aw_iload (pc := 672) hX 4 rfl dL_law_672 ?_
    refine aw_iconst (pc := 674) hX 1 (by decide) dL_law_674 ?_
    refine aw_iadd (pc := 675) hX dL_law_675 ?_
    refine aw_scl (pc := 676) hX hsc hy dL_law_676 (fun x13 hy => ?_)
    refine aw_xloadn (pc := 677) hX 0 rfl dL_law_677 ?_
    refine aw_iload (pc := 678) hX 4 rfl dL_law_678 ?_
    refine aw_iconst (pc := 680) hX 2 (by decide) dL_law_680 ?_
    refine aw_iadd (pc := 681) hX dL_law_681 ?_
    refine aw_scl (pc := 682) hX hsc hy dL_law_682 (fun x14 hy => ?_)
    refine aw_xloadn (pc := 683) hX 0 rfl dL_law_683 ?_
    refine aw_iload (pc := 684) hX 4 rfl dL_law_684 ?_
    refine aw_iconst (pc := 686) hX 3 (by decide) dL_law_686 ?_
    refine aw_iadd (pc := 687) hX dL_law_687 ?_
    refine aw_scl (pc := 688) hX hsc hy dL_law_688 (fun x15 hy => ?_)
    refine aw_xloadn (pc := 689) hX 0 rfl dL_law_689 ?_
    refine aw_iload (pc := 690) hX 4 rfl dL_law_690 ?_
    refine aw_iconst (pc := 692) hX 4 (by decide) dL_law_692 ?_
    refine aw_iadd (pc := 693) hX dL_law_693 ?_
    refine aw_scl (pc := 694) hX hsc hy dL_law_694 (fun x16 hy => ?_)
    refine aw_if_eq (pc := 695) hX 702 (by decide) dL_law_695 (fun hc9 => ?_) (fun hc9 => ?_)
    · have hy := hy.t hc9
      refine aw_iconst (pc := 702) hX 0 (by decide) dL_law_702 ?_
      refine aw_callV (pc := 703) (st := [vI q12.1]) (a := 55) hX [vI x13, vI x14, vI x15, vI 0] (con_X13_lifts _ G _ 55 x13 x14 x15 0 hy.bd) mc_X13_lifts ml_L_68 im_X13_lifts se_X13_lifts (by decide) hy.bd.kd rfl (rm_law hr (by decide) (show ce + 0 ≤ 601024 by omega) (show sl + 0 ≤ 7293034 by omega)) (Nat.le_of_ble_eq_true rfl) rfl dL_law_703 (kmI rfl rfl (fun q17 hy => ?_))
      refine aw_ic_eq (pc := 706) hX 1982 (by decide) dL_law_706 (fun hc9 => ?_) (fun hc9 => ?_)
      · have hy := hy.t hc9
        exact AW.widen (by omega) (by omega) (hc q17.2 hy.s)
      · have hy := hy.f hc9
        exact hy.no.elim
    · have hy := hy.f hc9
      refine aw_iconst (pc := 698) hX 1 (by decide) dL_law_698 ?_
      refine aw_goto (pc := 699) hX 703 (by decide) dL_law_699 ?_
      refine aw_callV (pc := 703) (st := [vI q12.1]) (a := 55) hX [vI x13, vI x14, vI x15, vI 1] (con_X13_lifts _ G _ 55 x13 x14 x15 1 hy.bd) mc_X13_lifts ml_L_68 im_X13_lifts se_X13_lifts (by decide) hy.bd.kd rfl (rm_law hr (by decide) (show ce + 0 ≤ 601024 by omega) (show sl + 0 ≤ 7293034 by omega)) (Nat.le_of_ble_eq_true rfl) rfl dL_law_703 (kmI rfl rfl (fun q18 hy => ?_))
      refine aw_ic_eq (pc := 706) hX 1982 (by decide) dL_law_706 (fun hc9 => ?_) (fun hc9 => ?_)
      · have hy := hy.t hc9
        exact AW.widen (by omega) (by omega) (hc q18.2 hy.s)
      · have hy := hy.f hc9
        exact hy.no.elim
def lc_11 (sc : Nat → Int32) (L : Nat) (h : Mem) (v4 : Int32) : Option Mem :=
  (scI sc L (v4 + 1)).bind fun x1 => (scI sc L (v4 + 2)).bind fun x2 => (scI sc L (v4 + 3)).bind fun x3 => (f_X11_passes h 1 x1 x2 x3).bind fun q4 => (scI sc L (v4 + 1)).bind fun x5 => (scI sc L (v4 + 2)).bind fun x6 => (scI sc L (v4 + 3)).bind fun x7 => (f_X13_passes q4.2 55 x5 x6 x7).bind fun q8 => (if q4.1 = q8.1 then some q8.2 else none)
set_option maxRecDepth 100000 in
set_option maxHeartbeats 4000000 in
theorem w_lc_11 {G : GE} {X : CX} {sc : Nat → Int32} {L : Nat} (hX : Ok G X cL_law RL) (hN : xn X = 7) (hr : xr X = room_1) (hsc : SC G X L sc) {P : Mem → Prop} (ce sl : Nat) (hce : ce + 20 ≤ 601024) (hsl : sl + 400 ≤ 7293034) (v4 : Int32) (hc : ∀ h', P h' → AW G X 1982 [(0, vX 20), (1, vR 1), (2, vR 55), (3, vR 68), (4, vI v4)] [] h' (ce + 20) (sl + 400)) (h : Mem) (hy : OK (lc_11 sc L h v4) P) : AW G X 711 [(0, vX 20), (1, vR 1), (2, vR 55), (3, vR 68), (4, vI v4)] [] h ce sl := by
  unfold lc_11 at hy
  refine aw_aloadn (pc := 711) hX 1 rfl dL_law_711 ?_
  refine aw_xloadn (pc := 712) hX 0 rfl dL_law_712 ?_
  refine aw_iload (pc := 713) hX 4 rfl dL_law_713 ?_
  refine aw_iconst (pc := 715) hX 1 (by decide) dL_law_715 ?_
  refine aw_iadd (pc := 716) hX dL_law_716 ?_
  refine aw_scl (pc := 717) hX hsc hy dL_law_717 (fun x1 hy => ?_)
  refine aw_xloadn (pc := 718) hX 0 rfl dL_law_718 ?_
  refine aw_iload (pc := 719) hX 4 rfl dL_law_719 ?_
  refine aw_iconst (pc := 721) hX 2 (by decide) dL_law_721 ?_
  refine aw_iadd (pc := 722) hX dL_law_722 ?_
  refine aw_scl (pc := 723) hX hsc hy dL_law_723 (fun x2 hy => ?_)
  refine aw_xloadn (pc := 724) hX 0 rfl dL_law_724 ?_
  refine aw_iload (pc := 725) hX 4 rfl dL_law_725 ?_
  refine aw_iconst (pc := 727) hX 3 (by decide) dL_law_727 ?_
  refine aw_iadd (pc := 728) hX dL_law_728 ?_
  refine aw_scl (pc := 729) hX hsc hy dL_law_729 (fun x3 hy => ?_)
  refine aw_callV (pc := 730) (st := []) (a := 1) hX [vI x1, vI x2, vI x3] (con_X11_passes _ G _ 1 x1 x2 x3 hy.bd) mc_X11_passes ml_L_69 im_X11_passes se_X11_passes (by decide) hy.bd.kd rfl (rm_law hr (by decide) (show ce + 0 ≤ 601024 by omega) (show sl + 0 ≤ 7293034 by omega)) (Nat.le_of_ble_eq_true rfl) rfl dL_law_730 (kmI rfl rfl (fun q4 hy => ?_))
  refine aw_aloadn (pc := 733) hX 2 rfl dL_law_733 ?_
  refine aw_xloadn (pc := 734) hX 0 rfl dL_law_734 ?_
  refine aw_iload (pc := 735) hX 4 rfl dL_law_735 ?_
  refine aw_iconst (pc := 737) hX 1 (by decide) dL_law_737 ?_
  refine aw_iadd (pc := 738) hX dL_law_738 ?_
  refine aw_scl (pc := 739) hX hsc hy dL_law_739 (fun x5 hy => ?_)
  refine aw_xloadn (pc := 740) hX 0 rfl dL_law_740 ?_
  refine aw_iload (pc := 741) hX 4 rfl dL_law_741 ?_
  refine aw_iconst (pc := 743) hX 2 (by decide) dL_law_743 ?_
  refine aw_iadd (pc := 744) hX dL_law_744 ?_
  refine aw_scl (pc := 745) hX hsc hy dL_law_745 (fun x6 hy => ?_)
  refine aw_xloadn (pc := 746) hX 0 rfl dL_law_746 ?_
  refine aw_iload (pc := 747) hX 4 rfl dL_law_747 ?_
  refine aw_iconst (pc := 749) hX 3 (by decide) dL_law_749 ?_
  refine aw_iadd (pc := 750) hX dL_law_750 ?_
  refine aw_scl (pc := 751) hX hsc hy dL_law_751 (fun x7 hy => ?_)
  refine aw_callV (pc := 752) (st := [vI q4.1]) (a := 55) hX [vI x5, vI x6, vI x7] (con_X13_passes _ G _ 55 x5 x6 x7 hy.bd) mc_X13_passes ml_L_72 im_X13_passes se_X13_passes (by decide) hy.bd.kd rfl (rm_law hr (by decide) (show ce + 0 ≤ 601024 by omega) (show sl + 0 ≤ 7293034 by omega)) (Nat.le_of_ble_eq_true rfl) rfl dL_law_752 (kmI rfl rfl (fun q8 hy => ?_))
  refine aw_ic_eq (pc := 755) hX 1982 (by decide) dL_law_755 (fun hc9 => ?_) (fun hc9 => ?_)
  · have hy := hy.t hc9
    exact AW.widen (by omega) (by omega) (hc q8.2 hy.s)
  · have hy := hy.f hc9
    exact hy.no.elim
def lc_12 (sc : Nat → Int32) (L : Nat) (h : Mem) (v4 : Int32) : Option Mem :=
  (scI sc L (v4 + 1)).bind fun x1 => (f_X11_opens h 1 x1).bind fun q2 => (scI sc L (v4 + 1)).bind fun x3 => (f_X13_opens q2.2 55 x3).bind fun q4 => (if q2.1 = q4.1 then some q4.2 else none)
set_option maxRecDepth 100000 in
set_option maxHeartbeats 4000000 in
theorem w_lc_12 {G : GE} {X : CX} {sc : Nat → Int32} {L : Nat} (hX : Ok G X cL_law RL) (hN : xn X = 7) (hr : xr X = room_1) (hsc : SC G X L sc) {P : Mem → Prop} (ce sl : Nat) (hce : ce + 20 ≤ 601024) (hsl : sl + 400 ≤ 7293034) (v4 : Int32) (hc : ∀ h', P h' → AW G X 1982 [(0, vX 20), (1, vR 1), (2, vR 55), (3, vR 68), (4, vI v4)] [] h' (ce + 20) (sl + 400)) (h : Mem) (hy : OK (lc_12 sc L h v4) P) : AW G X 760 [(0, vX 20), (1, vR 1), (2, vR 55), (3, vR 68), (4, vI v4)] [] h ce sl := by
  unfold lc_12 at hy
  refine aw_aloadn (pc := 760) hX 1 rfl dL_law_760 ?_
  refine aw_xloadn (pc := 761) hX 0 rfl dL_law_761 ?_
  refine aw_iload (pc := 762) hX 4 rfl dL_law_762 ?_
  refine aw_iconst (pc := 764) hX 1 (by decide) dL_law_764 ?_
  refine aw_iadd (pc := 765) hX dL_law_765 ?_
  refine aw_scl (pc := 766) hX hsc hy dL_law_766 (fun x1 hy => ?_)
  refine aw_callV (pc := 767) (st := []) (a := 1) hX [vI x1] (con_X11_opens _ G _ 1 x1 hy.bd) mc_X11_opens ml_L_73 im_X11_opens se_X11_opens (by decide) hy.bd.kd rfl (rm_law hr (by decide) (show ce + 0 ≤ 601024 by omega) (show sl + 0 ≤ 7293034 by omega)) (Nat.le_of_ble_eq_true rfl) rfl dL_law_767 (kmI rfl rfl (fun q2 hy => ?_))
  refine aw_aloadn (pc := 770) hX 2 rfl dL_law_770 ?_
  refine aw_xloadn (pc := 771) hX 0 rfl dL_law_771 ?_
  refine aw_iload (pc := 772) hX 4 rfl dL_law_772 ?_
  refine aw_iconst (pc := 774) hX 1 (by decide) dL_law_774 ?_
  refine aw_iadd (pc := 775) hX dL_law_775 ?_
  refine aw_scl (pc := 776) hX hsc hy dL_law_776 (fun x3 hy => ?_)
  refine aw_callV (pc := 777) (st := [vI q2.1]) (a := 55) hX [vI x3] (con_X13_opens _ G _ 55 x3 hy.bd) mc_X13_opens ml_L_76 im_X13_opens se_X13_opens (by decide) hy.bd.kd rfl (rm_law hr (by decide) (show ce + 0 ≤ 601024 by omega) (show sl + 0 ≤ 7293034 by omega)) (Nat.le_of_ble_eq_true rfl) rfl dL_law_777 (kmI rfl rfl (fun q4 hy => ?_))
  refine aw_ic_eq (pc := 780) hX 1982 (by decide) dL_law_780 (fun hc9 => ?_) (fun hc9 => ?_)
  · have hy := hy.t hc9
    exact AW.widen (by omega) (by omega) (hc q4.2 hy.s)
  · have hy := hy.f hc9
    exact hy.no.elim
def lc_13 (sc : Nat → Int32) (L : Nat) (h : Mem) (v4 : Int32) : Option Mem :=
  (f_X11_likest h 1).bind fun q1 => (f_X13_likest q1.2 55).bind fun q2 => (if q1.1 = q2.1 then some q2.2 else none)
set_option maxRecDepth 100000 in
set_option maxHeartbeats 4000000 in
theorem w_lc_13 {G : GE} {X : CX} {sc : Nat → Int32} {L : Nat} (hX : Ok G X cL_law RL) (hN : xn X = 7) (hr : xr X = room_1) (hsc : SC G X L sc) {P : Mem → Prop} (ce sl : Nat) (hce : ce + 20 ≤ 601024) (hsl : sl + 400 ≤ 7293034) (v4 : Int32) (hc : ∀ h', P h' → AW G X 1982 [(0, vX 20), (1, vR 1), (2, vR 55), (3, vR 68), (4, vI v4)] [] h' (ce + 20) (sl + 400)) (h : Mem) (hy : OK (lc_13 sc L h v4) P) : AW G X 785 [(0, vX 20), (1, vR 1), (2, vR 55), (3, vR 68), (4, vI v4)] [] h ce sl := by
  unfold lc_13 at hy
  refine aw_aloadn (pc := 785) hX 1 rfl dL_law_785 ?_
  refine aw_callV (pc := 786) (st := []) (a := 1) hX [] (con_X11_likest _ G _ 1 hy.bd) mc_X11_likest ml_L_77 im_X11_likest se_X11_likest (by decide) hy.bd.kd rfl (rm_law hr (by decide) (show ce + 0 ≤ 601024 by omega) (show sl + 0 ≤ 7293034 by omega)) (Nat.le_of_ble_eq_true rfl) rfl dL_law_786 (kmI rfl rfl (fun q1 hy => ?_))
  refine aw_aloadn (pc := 789) hX 2 rfl dL_law_789 ?_
  refine aw_callV (pc := 790) (st := [vI q1.1]) (a := 55) hX [] (con_X13_likest _ G _ 55 hy.bd) mc_X13_likest ml_L_80 im_X13_likest se_X13_likest (by decide) hy.bd.kd rfl (rm_law hr (by decide) (show ce + 0 ≤ 601024 by omega) (show sl + 0 ≤ 7293034 by omega)) (Nat.le_of_ble_eq_true rfl) rfl dL_law_790 (kmI rfl rfl (fun q2 hy => ?_))
  refine aw_ic_eq (pc := 793) hX 1982 (by decide) dL_law_793 (fun hc9 => ?_) (fun hc9 => ?_)
  · have hy := hy.t hc9
    exact AW.widen (by omega) (by omega) (hc q2.2 hy.s)
  · have hy := hy.f hc9
    exact hy.no.elim
def lc_14 (sc : Nat → Int32) (L : Nat) (h : Mem) (v4 : Int32) : Option Mem :=
  (scI sc L (v4 + 1)).bind fun x1 => (scI sc L (v4 + 2)).bind fun x2 => (f_X11_way h 1 x1 x2).bind fun q3 => (scI sc L (v4 + 1)).bind fun x4 => (scI sc L (v4 + 2)).bind fun x5 => (f_X13_way q3.2 55 x4 x5).bind fun q6 => (if q3.1 = q6.1 then some q6.2 else none)
set_option maxRecDepth 100000 in
set_option maxHeartbeats 4000000 in
theorem w_lc_14 {G : GE} {X : CX} {sc : Nat → Int32} {L : Nat} (hX : Ok G X cL_law RL) (hN : xn X = 7) (hr : xr X = room_1) (hsc : SC G X L sc) {P : Mem → Prop} (ce sl : Nat) (hce : ce + 20 ≤ 601024) (hsl : sl + 400 ≤ 7293034) (v4 : Int32) (hc : ∀ h', P h' → AW G X 1982 [(0, vX 20), (1, vR 1), (2, vR 55), (3, vR 68), (4, vI v4)] [] h' (ce + 20) (sl + 400)) (h : Mem) (hy : OK (lc_14 sc L h v4) P) : AW G X 798 [(0, vX 20), (1, vR 1), (2, vR 55), (3, vR 68), (4, vI v4)] [] h ce sl := by
  unfold lc_14 at hy
  refine aw_aloadn (pc := 798) hX 1 rfl dL_law_798 ?_
  refine aw_xloadn (pc := 799) hX 0 rfl dL_law_799 ?_
  refine aw_iload (pc := 800) hX 4 rfl dL_law_800 ?_
  refine aw_iconst (pc := 802) hX 1 (by decide) dL_law_802 ?_
  refine aw_iadd (pc := 803) hX dL_law_803 ?_
  refine aw_scl (pc := 804) hX hsc hy dL_law_804 (fun x1 hy => ?_)
  refine aw_xloadn (pc := 805) hX 0 rfl dL_law_805 ?_
  refine aw_iload (pc := 806) hX 4 rfl dL_law_806 ?_
  refine aw_iconst (pc := 808) hX 2 (by decide) dL_law_808 ?_
  refine aw_iadd (pc := 809) hX dL_law_809 ?_
  refine aw_scl (pc := 810) hX hsc hy dL_law_810 (fun x2 hy => ?_)
  refine aw_callV (pc := 811) (st := []) (a := 1) hX [vI x1, vI x2] (con_X11_way _ G _ 1 x1 x2 hy.bd) mc_X11_way ml_L_81 im_X11_way se_X11_way (by decide) hy.bd.kd rfl (rm_law hr (by decide) (show ce + 0 ≤ 601024 by omega) (show sl + 0 ≤ 7293034 by omega)) (Nat.le_of_ble_eq_true rfl) rfl dL_law_811 (kmI rfl rfl (fun q3 hy => ?_))
  refine aw_aloadn (pc := 814) hX 2 rfl dL_law_814 ?_
  refine aw_xloadn (pc := 815) hX 0 rfl dL_law_815 ?_
  refine aw_iload (pc := 816) hX 4 rfl dL_law_816 ?_
  refine aw_iconst (pc := 818) hX 1 (by decide) dL_law_818 ?_
  refine aw_iadd (pc := 819) hX dL_law_819 ?_
  refine aw_scl (pc := 820) hX hsc hy dL_law_820 (fun x4 hy => ?_)
  refine aw_xloadn (pc := 821) hX 0 rfl dL_law_821 ?_
  refine aw_iload (pc := 822) hX 4 rfl dL_law_822 ?_
  refine aw_iconst (pc := 824) hX 2 (by decide) dL_law_824 ?_
  refine aw_iadd (pc := 825) hX dL_law_825 ?_
  refine aw_scl (pc := 826) hX hsc hy dL_law_826 (fun x5 hy => ?_)
  refine aw_callV (pc := 827) (st := [vI q3.1]) (a := 55) hX [vI x4, vI x5] (con_X13_way _ G _ 55 x4 x5 hy.bd) mc_X13_way ml_L_84 im_X13_way se_X13_way (by decide) hy.bd.kd rfl (rm_law hr (by decide) (show ce + 0 ≤ 601024 by omega) (show sl + 0 ≤ 7293034 by omega)) (Nat.le_of_ble_eq_true rfl) rfl dL_law_827 (kmI rfl rfl (fun q6 hy => ?_))
  refine aw_ic_eq (pc := 830) hX 1982 (by decide) dL_law_830 (fun hc9 => ?_) (fun hc9 => ?_)
  · have hy := hy.t hc9
    exact AW.widen (by omega) (by omega) (hc q6.2 hy.s)
  · have hy := hy.f hc9
    exact hy.no.elim
def lc_15 (sc : Nat → Int32) (L : Nat) (h : Mem) (v4 : Int32) : Option Mem :=
  (scI sc L (v4 + 1)).bind fun x1 => (scI sc L (v4 + 2)).bind fun x2 => (scI sc L (v4 + 3)).bind fun x3 => (f_X11_wayAt h 1 x1 x2 x3).bind fun q4 => (scI sc L (v4 + 1)).bind fun x5 => (scI sc L (v4 + 2)).bind fun x6 => (scI sc L (v4 + 3)).bind fun x7 => (f_X13_wayAt q4.2 55 x5 x6 x7).bind fun q8 => (if q4.1 = q8.1 then some q8.2 else none)
set_option maxRecDepth 100000 in
set_option maxHeartbeats 4000000 in
theorem w_lc_15 {G : GE} {X : CX} {sc : Nat → Int32} {L : Nat} (hX : Ok G X cL_law RL) (hN : xn X = 7) (hr : xr X = room_1) (hsc : SC G X L sc) {P : Mem → Prop} (ce sl : Nat) (hce : ce + 20 ≤ 601024) (hsl : sl + 400 ≤ 7293034) (v4 : Int32) (hc : ∀ h', P h' → AW G X 1982 [(0, vX 20), (1, vR 1), (2, vR 55), (3, vR 68), (4, vI v4)] [] h' (ce + 20) (sl + 400)) (h : Mem) (hy : OK (lc_15 sc L h v4) P) : AW G X 835 [(0, vX 20), (1, vR 1), (2, vR 55), (3, vR 68), (4, vI v4)] [] h ce sl := by
  unfold lc_15 at hy
  refine aw_aloadn (pc := 835) hX 1 rfl dL_law_835 ?_
  refine aw_xloadn (pc := 836) hX 0 rfl dL_law_836 ?_
  refine aw_iload (pc := 837) hX 4 rfl dL_law_837 ?_
  refine aw_iconst (pc := 839) hX 1 (by decide) dL_law_839 ?_
  refine aw_iadd (pc := 840) hX dL_law_840 ?_
  refine aw_scl (pc := 841) hX hsc hy dL_law_841 (fun x1 hy => ?_)
  refine aw_xloadn (pc := 842) hX 0 rfl dL_law_842 ?_
  refine aw_iload (pc := 843) hX 4 rfl dL_law_843 ?_
  refine aw_iconst (pc := 845) hX 2 (by decide) dL_law_845 ?_
  refine aw_iadd (pc := 846) hX dL_law_846 ?_
  refine aw_scl (pc := 847) hX hsc hy dL_law_847 (fun x2 hy => ?_)
  refine aw_xloadn (pc := 848) hX 0 rfl dL_law_848 ?_
  refine aw_iload (pc := 849) hX 4 rfl dL_law_849 ?_
  refine aw_iconst (pc := 851) hX 3 (by decide) dL_law_851 ?_
  refine aw_iadd (pc := 852) hX dL_law_852 ?_
  refine aw_scl (pc := 853) hX hsc hy dL_law_853 (fun x3 hy => ?_)
  refine aw_callV (pc := 854) (st := []) (a := 1) hX [vI x1, vI x2, vI x3] (con_X11_wayAt _ G _ 1 x1 x2 x3 hy.bd) mc_X11_wayAt ml_L_85 im_X11_wayAt se_X11_wayAt (by decide) hy.bd.kd rfl (rm_law hr (by decide) (show ce + 0 ≤ 601024 by omega) (show sl + 0 ≤ 7293034 by omega)) (Nat.le_of_ble_eq_true rfl) rfl dL_law_854 (kmI rfl rfl (fun q4 hy => ?_))
  refine aw_aloadn (pc := 857) hX 2 rfl dL_law_857 ?_
  refine aw_xloadn (pc := 858) hX 0 rfl dL_law_858 ?_
  refine aw_iload (pc := 859) hX 4 rfl dL_law_859 ?_
  refine aw_iconst (pc := 861) hX 1 (by decide) dL_law_861 ?_
  refine aw_iadd (pc := 862) hX dL_law_862 ?_
  refine aw_scl (pc := 863) hX hsc hy dL_law_863 (fun x5 hy => ?_)
  refine aw_xloadn (pc := 864) hX 0 rfl dL_law_864 ?_
  refine aw_iload (pc := 865) hX 4 rfl dL_law_865 ?_
  refine aw_iconst (pc := 867) hX 2 (by decide) dL_law_867 ?_
  refine aw_iadd (pc := 868) hX dL_law_868 ?_
  refine aw_scl (pc := 869) hX hsc hy dL_law_869 (fun x6 hy => ?_)
  refine aw_xloadn (pc := 870) hX 0 rfl dL_law_870 ?_
  refine aw_iload (pc := 871) hX 4 rfl dL_law_871 ?_
  refine aw_iconst (pc := 873) hX 3 (by decide) dL_law_873 ?_
  refine aw_iadd (pc := 874) hX dL_law_874 ?_
  refine aw_scl (pc := 875) hX hsc hy dL_law_875 (fun x7 hy => ?_)
  refine aw_callV (pc := 876) (st := [vI q4.1]) (a := 55) hX [vI x5, vI x6, vI x7] (con_X13_wayAt _ G _ 55 x5 x6 x7 hy.bd) mc_X13_wayAt ml_L_88 im_X13_wayAt se_X13_wayAt (by decide) hy.bd.kd rfl (rm_law hr (by decide) (show ce + 0 ≤ 601024 by omega) (show sl + 0 ≤ 7293034 by omega)) (Nat.le_of_ble_eq_true rfl) rfl dL_law_876 (kmI rfl rfl (fun q8 hy => ?_))
  refine aw_ic_eq (pc := 879) hX 1982 (by decide) dL_law_879 (fun hc9 => ?_) (fun hc9 => ?_)
  · have hy := hy.t hc9
    exact AW.widen (by omega) (by omega) (hc q8.2 hy.s)
  · have hy := hy.f hc9
    exact hy.no.elim
def lc_16 (sc : Nat → Int32) (L : Nat) (h : Mem) (v4 : Int32) : Option Mem :=
  (scI sc L (v4 + 1)).bind fun x1 => (f_X11_reach h 1 x1).bind fun q2 => (scI sc L (v4 + 1)).bind fun x3 => (f_X13_reach q2.2 55 x3).bind fun q4 => (if q2.1 = q4.1 then some q4.2 else none)
set_option maxRecDepth 100000 in
set_option maxHeartbeats 4000000 in
theorem w_lc_16 {G : GE} {X : CX} {sc : Nat → Int32} {L : Nat} (hX : Ok G X cL_law RL) (hN : xn X = 7) (hr : xr X = room_1) (hsc : SC G X L sc) {P : Mem → Prop} (ce sl : Nat) (hce : ce + 20 ≤ 601024) (hsl : sl + 400 ≤ 7293034) (v4 : Int32) (hc : ∀ h', P h' → AW G X 1982 [(0, vX 20), (1, vR 1), (2, vR 55), (3, vR 68), (4, vI v4)] [] h' (ce + 20) (sl + 400)) (h : Mem) (hy : OK (lc_16 sc L h v4) P) : AW G X 884 [(0, vX 20), (1, vR 1), (2, vR 55), (3, vR 68), (4, vI v4)] [] h ce sl := by
  unfold lc_16 at hy
  refine aw_aloadn (pc := 884) hX 1 rfl dL_law_884 ?_
  refine aw_xloadn (pc := 885) hX 0 rfl dL_law_885 ?_
  refine aw_iload (pc := 886) hX 4 rfl dL_law_886 ?_
  refine aw_iconst (pc := 888) hX 1 (by decide) dL_law_888 ?_
  refine aw_iadd (pc := 889) hX dL_law_889 ?_
  refine aw_scl (pc := 890) hX hsc hy dL_law_890 (fun x1 hy => ?_)
  refine aw_callV (pc := 891) (st := []) (a := 1) hX [vI x1] (con_X11_reach _ G _ 1 x1 hy.bd) mc_X11_reach ml_L_89 im_X11_reach se_X11_reach (by decide) hy.bd.kd rfl (rm_law hr (by decide) (show ce + 0 ≤ 601024 by omega) (show sl + 0 ≤ 7293034 by omega)) (Nat.le_of_ble_eq_true rfl) rfl dL_law_891 (kmI rfl rfl (fun q2 hy => ?_))
  refine aw_aloadn (pc := 894) hX 2 rfl dL_law_894 ?_
  refine aw_xloadn (pc := 895) hX 0 rfl dL_law_895 ?_
  refine aw_iload (pc := 896) hX 4 rfl dL_law_896 ?_
  refine aw_iconst (pc := 898) hX 1 (by decide) dL_law_898 ?_
  refine aw_iadd (pc := 899) hX dL_law_899 ?_
  refine aw_scl (pc := 900) hX hsc hy dL_law_900 (fun x3 hy => ?_)
  refine aw_callV (pc := 901) (st := [vI q2.1]) (a := 55) hX [vI x3] (con_X13_reach _ G _ 55 x3 hy.bd) mc_X13_reach ml_L_92 im_X13_reach se_X13_reach (by decide) hy.bd.kd rfl (rm_law hr (by decide) (show ce + 0 ≤ 601024 by omega) (show sl + 0 ≤ 7293034 by omega)) (Nat.le_of_ble_eq_true rfl) rfl dL_law_901 (kmI rfl rfl (fun q4 hy => ?_))
  refine aw_ic_eq (pc := 904) hX 1982 (by decide) dL_law_904 (fun hc9 => ?_) (fun hc9 => ?_)
  · have hy := hy.t hc9
    exact AW.widen (by omega) (by omega) (hc q4.2 hy.s)
  · have hy := hy.f hc9
    exact hy.no.elim
def lc_17 (sc : Nat → Int32) (L : Nat) (h : Mem) (v4 : Int32) : Option Mem :=
  (scI sc L (v4 + 1)).bind fun x1 => (scI sc L (v4 + 2)).bind fun x2 => (if x2 = 0 then (f_X11_reachIf h 1 x1 0).bind fun q3 => (scI sc L (v4 + 1)).bind fun x4 => (scI sc L (v4 + 2)).bind fun x5 => (if x5 = 0 then (f_X13_reachIf q3.2 55 x4 0).bind fun q6 => (if q3.1 = q6.1 then some q6.2 else none) else (f_X13_reachIf q3.2 55 x4 1).bind fun q7 => (if q3.1 = q7.1 then some q7.2 else none)) else (f_X11_reachIf h 1 x1 1).bind fun q8 => (scI sc L (v4 + 1)).bind fun x9 => (scI sc L (v4 + 2)).bind fun x10 => (if x10 = 0 then (f_X13_reachIf q8.2 55 x9 0).bind fun q11 => (if q8.1 = q11.1 then some q11.2 else none) else (f_X13_reachIf q8.2 55 x9 1).bind fun q12 => (if q8.1 = q12.1 then some q12.2 else none)))
set_option maxRecDepth 100000 in
set_option maxHeartbeats 4000000 in
theorem w_lc_17 {G : GE} {X : CX} {sc : Nat → Int32} {L : Nat} (hX : Ok G X cL_law RL) (hN : xn X = 7) (hr : xr X = room_1) (hsc : SC G X L sc) {P : Mem → Prop} (ce sl : Nat) (hce : ce + 20 ≤ 601024) (hsl : sl + 400 ≤ 7293034) (v4 : Int32) (hc : ∀ h', P h' → AW G X 1982 [(0, vX 20), (1, vR 1), (2, vR 55), (3, vR 68), (4, vI v4)] [] h' (ce + 20) (sl + 400)) (h : Mem) (hy : OK (lc_17 sc L h v4) P) : AW G X 909 [(0, vX 20), (1, vR 1), (2, vR 55), (3, vR 68), (4, vI v4)] [] h ce sl := by
  unfold lc_17 at hy
  refine aw_aloadn (pc := 909) hX 1 rfl dL_law_909 ?_
  refine aw_xloadn (pc := 910) hX 0 rfl dL_law_910 ?_
  refine aw_iload (pc := 911) hX 4 rfl dL_law_911 ?_
  refine aw_iconst (pc := 913) hX 1 (by decide) dL_law_913 ?_
  refine aw_iadd (pc := 914) hX dL_law_914 ?_
  refine aw_scl (pc := 915) hX hsc hy dL_law_915 (fun x1 hy => ?_)
  refine aw_xloadn (pc := 916) hX 0 rfl dL_law_916 ?_
  refine aw_iload (pc := 917) hX 4 rfl dL_law_917 ?_
  refine aw_iconst (pc := 919) hX 2 (by decide) dL_law_919 ?_
  refine aw_iadd (pc := 920) hX dL_law_920 ?_
  refine aw_scl (pc := 921) hX hsc hy dL_law_921 (fun x2 hy => ?_)
  refine aw_if_eq (pc := 922) hX 929 (by decide) dL_law_922 (fun hc9 => ?_) (fun hc9 => ?_)
  · have hy := hy.t hc9
    refine aw_iconst (pc := 929) hX 0 (by decide) dL_law_929 ?_
    refine aw_callV (pc := 930) (st := []) (a := 1) hX [vI x1, vI 0] (con_X11_reachIf _ G _ 1 x1 0 hy.bd) mc_X11_reachIf ml_L_93 im_X11_reachIf se_X11_reachIf (by decide) hy.bd.kd rfl (rm_law hr (by decide) (show ce + 0 ≤ 601024 by omega) (show sl + 0 ≤ 7293034 by omega)) (Nat.le_of_ble_eq_true rfl) rfl dL_law_930 (kmI rfl rfl (fun q3 hy => ?_))
    refine aw_aloadn (pc := 933) hX 2 rfl dL_law_933 ?_
    refine aw_xloadn (pc := 934) hX 0 rfl dL_law_934 ?_
    refine aw_iload (pc := 935) hX 4 rfl dL_law_935 ?_
    refine aw_iconst (pc := 937) hX 1 (by decide) dL_law_937 ?_
    refine aw_iadd (pc := 938) hX dL_law_938 ?_
    refine aw_scl (pc := 939) hX hsc hy dL_law_939 (fun x4 hy => ?_)
    refine aw_xloadn (pc := 940) hX 0 rfl dL_law_940 ?_
    refine aw_iload (pc := 941) hX 4 rfl dL_law_941 ?_
    refine aw_iconst (pc := 943) hX 2 (by decide) dL_law_943 ?_
    refine aw_iadd (pc := 944) hX dL_law_944 ?_
    refine aw_scl (pc := 945) hX hsc hy dL_law_945 (fun x5 hy => ?_)
    refine aw_if_eq (pc := 946) hX 953 (by decide) dL_law_946 (fun hc9 => ?_) (fun hc9 => ?_)
    · have hy := hy.t hc9
      refine aw_iconst (pc := 953) hX 0 (by decide) dL_law_953 ?_
      refine aw_callV (pc := 954) (st := [vI q3.1]) (a := 55) hX [vI x4, vI 0] (con_X13_reachIf _ G _ 55 x4 0 hy.bd) mc_X13_reachIf ml_L_97 im_X13_reachIf se_X13_reachIf (by decide) hy.bd.kd rfl (rm_law hr (by decide) (show ce + 0 ≤ 601024 by omega) (show sl + 0 ≤ 7293034 by omega)) (Nat.le_of_ble_eq_true rfl) rfl dL_law_954 (kmI rfl rfl (fun q6 hy => ?_))
      refine aw_ic_eq (pc := 957) hX 1982 (by decide) dL_law_957 (fun hc9 => ?_) (fun hc9 => ?_)
      · have hy := hy.t hc9
        exact AW.widen (by omega) (by omega) (hc q6.2 hy.s)
      · have hy := hy.f hc9
        exact hy.no.elim
    · have hy := hy.f hc9
      refine aw_iconst (pc := 949) hX 1 (by decide) dL_law_949 ?_
      refine aw_goto (pc := 950) hX 954 (by decide) dL_law_950 ?_
      refine aw_callV (pc := 954) (st := [vI q3.1]) (a := 55) hX [vI x4, vI 1] (con_X13_reachIf _ G _ 55 x4 1 hy.bd) mc_X13_reachIf ml_L_97 im_X13_reachIf se_X13_reachIf (by decide) hy.bd.kd rfl (rm_law hr (by decide) (show ce + 0 ≤ 601024 by omega) (show sl + 0 ≤ 7293034 by omega)) (Nat.le_of_ble_eq_true rfl) rfl dL_law_954 (kmI rfl rfl (fun q7 hy => ?_))
      refine aw_ic_eq (pc := 957) hX 1982 (by decide) dL_law_957 (fun hc9 => ?_) (fun hc9 => ?_)
      · have hy := hy.t hc9
        exact AW.widen (by omega) (by omega) (hc q7.2 hy.s)
      · have hy := hy.f hc9
        exact hy.no.elim
  · have hy := hy.f hc9
    refine aw_iconst (pc := 925) hX 1 (by decide) dL_law_925 ?_
    refine aw_goto (pc := 926) hX 930 (by decide) dL_law_926 ?_
    refine aw_callV (pc := 930) (st := []) (a := 1) hX [vI x1, vI 1] (con_X11_reachIf _ G _ 1 x1 1 hy.bd) mc_X11_reachIf ml_L_93 im_X11_reachIf se_X11_reachIf (by decide) hy.bd.kd rfl (rm_law hr (by decide) (show ce + 0 ≤ 601024 by omega) (show sl + 0 ≤ 7293034 by omega)) (Nat.le_of_ble_eq_true rfl) rfl dL_law_930 (kmI rfl rfl (fun q8 hy => ?_))
    refine aw_aloadn (pc := 933) hX 2 rfl dL_law_933 ?_
    refine aw_xloadn (pc := 934) hX 0 rfl dL_law_934 ?_
    refine aw_iload (pc := 935) hX 4 rfl dL_law_935 ?_
    refine aw_iconst (pc := 937) hX 1 (by decide) dL_law_937 ?_
    refine aw_iadd (pc := 938) hX dL_law_938 ?_
    refine aw_scl (pc := 939) hX hsc hy dL_law_939 (fun x9 hy => ?_)
    refine aw_xloadn (pc := 940) hX 0 rfl dL_law_940 ?_
    refine aw_iload (pc := 941) hX 4 rfl dL_law_941 ?_
    refine aw_iconst (pc := 943) hX 2 (by decide) dL_law_943 ?_
    refine aw_iadd (pc := 944) hX dL_law_944 ?_
    refine aw_scl (pc := 945) hX hsc hy dL_law_945 (fun x10 hy => ?_)
    refine aw_if_eq (pc := 946) hX 953 (by decide) dL_law_946 (fun hc9 => ?_) (fun hc9 => ?_)
    · have hy := hy.t hc9
      refine aw_iconst (pc := 953) hX 0 (by decide) dL_law_953 ?_
      refine aw_callV (pc := 954) (st := [vI q8.1]) (a := 55) hX [vI x9, vI 0] (con_X13_reachIf _ G _ 55 x9 0 hy.bd) mc_X13_reachIf ml_L_97 im_X13_reachIf se_X13_reachIf (by decide) hy.bd.kd rfl (rm_law hr (by decide) (show ce + 0 ≤ 601024 by omega) (show sl + 0 ≤ 7293034 by omega)) (Nat.le_of_ble_eq_true rfl) rfl dL_law_954 (kmI rfl rfl (fun q11 hy => ?_))
      refine aw_ic_eq (pc := 957) hX 1982 (by decide) dL_law_957 (fun hc9 => ?_) (fun hc9 => ?_)
      · have hy := hy.t hc9
        exact AW.widen (by omega) (by omega) (hc q11.2 hy.s)
      · have hy := hy.f hc9
        exact hy.no.elim
    · have hy := hy.f hc9
      refine aw_iconst (pc := 949) hX 1 (by decide) dL_law_949 ?_
      refine aw_goto (pc := 950) hX 954 (by decide) dL_law_950 ?_
      refine aw_callV (pc := 954) (st := [vI q8.1]) (a := 55) hX [vI x9, vI 1] (con_X13_reachIf _ G _ 55 x9 1 hy.bd) mc_X13_reachIf ml_L_97 im_X13_reachIf se_X13_reachIf (by decide) hy.bd.kd rfl (rm_law hr (by decide) (show ce + 0 ≤ 601024 by omega) (show sl + 0 ≤ 7293034 by omega)) (Nat.le_of_ble_eq_true rfl) rfl dL_law_954 (kmI rfl rfl (fun q12 hy => ?_))
      refine aw_ic_eq (pc := 957) hX 1982 (by decide) dL_law_957 (fun hc9 => ?_) (fun hc9 => ?_)
      · have hy := hy.t hc9
        exact AW.widen (by omega) (by omega) (hc q12.2 hy.s)
      · have hy := hy.f hc9
        exact hy.no.elim
def lc_18 (sc : Nat → Int32) (L : Nat) (h : Mem) (v4 : Int32) : Option Mem :=
  (scI sc L (v4 + 1)).bind fun x1 => (f_X11_bestTune h 1 x1).bind fun q2 => (scI sc L (v4 + 1)).bind fun x3 => (f_X13_bestTune q2.2 55 x3).bind fun q4 => (if q2.1 = q4.1 then some q4.2 else none)
set_option maxRecDepth 100000 in
set_option maxHeartbeats 4000000 in
theorem w_lc_18 {G : GE} {X : CX} {sc : Nat → Int32} {L : Nat} (hX : Ok G X cL_law RL) (hN : xn X = 7) (hr : xr X = room_1) (hsc : SC G X L sc) {P : Mem → Prop} (ce sl : Nat) (hce : ce + 20 ≤ 601024) (hsl : sl + 400 ≤ 7293034) (v4 : Int32) (hc : ∀ h', P h' → AW G X 1982 [(0, vX 20), (1, vR 1), (2, vR 55), (3, vR 68), (4, vI v4)] [] h' (ce + 20) (sl + 400)) (h : Mem) (hy : OK (lc_18 sc L h v4) P) : AW G X 962 [(0, vX 20), (1, vR 1), (2, vR 55), (3, vR 68), (4, vI v4)] [] h ce sl := by
  unfold lc_18 at hy
  refine aw_aloadn (pc := 962) hX 1 rfl dL_law_962 ?_
  refine aw_xloadn (pc := 963) hX 0 rfl dL_law_963 ?_
  refine aw_iload (pc := 964) hX 4 rfl dL_law_964 ?_
  refine aw_iconst (pc := 966) hX 1 (by decide) dL_law_966 ?_
  refine aw_iadd (pc := 967) hX dL_law_967 ?_
  refine aw_scl (pc := 968) hX hsc hy dL_law_968 (fun x1 hy => ?_)
  refine aw_callV (pc := 969) (st := []) (a := 1) hX [vI x1] (con_X11_bestTune _ G _ 1 x1 hy.bd) mc_X11_bestTune ml_L_98 im_X11_bestTune se_X11_bestTune (by decide) hy.bd.kd rfl (rm_law hr (by decide) (show ce + 0 ≤ 601024 by omega) (show sl + 0 ≤ 7293034 by omega)) (Nat.le_of_ble_eq_true rfl) rfl dL_law_969 (kmI rfl rfl (fun q2 hy => ?_))
  refine aw_aloadn (pc := 972) hX 2 rfl dL_law_972 ?_
  refine aw_xloadn (pc := 973) hX 0 rfl dL_law_973 ?_
  refine aw_iload (pc := 974) hX 4 rfl dL_law_974 ?_
  refine aw_iconst (pc := 976) hX 1 (by decide) dL_law_976 ?_
  refine aw_iadd (pc := 977) hX dL_law_977 ?_
  refine aw_scl (pc := 978) hX hsc hy dL_law_978 (fun x3 hy => ?_)
  refine aw_callV (pc := 979) (st := [vI q2.1]) (a := 55) hX [vI x3] (con_X13_bestTune _ G _ 55 x3 hy.bd) mc_X13_bestTune ml_L_101 im_X13_bestTune se_X13_bestTune (by decide) hy.bd.kd rfl (rm_law hr (by decide) (show ce + 0 ≤ 601024 by omega) (show sl + 0 ≤ 7293034 by omega)) (Nat.le_of_ble_eq_true rfl) rfl dL_law_979 (kmI rfl rfl (fun q4 hy => ?_))
  refine aw_ic_eq (pc := 982) hX 1982 (by decide) dL_law_982 (fun hc9 => ?_) (fun hc9 => ?_)
  · have hy := hy.t hc9
    exact AW.widen (by omega) (by omega) (hc q4.2 hy.s)
  · have hy := hy.f hc9
    exact hy.no.elim
def lc_19 (sc : Nat → Int32) (L : Nat) (h : Mem) (v4 : Int32) : Option Mem :=
  (scI sc L (v4 + 1)).bind fun x1 => (scI sc L (v4 + 2)).bind fun x2 => (f_X11_trip h 1 x1 x2).bind fun q3 => (scI sc L (v4 + 1)).bind fun x4 => (scI sc L (v4 + 2)).bind fun x5 => (f_X13_trip q3.2 55 x4 x5).bind fun q6 => (if q3.1 = q6.1 then some q6.2 else none)
set_option maxRecDepth 100000 in
set_option maxHeartbeats 4000000 in
theorem w_lc_19 {G : GE} {X : CX} {sc : Nat → Int32} {L : Nat} (hX : Ok G X cL_law RL) (hN : xn X = 7) (hr : xr X = room_1) (hsc : SC G X L sc) {P : Mem → Prop} (ce sl : Nat) (hce : ce + 20 ≤ 601024) (hsl : sl + 400 ≤ 7293034) (v4 : Int32) (hc : ∀ h', P h' → AW G X 1982 [(0, vX 20), (1, vR 1), (2, vR 55), (3, vR 68), (4, vI v4)] [] h' (ce + 20) (sl + 400)) (h : Mem) (hy : OK (lc_19 sc L h v4) P) : AW G X 987 [(0, vX 20), (1, vR 1), (2, vR 55), (3, vR 68), (4, vI v4)] [] h ce sl := by
  unfold lc_19 at hy
  refine aw_aloadn (pc := 987) hX 1 rfl dL_law_987 ?_
  refine aw_xloadn (pc := 988) hX 0 rfl dL_law_988 ?_
  refine aw_iload (pc := 989) hX 4 rfl dL_law_989 ?_
  refine aw_iconst (pc := 991) hX 1 (by decide) dL_law_991 ?_
  refine aw_iadd (pc := 992) hX dL_law_992 ?_
  refine aw_scl (pc := 993) hX hsc hy dL_law_993 (fun x1 hy => ?_)
  refine aw_xloadn (pc := 994) hX 0 rfl dL_law_994 ?_
  refine aw_iload (pc := 995) hX 4 rfl dL_law_995 ?_
  refine aw_iconst (pc := 997) hX 2 (by decide) dL_law_997 ?_
  refine aw_iadd (pc := 998) hX dL_law_998 ?_
  refine aw_scl (pc := 999) hX hsc hy dL_law_999 (fun x2 hy => ?_)
  refine aw_callV (pc := 1000) (st := []) (a := 1) hX [vI x1, vI x2] (con_X11_trip _ G _ 1 x1 x2 hy.bd) mc_X11_trip ml_L_102 im_X11_trip se_X11_trip (by decide) hy.bd.kd rfl (rm_law hr (by decide) (show ce + 0 ≤ 601024 by omega) (show sl + 0 ≤ 7293034 by omega)) (Nat.le_of_ble_eq_true rfl) rfl dL_law_1000 (kmI rfl rfl (fun q3 hy => ?_))
  refine aw_aloadn (pc := 1003) hX 2 rfl dL_law_1003 ?_
  refine aw_xloadn (pc := 1004) hX 0 rfl dL_law_1004 ?_
  refine aw_iload (pc := 1005) hX 4 rfl dL_law_1005 ?_
  refine aw_iconst (pc := 1007) hX 1 (by decide) dL_law_1007 ?_
  refine aw_iadd (pc := 1008) hX dL_law_1008 ?_
  refine aw_scl (pc := 1009) hX hsc hy dL_law_1009 (fun x4 hy => ?_)
  refine aw_xloadn (pc := 1010) hX 0 rfl dL_law_1010 ?_
  refine aw_iload (pc := 1011) hX 4 rfl dL_law_1011 ?_
  refine aw_iconst (pc := 1013) hX 2 (by decide) dL_law_1013 ?_
  refine aw_iadd (pc := 1014) hX dL_law_1014 ?_
  refine aw_scl (pc := 1015) hX hsc hy dL_law_1015 (fun x5 hy => ?_)
  refine aw_callV (pc := 1016) (st := [vI q3.1]) (a := 55) hX [vI x4, vI x5] (con_X13_trip _ G _ 55 x4 x5 hy.bd) mc_X13_trip ml_L_105 im_X13_trip se_X13_trip (by decide) hy.bd.kd rfl (rm_law hr (by decide) (show ce + 0 ≤ 601024 by omega) (show sl + 0 ≤ 7293034 by omega)) (Nat.le_of_ble_eq_true rfl) rfl dL_law_1016 (kmI rfl rfl (fun q6 hy => ?_))
  refine aw_ic_eq (pc := 1019) hX 1982 (by decide) dL_law_1019 (fun hc9 => ?_) (fun hc9 => ?_)
  · have hy := hy.t hc9
    exact AW.widen (by omega) (by omega) (hc q6.2 hy.s)
  · have hy := hy.f hc9
    exact hy.no.elim
def lc_20 (sc : Nat → Int32) (L : Nat) (h : Mem) (v4 : Int32) : Option Mem :=
  (scI sc L (v4 + 1)).bind fun x1 => (scI sc L (v4 + 2)).bind fun x2 => (f_X11_tripInns h 1 x1 x2).bind fun q3 => (scI sc L (v4 + 1)).bind fun x4 => (scI sc L (v4 + 2)).bind fun x5 => (f_X13_tripInns q3.2 55 x4 x5).bind fun q6 => (if q3.1 = q6.1 then some q6.2 else none)
set_option maxRecDepth 100000 in
set_option maxHeartbeats 4000000 in
theorem w_lc_20 {G : GE} {X : CX} {sc : Nat → Int32} {L : Nat} (hX : Ok G X cL_law RL) (hN : xn X = 7) (hr : xr X = room_1) (hsc : SC G X L sc) {P : Mem → Prop} (ce sl : Nat) (hce : ce + 20 ≤ 601024) (hsl : sl + 400 ≤ 7293034) (v4 : Int32) (hc : ∀ h', P h' → AW G X 1982 [(0, vX 20), (1, vR 1), (2, vR 55), (3, vR 68), (4, vI v4)] [] h' (ce + 20) (sl + 400)) (h : Mem) (hy : OK (lc_20 sc L h v4) P) : AW G X 1024 [(0, vX 20), (1, vR 1), (2, vR 55), (3, vR 68), (4, vI v4)] [] h ce sl := by
  unfold lc_20 at hy
  refine aw_aloadn (pc := 1024) hX 1 rfl dL_law_1024 ?_
  refine aw_xloadn (pc := 1025) hX 0 rfl dL_law_1025 ?_
  refine aw_iload (pc := 1026) hX 4 rfl dL_law_1026 ?_
  refine aw_iconst (pc := 1028) hX 1 (by decide) dL_law_1028 ?_
  refine aw_iadd (pc := 1029) hX dL_law_1029 ?_
  refine aw_scl (pc := 1030) hX hsc hy dL_law_1030 (fun x1 hy => ?_)
  refine aw_xloadn (pc := 1031) hX 0 rfl dL_law_1031 ?_
  refine aw_iload (pc := 1032) hX 4 rfl dL_law_1032 ?_
  refine aw_iconst (pc := 1034) hX 2 (by decide) dL_law_1034 ?_
  refine aw_iadd (pc := 1035) hX dL_law_1035 ?_
  refine aw_scl (pc := 1036) hX hsc hy dL_law_1036 (fun x2 hy => ?_)
  refine aw_callV (pc := 1037) (st := []) (a := 1) hX [vI x1, vI x2] (con_X11_tripInns _ G _ 1 x1 x2 hy.bd) mc_X11_tripInns ml_L_106 im_X11_tripInns se_X11_tripInns (by decide) hy.bd.kd rfl (rm_law hr (by decide) (show ce + 0 ≤ 601024 by omega) (show sl + 0 ≤ 7293034 by omega)) (Nat.le_of_ble_eq_true rfl) rfl dL_law_1037 (kmI rfl rfl (fun q3 hy => ?_))
  refine aw_aloadn (pc := 1040) hX 2 rfl dL_law_1040 ?_
  refine aw_xloadn (pc := 1041) hX 0 rfl dL_law_1041 ?_
  refine aw_iload (pc := 1042) hX 4 rfl dL_law_1042 ?_
  refine aw_iconst (pc := 1044) hX 1 (by decide) dL_law_1044 ?_
  refine aw_iadd (pc := 1045) hX dL_law_1045 ?_
  refine aw_scl (pc := 1046) hX hsc hy dL_law_1046 (fun x4 hy => ?_)
  refine aw_xloadn (pc := 1047) hX 0 rfl dL_law_1047 ?_
  refine aw_iload (pc := 1048) hX 4 rfl dL_law_1048 ?_
  refine aw_iconst (pc := 1050) hX 2 (by decide) dL_law_1050 ?_
  refine aw_iadd (pc := 1051) hX dL_law_1051 ?_
  refine aw_scl (pc := 1052) hX hsc hy dL_law_1052 (fun x5 hy => ?_)
  refine aw_callV (pc := 1053) (st := [vI q3.1]) (a := 55) hX [vI x4, vI x5] (con_X13_tripInns _ G _ 55 x4 x5 hy.bd) mc_X13_tripInns ml_L_109 im_X13_tripInns se_X13_tripInns (by decide) hy.bd.kd rfl (rm_law hr (by decide) (show ce + 0 ≤ 601024 by omega) (show sl + 0 ≤ 7293034 by omega)) (Nat.le_of_ble_eq_true rfl) rfl dL_law_1053 (kmI rfl rfl (fun q6 hy => ?_))
  refine aw_ic_eq (pc := 1056) hX 1982 (by decide) dL_law_1056 (fun hc9 => ?_) (fun hc9 => ?_)
  · have hy := hy.t hc9
    exact AW.widen (by omega) (by omega) (hc q6.2 hy.s)
  · have hy := hy.f hc9
    exact hy.no.elim
def lc_21 (sc : Nat → Int32) (L : Nat) (h : Mem) (v4 : Int32) : Option Mem :=
  (scI sc L (v4 + 1)).bind fun x1 => (f_X11_farReach h 1 x1).bind fun q2 => (scI sc L (v4 + 1)).bind fun x3 => (f_X13_farReach q2.2 55 x3).bind fun q4 => (if q2.1 = q4.1 then some q4.2 else none)
set_option maxRecDepth 100000 in
set_option maxHeartbeats 4000000 in
theorem w_lc_21 {G : GE} {X : CX} {sc : Nat → Int32} {L : Nat} (hX : Ok G X cL_law RL) (hN : xn X = 7) (hr : xr X = room_1) (hsc : SC G X L sc) {P : Mem → Prop} (ce sl : Nat) (hce : ce + 20 ≤ 601024) (hsl : sl + 400 ≤ 7293034) (v4 : Int32) (hc : ∀ h', P h' → AW G X 1982 [(0, vX 20), (1, vR 1), (2, vR 55), (3, vR 68), (4, vI v4)] [] h' (ce + 20) (sl + 400)) (h : Mem) (hy : OK (lc_21 sc L h v4) P) : AW G X 1061 [(0, vX 20), (1, vR 1), (2, vR 55), (3, vR 68), (4, vI v4)] [] h ce sl := by
  unfold lc_21 at hy
  refine aw_aloadn (pc := 1061) hX 1 rfl dL_law_1061 ?_
  refine aw_xloadn (pc := 1062) hX 0 rfl dL_law_1062 ?_
  refine aw_iload (pc := 1063) hX 4 rfl dL_law_1063 ?_
  refine aw_iconst (pc := 1065) hX 1 (by decide) dL_law_1065 ?_
  refine aw_iadd (pc := 1066) hX dL_law_1066 ?_
  refine aw_scl (pc := 1067) hX hsc hy dL_law_1067 (fun x1 hy => ?_)
  refine aw_callV (pc := 1068) (st := []) (a := 1) hX [vI x1] (con_X11_farReach _ G _ 1 x1 hy.bd) mc_X11_farReach ml_L_110 im_X11_farReach se_X11_farReach (by decide) hy.bd.kd rfl (rm_law hr (by decide) (show ce + 0 ≤ 601024 by omega) (show sl + 0 ≤ 7293034 by omega)) (Nat.le_of_ble_eq_true rfl) rfl dL_law_1068 (kmI rfl rfl (fun q2 hy => ?_))
  refine aw_aloadn (pc := 1071) hX 2 rfl dL_law_1071 ?_
  refine aw_xloadn (pc := 1072) hX 0 rfl dL_law_1072 ?_
  refine aw_iload (pc := 1073) hX 4 rfl dL_law_1073 ?_
  refine aw_iconst (pc := 1075) hX 1 (by decide) dL_law_1075 ?_
  refine aw_iadd (pc := 1076) hX dL_law_1076 ?_
  refine aw_scl (pc := 1077) hX hsc hy dL_law_1077 (fun x3 hy => ?_)
  refine aw_callV (pc := 1078) (st := [vI q2.1]) (a := 55) hX [vI x3] (con_X13_farReach _ G _ 55 x3 hy.bd) mc_X13_farReach ml_L_113 im_X13_farReach se_X13_farReach (by decide) hy.bd.kd rfl (rm_law hr (by decide) (show ce + 0 ≤ 601024 by omega) (show sl + 0 ≤ 7293034 by omega)) (Nat.le_of_ble_eq_true rfl) rfl dL_law_1078 (kmI rfl rfl (fun q4 hy => ?_))
  refine aw_ic_eq (pc := 1081) hX 1982 (by decide) dL_law_1081 (fun hc9 => ?_) (fun hc9 => ?_)
  · have hy := hy.t hc9
    exact AW.widen (by omega) (by omega) (hc q4.2 hy.s)
  · have hy := hy.f hc9
    exact hy.no.elim
def lc_22 (sc : Nat → Int32) (L : Nat) (h : Mem) (v4 : Int32) : Option Mem :=
  (scI sc L (v4 + 1)).bind fun x1 => (f_X11_soonest h 1 x1).bind fun q2 => (scI sc L (v4 + 1)).bind fun x3 => (f_X13_soonest q2.2 55 x3).bind fun q4 => (if q2.1 = q4.1 then some q4.2 else none)
set_option maxRecDepth 100000 in
set_option maxHeartbeats 4000000 in
theorem w_lc_22 {G : GE} {X : CX} {sc : Nat → Int32} {L : Nat} (hX : Ok G X cL_law RL) (hN : xn X = 7) (hr : xr X = room_1) (hsc : SC G X L sc) {P : Mem → Prop} (ce sl : Nat) (hce : ce + 20 ≤ 601024) (hsl : sl + 400 ≤ 7293034) (v4 : Int32) (hc : ∀ h', P h' → AW G X 1982 [(0, vX 20), (1, vR 1), (2, vR 55), (3, vR 68), (4, vI v4)] [] h' (ce + 20) (sl + 400)) (h : Mem) (hy : OK (lc_22 sc L h v4) P) : AW G X 1086 [(0, vX 20), (1, vR 1), (2, vR 55), (3, vR 68), (4, vI v4)] [] h ce sl := by
  unfold lc_22 at hy
  refine aw_aloadn (pc := 1086) hX 1 rfl dL_law_1086 ?_
  refine aw_xloadn (pc := 1087) hX 0 rfl dL_law_1087 ?_
  refine aw_iload (pc := 1088) hX 4 rfl dL_law_1088 ?_
  refine aw_iconst (pc := 1090) hX 1 (by decide) dL_law_1090 ?_
  refine aw_iadd (pc := 1091) hX dL_law_1091 ?_
  refine aw_scl (pc := 1092) hX hsc hy dL_law_1092 (fun x1 hy => ?_)
  refine aw_callV (pc := 1093) (st := []) (a := 1) hX [vI x1] (con_X11_soonest _ G _ 1 x1 hy.bd) mc_X11_soonest ml_L_114 im_X11_soonest se_X11_soonest (by decide) hy.bd.kd rfl (rm_law hr (by decide) (show ce + 0 ≤ 601024 by omega) (show sl + 0 ≤ 7293034 by omega)) (Nat.le_of_ble_eq_true rfl) rfl dL_law_1093 (kmI rfl rfl (fun q2 hy => ?_))
  refine aw_aloadn (pc := 1096) hX 2 rfl dL_law_1096 ?_
  refine aw_xloadn (pc := 1097) hX 0 rfl dL_law_1097 ?_
  refine aw_iload (pc := 1098) hX 4 rfl dL_law_1098 ?_
  refine aw_iconst (pc := 1100) hX 1 (by decide) dL_law_1100 ?_
  refine aw_iadd (pc := 1101) hX dL_law_1101 ?_
  refine aw_scl (pc := 1102) hX hsc hy dL_law_1102 (fun x3 hy => ?_)
  refine aw_callV (pc := 1103) (st := [vI q2.1]) (a := 55) hX [vI x3] (con_X13_soonest _ G _ 55 x3 hy.bd) mc_X13_soonest ml_L_117 im_X13_soonest se_X13_soonest (by decide) hy.bd.kd rfl (rm_law hr (by decide) (show ce + 0 ≤ 601024 by omega) (show sl + 0 ≤ 7293034 by omega)) (Nat.le_of_ble_eq_true rfl) rfl dL_law_1103 (kmI rfl rfl (fun q4 hy => ?_))
  refine aw_ic_eq (pc := 1106) hX 1982 (by decide) dL_law_1106 (fun hc9 => ?_) (fun hc9 => ?_)
  · have hy := hy.t hc9
    exact AW.widen (by omega) (by omega) (hc q4.2 hy.s)
  · have hy := hy.f hc9
    exact hy.no.elim
def lc_23 (sc : Nat → Int32) (L : Nat) (h : Mem) (v4 : Int32) : Option Mem :=
  (scI sc L (v4 + 1)).bind fun x1 => (f_X11_song h 1 x1).bind fun q2 => (scI sc L (v4 + 1)).bind fun x3 => (f_X13_song q2.2 55 x3).bind fun q4 => (if q2.1 = q4.1 then some q4.2 else none)
set_option maxRecDepth 100000 in
set_option maxHeartbeats 4000000 in
theorem w_lc_23 {G : GE} {X : CX} {sc : Nat → Int32} {L : Nat} (hX : Ok G X cL_law RL) (hN : xn X = 7) (hr : xr X = room_1) (hsc : SC G X L sc) {P : Mem → Prop} (ce sl : Nat) (hce : ce + 20 ≤ 601024) (hsl : sl + 400 ≤ 7293034) (v4 : Int32) (hc : ∀ h', P h' → AW G X 1982 [(0, vX 20), (1, vR 1), (2, vR 55), (3, vR 68), (4, vI v4)] [] h' (ce + 20) (sl + 400)) (h : Mem) (hy : OK (lc_23 sc L h v4) P) : AW G X 1111 [(0, vX 20), (1, vR 1), (2, vR 55), (3, vR 68), (4, vI v4)] [] h ce sl := by
  unfold lc_23 at hy
  refine aw_aloadn (pc := 1111) hX 1 rfl dL_law_1111 ?_
  refine aw_xloadn (pc := 1112) hX 0 rfl dL_law_1112 ?_
  refine aw_iload (pc := 1113) hX 4 rfl dL_law_1113 ?_
  refine aw_iconst (pc := 1115) hX 1 (by decide) dL_law_1115 ?_
  refine aw_iadd (pc := 1116) hX dL_law_1116 ?_
  refine aw_scl (pc := 1117) hX hsc hy dL_law_1117 (fun x1 hy => ?_)
  refine aw_callV (pc := 1118) (st := []) (a := 1) hX [vI x1] (con_X11_song _ G _ 1 x1 hy.bd) mc_X11_song ml_L_118 im_X11_song se_X11_song (by decide) hy.bd.kd rfl (rm_law hr (by decide) (show ce + 0 ≤ 601024 by omega) (show sl + 0 ≤ 7293034 by omega)) (Nat.le_of_ble_eq_true rfl) rfl dL_law_1118 (kmI rfl rfl (fun q2 hy => ?_))
  refine aw_aloadn (pc := 1121) hX 2 rfl dL_law_1121 ?_
  refine aw_xloadn (pc := 1122) hX 0 rfl dL_law_1122 ?_
  refine aw_iload (pc := 1123) hX 4 rfl dL_law_1123 ?_
  refine aw_iconst (pc := 1125) hX 1 (by decide) dL_law_1125 ?_
  refine aw_iadd (pc := 1126) hX dL_law_1126 ?_
  refine aw_scl (pc := 1127) hX hsc hy dL_law_1127 (fun x3 hy => ?_)
  refine aw_callV (pc := 1128) (st := [vI q2.1]) (a := 55) hX [vI x3] (con_X13_song _ G _ 55 x3 hy.bd) mc_X13_song ml_L_121 im_X13_song se_X13_song (by decide) hy.bd.kd rfl (rm_law hr (by decide) (show ce + 0 ≤ 601024 by omega) (show sl + 0 ≤ 7293034 by omega)) (Nat.le_of_ble_eq_true rfl) rfl dL_law_1128 (kmI rfl rfl (fun q4 hy => ?_))
  refine aw_ic_eq (pc := 1131) hX 1982 (by decide) dL_law_1131 (fun hc9 => ?_) (fun hc9 => ?_)
  · have hy := hy.t hc9
    exact AW.widen (by omega) (by omega) (hc q4.2 hy.s)
  · have hy := hy.f hc9
    exact hy.no.elim
def lc_24 (sc : Nat → Int32) (L : Nat) (h : Mem) (v4 : Int32) : Option Mem :=
  (scI sc L (v4 + 1)).bind fun x1 => (scI sc L (v4 + 2)).bind fun x2 => (f_X11_songAt h 1 x1 x2).bind fun q3 => (scI sc L (v4 + 1)).bind fun x4 => (scI sc L (v4 + 2)).bind fun x5 => (f_X13_songAt q3.2 55 x4 x5).bind fun q6 => (if q3.1 = q6.1 then some q6.2 else none)
set_option maxRecDepth 100000 in
set_option maxHeartbeats 4000000 in
theorem w_lc_24 {G : GE} {X : CX} {sc : Nat → Int32} {L : Nat} (hX : Ok G X cL_law RL) (hN : xn X = 7) (hr : xr X = room_1) (hsc : SC G X L sc) {P : Mem → Prop} (ce sl : Nat) (hce : ce + 20 ≤ 601024) (hsl : sl + 400 ≤ 7293034) (v4 : Int32) (hc : ∀ h', P h' → AW G X 1982 [(0, vX 20), (1, vR 1), (2, vR 55), (3, vR 68), (4, vI v4)] [] h' (ce + 20) (sl + 400)) (h : Mem) (hy : OK (lc_24 sc L h v4) P) : AW G X 1136 [(0, vX 20), (1, vR 1), (2, vR 55), (3, vR 68), (4, vI v4)] [] h ce sl := by
  unfold lc_24 at hy
  refine aw_aloadn (pc := 1136) hX 1 rfl dL_law_1136 ?_
  refine aw_xloadn (pc := 1137) hX 0 rfl dL_law_1137 ?_
  refine aw_iload (pc := 1138) hX 4 rfl dL_law_1138 ?_
  refine aw_iconst (pc := 1140) hX 1 (by decide) dL_law_1140 ?_
  refine aw_iadd (pc := 1141) hX dL_law_1141 ?_
  refine aw_scl (pc := 1142) hX hsc hy dL_law_1142 (fun x1 hy => ?_)
  refine aw_xloadn (pc := 1143) hX 0 rfl dL_law_1143 ?_
  refine aw_iload (pc := 1144) hX 4 rfl dL_law_1144 ?_
  refine aw_iconst (pc := 1146) hX 2 (by decide) dL_law_1146 ?_
  refine aw_iadd (pc := 1147) hX dL_law_1147 ?_
  refine aw_scl (pc := 1148) hX hsc hy dL_law_1148 (fun x2 hy => ?_)
  refine aw_callV (pc := 1149) (st := []) (a := 1) hX [vI x1, vI x2] (con_X11_songAt _ G _ 1 x1 x2 hy.bd) mc_X11_songAt ml_L_122 im_X11_songAt se_X11_songAt (by decide) hy.bd.kd rfl (rm_law hr (by decide) (show ce + 0 ≤ 601024 by omega) (show sl + 0 ≤ 7293034 by omega)) (Nat.le_of_ble_eq_true rfl) rfl dL_law_1149 (kmI rfl rfl (fun q3 hy => ?_))
  refine aw_aloadn (pc := 1152) hX 2 rfl dL_law_1152 ?_
  refine aw_xloadn (pc := 1153) hX 0 rfl dL_law_1153 ?_
  refine aw_iload (pc := 1154) hX 4 rfl dL_law_1154 ?_
  refine aw_iconst (pc := 1156) hX 1 (by decide) dL_law_1156 ?_
  refine aw_iadd (pc := 1157) hX dL_law_1157 ?_
  refine aw_scl (pc := 1158) hX hsc hy dL_law_1158 (fun x4 hy => ?_)
  refine aw_xloadn (pc := 1159) hX 0 rfl dL_law_1159 ?_
  refine aw_iload (pc := 1160) hX 4 rfl dL_law_1160 ?_
  refine aw_iconst (pc := 1162) hX 2 (by decide) dL_law_1162 ?_
  refine aw_iadd (pc := 1163) hX dL_law_1163 ?_
  refine aw_scl (pc := 1164) hX hsc hy dL_law_1164 (fun x5 hy => ?_)
  refine aw_callV (pc := 1165) (st := [vI q3.1]) (a := 55) hX [vI x4, vI x5] (con_X13_songAt _ G _ 55 x4 x5 hy.bd) mc_X13_songAt ml_L_125 im_X13_songAt se_X13_songAt (by decide) hy.bd.kd rfl (rm_law hr (by decide) (show ce + 0 ≤ 601024 by omega) (show sl + 0 ≤ 7293034 by omega)) (Nat.le_of_ble_eq_true rfl) rfl dL_law_1165 (kmI rfl rfl (fun q6 hy => ?_))
  refine aw_ic_eq (pc := 1168) hX 1982 (by decide) dL_law_1168 (fun hc9 => ?_) (fun hc9 => ?_)
  · have hy := hy.t hc9
    exact AW.widen (by omega) (by omega) (hc q6.2 hy.s)
  · have hy := hy.f hc9
    exact hy.no.elim
def lc_25 (sc : Nat → Int32) (L : Nat) (h : Mem) (v4 : Int32) : Option Mem :=
  (scI sc L (v4 + 1)).bind fun x1 => (scI sc L (v4 + 2)).bind fun x2 => (f_X11_overlap h 1 x1 x2).bind fun q3 => (scI sc L (v4 + 1)).bind fun x4 => (scI sc L (v4 + 2)).bind fun x5 => (f_X13_overlap q3.2 55 x4 x5).bind fun q6 => (if q3.1 = q6.1 then some q6.2 else none)
set_option maxRecDepth 100000 in
set_option maxHeartbeats 4000000 in
theorem w_lc_25 {G : GE} {X : CX} {sc : Nat → Int32} {L : Nat} (hX : Ok G X cL_law RL) (hN : xn X = 7) (hr : xr X = room_1) (hsc : SC G X L sc) {P : Mem → Prop} (ce sl : Nat) (hce : ce + 20 ≤ 601024) (hsl : sl + 400 ≤ 7293034) (v4 : Int32) (hc : ∀ h', P h' → AW G X 1982 [(0, vX 20), (1, vR 1), (2, vR 55), (3, vR 68), (4, vI v4)] [] h' (ce + 20) (sl + 400)) (h : Mem) (hy : OK (lc_25 sc L h v4) P) : AW G X 1173 [(0, vX 20), (1, vR 1), (2, vR 55), (3, vR 68), (4, vI v4)] [] h ce sl := by
  unfold lc_25 at hy
  refine aw_aloadn (pc := 1173) hX 1 rfl dL_law_1173 ?_
  refine aw_xloadn (pc := 1174) hX 0 rfl dL_law_1174 ?_
  refine aw_iload (pc := 1175) hX 4 rfl dL_law_1175 ?_
  refine aw_iconst (pc := 1177) hX 1 (by decide) dL_law_1177 ?_
  refine aw_iadd (pc := 1178) hX dL_law_1178 ?_
  refine aw_scl (pc := 1179) hX hsc hy dL_law_1179 (fun x1 hy => ?_)
  refine aw_xloadn (pc := 1180) hX 0 rfl dL_law_1180 ?_
  refine aw_iload (pc := 1181) hX 4 rfl dL_law_1181 ?_
  refine aw_iconst (pc := 1183) hX 2 (by decide) dL_law_1183 ?_
  refine aw_iadd (pc := 1184) hX dL_law_1184 ?_
  refine aw_scl (pc := 1185) hX hsc hy dL_law_1185 (fun x2 hy => ?_)
  refine aw_callV (pc := 1186) (st := []) (a := 1) hX [vI x1, vI x2] (con_X11_overlap _ G _ 1 x1 x2 hy.bd) mc_X11_overlap ml_L_126 im_X11_overlap se_X11_overlap (by decide) hy.bd.kd rfl (rm_law hr (by decide) (show ce + 0 ≤ 601024 by omega) (show sl + 0 ≤ 7293034 by omega)) (Nat.le_of_ble_eq_true rfl) rfl dL_law_1186 (kmI rfl rfl (fun q3 hy => ?_))
  refine aw_aloadn (pc := 1189) hX 2 rfl dL_law_1189 ?_
  refine aw_xloadn (pc := 1190) hX 0 rfl dL_law_1190 ?_
  refine aw_iload (pc := 1191) hX 4 rfl dL_law_1191 ?_
  refine aw_iconst (pc := 1193) hX 1 (by decide) dL_law_1193 ?_
  refine aw_iadd (pc := 1194) hX dL_law_1194 ?_
  refine aw_scl (pc := 1195) hX hsc hy dL_law_1195 (fun x4 hy => ?_)
  refine aw_xloadn (pc := 1196) hX 0 rfl dL_law_1196 ?_
  refine aw_iload (pc := 1197) hX 4 rfl dL_law_1197 ?_
  refine aw_iconst (pc := 1199) hX 2 (by decide) dL_law_1199 ?_
  refine aw_iadd (pc := 1200) hX dL_law_1200 ?_
  refine aw_scl (pc := 1201) hX hsc hy dL_law_1201 (fun x5 hy => ?_)
  refine aw_callV (pc := 1202) (st := [vI q3.1]) (a := 55) hX [vI x4, vI x5] (con_X13_overlap _ G _ 55 x4 x5 hy.bd) mc_X13_overlap ml_L_129 im_X13_overlap se_X13_overlap (by decide) hy.bd.kd rfl (rm_law hr (by decide) (show ce + 0 ≤ 601024 by omega) (show sl + 0 ≤ 7293034 by omega)) (Nat.le_of_ble_eq_true rfl) rfl dL_law_1202 (kmI rfl rfl (fun q6 hy => ?_))
  refine aw_ic_eq (pc := 1205) hX 1982 (by decide) dL_law_1205 (fun hc9 => ?_) (fun hc9 => ?_)
  · have hy := hy.t hc9
    exact AW.widen (by omega) (by omega) (hc q6.2 hy.s)
  · have hy := hy.f hc9
    exact hy.no.elim
def lc_26 (sc : Nat → Int32) (L : Nat) (h : Mem) (v4 : Int32) : Option Mem :=
  (scI sc L (v4 + 1)).bind fun x1 => (scI sc L (v4 + 2)).bind fun x2 => (f_X11_together h 1 x1 x2).bind fun q3 => (scI sc L (v4 + 1)).bind fun x4 => (scI sc L (v4 + 2)).bind fun x5 => (f_X13_together q3.2 55 x4 x5).bind fun q6 => (if q3.1 = q6.1 then some q6.2 else none)
set_option maxRecDepth 100000 in
set_option maxHeartbeats 4000000 in
theorem w_lc_26 {G : GE} {X : CX} {sc : Nat → Int32} {L : Nat} (hX : Ok G X cL_law RL) (hN : xn X = 7) (hr : xr X = room_1) (hsc : SC G X L sc) {P : Mem → Prop} (ce sl : Nat) (hce : ce + 20 ≤ 601024) (hsl : sl + 400 ≤ 7293034) (v4 : Int32) (hc : ∀ h', P h' → AW G X 1982 [(0, vX 20), (1, vR 1), (2, vR 55), (3, vR 68), (4, vI v4)] [] h' (ce + 20) (sl + 400)) (h : Mem) (hy : OK (lc_26 sc L h v4) P) : AW G X 1210 [(0, vX 20), (1, vR 1), (2, vR 55), (3, vR 68), (4, vI v4)] [] h ce sl := by
  unfold lc_26 at hy
  refine aw_aloadn (pc := 1210) hX 1 rfl dL_law_1210 ?_
  refine aw_xloadn (pc := 1211) hX 0 rfl dL_law_1211 ?_
  refine aw_iload (pc := 1212) hX 4 rfl dL_law_1212 ?_
  refine aw_iconst (pc := 1214) hX 1 (by decide) dL_law_1214 ?_
  refine aw_iadd (pc := 1215) hX dL_law_1215 ?_
  refine aw_scl (pc := 1216) hX hsc hy dL_law_1216 (fun x1 hy => ?_)
  refine aw_xloadn (pc := 1217) hX 0 rfl dL_law_1217 ?_
  refine aw_iload (pc := 1218) hX 4 rfl dL_law_1218 ?_
  refine aw_iconst (pc := 1220) hX 2 (by decide) dL_law_1220 ?_
  refine aw_iadd (pc := 1221) hX dL_law_1221 ?_
  refine aw_scl (pc := 1222) hX hsc hy dL_law_1222 (fun x2 hy => ?_)
  refine aw_callV (pc := 1223) (st := []) (a := 1) hX [vI x1, vI x2] (con_X11_together _ G _ 1 x1 x2 hy.bd) mc_X11_together ml_L_130 im_X11_together se_X11_together (by decide) hy.bd.kd rfl (rm_law hr (by decide) (show ce + 0 ≤ 601024 by omega) (show sl + 0 ≤ 7293034 by omega)) (Nat.le_of_ble_eq_true rfl) rfl dL_law_1223 (kmI rfl rfl (fun q3 hy => ?_))
  refine aw_aloadn (pc := 1226) hX 2 rfl dL_law_1226 ?_
  refine aw_xloadn (pc := 1227) hX 0 rfl dL_law_1227 ?_
  refine aw_iload (pc := 1228) hX 4 rfl dL_law_1228 ?_
  refine aw_iconst (pc := 1230) hX 1 (by decide) dL_law_1230 ?_
  refine aw_iadd (pc := 1231) hX dL_law_1231 ?_
  refine aw_scl (pc := 1232) hX hsc hy dL_law_1232 (fun x4 hy => ?_)
  refine aw_xloadn (pc := 1233) hX 0 rfl dL_law_1233 ?_
  refine aw_iload (pc := 1234) hX 4 rfl dL_law_1234 ?_
  refine aw_iconst (pc := 1236) hX 2 (by decide) dL_law_1236 ?_
  refine aw_iadd (pc := 1237) hX dL_law_1237 ?_
  refine aw_scl (pc := 1238) hX hsc hy dL_law_1238 (fun x5 hy => ?_)
  refine aw_callV (pc := 1239) (st := [vI q3.1]) (a := 55) hX [vI x4, vI x5] (con_X13_together _ G _ 55 x4 x5 hy.bd) mc_X13_together ml_L_133 im_X13_together se_X13_together (by decide) hy.bd.kd rfl (rm_law hr (by decide) (show ce + 0 ≤ 601024 by omega) (show sl + 0 ≤ 7293034 by omega)) (Nat.le_of_ble_eq_true rfl) rfl dL_law_1239 (kmI rfl rfl (fun q6 hy => ?_))
  refine aw_ic_eq (pc := 1242) hX 1982 (by decide) dL_law_1242 (fun hc9 => ?_) (fun hc9 => ?_)
  · have hy := hy.t hc9
    exact AW.widen (by omega) (by omega) (hc q6.2 hy.s)
  · have hy := hy.f hc9
    exact hy.no.elim
def lc_27 (sc : Nat → Int32) (L : Nat) (h : Mem) (v4 : Int32) : Option Mem :=
  (f_X11_pairs h 1).bind fun q1 => (f_X13_pairs q1.2 55).bind fun q2 => (if q1.1 = q2.1 then some q2.2 else none)
set_option maxRecDepth 100000 in
set_option maxHeartbeats 4000000 in
theorem w_lc_27 {G : GE} {X : CX} {sc : Nat → Int32} {L : Nat} (hX : Ok G X cL_law RL) (hN : xn X = 7) (hr : xr X = room_1) (hsc : SC G X L sc) {P : Mem → Prop} (ce sl : Nat) (hce : ce + 20 ≤ 601024) (hsl : sl + 400 ≤ 7293034) (v4 : Int32) (hc : ∀ h', P h' → AW G X 1982 [(0, vX 20), (1, vR 1), (2, vR 55), (3, vR 68), (4, vI v4)] [] h' (ce + 20) (sl + 400)) (h : Mem) (hy : OK (lc_27 sc L h v4) P) : AW G X 1247 [(0, vX 20), (1, vR 1), (2, vR 55), (3, vR 68), (4, vI v4)] [] h ce sl := by
  unfold lc_27 at hy
  refine aw_aloadn (pc := 1247) hX 1 rfl dL_law_1247 ?_
  refine aw_callV (pc := 1248) (st := []) (a := 1) hX [] (con_X11_pairs _ G _ 1 hy.bd) mc_X11_pairs ml_L_134 im_X11_pairs se_X11_pairs (by decide) hy.bd.kd rfl (rm_law hr (by decide) (show ce + 0 ≤ 601024 by omega) (show sl + 0 ≤ 7293034 by omega)) (Nat.le_of_ble_eq_true rfl) rfl dL_law_1248 (kmI rfl rfl (fun q1 hy => ?_))
  refine aw_aloadn (pc := 1251) hX 2 rfl dL_law_1251 ?_
  refine aw_callV (pc := 1252) (st := [vI q1.1]) (a := 55) hX [] (con_X13_pairs _ G _ 55 hy.bd) mc_X13_pairs ml_L_137 im_X13_pairs se_X13_pairs (by decide) hy.bd.kd rfl (rm_law hr (by decide) (show ce + 0 ≤ 601024 by omega) (show sl + 0 ≤ 7293034 by omega)) (Nat.le_of_ble_eq_true rfl) rfl dL_law_1252 (kmI rfl rfl (fun q2 hy => ?_))
  refine aw_ic_eq (pc := 1255) hX 1982 (by decide) dL_law_1255 (fun hc9 => ?_) (fun hc9 => ?_)
  · have hy := hy.t hc9
    exact AW.widen (by omega) (by omega) (hc q2.2 hy.s)
  · have hy := hy.f hc9
    exact hy.no.elim
def lc_28 (sc : Nat → Int32) (L : Nat) (h : Mem) (v4 : Int32) : Option Mem :=
  (scI sc L (v4 + 1)).bind fun x1 => (f_X11_partner h 1 x1).bind fun q2 => (scI sc L (v4 + 1)).bind fun x3 => (f_X13_partner q2.2 55 x3).bind fun q4 => (if q2.1 = q4.1 then some q4.2 else none)
set_option maxRecDepth 100000 in
set_option maxHeartbeats 4000000 in
theorem w_lc_28 {G : GE} {X : CX} {sc : Nat → Int32} {L : Nat} (hX : Ok G X cL_law RL) (hN : xn X = 7) (hr : xr X = room_1) (hsc : SC G X L sc) {P : Mem → Prop} (ce sl : Nat) (hce : ce + 20 ≤ 601024) (hsl : sl + 400 ≤ 7293034) (v4 : Int32) (hc : ∀ h', P h' → AW G X 1982 [(0, vX 20), (1, vR 1), (2, vR 55), (3, vR 68), (4, vI v4)] [] h' (ce + 20) (sl + 400)) (h : Mem) (hy : OK (lc_28 sc L h v4) P) : AW G X 1260 [(0, vX 20), (1, vR 1), (2, vR 55), (3, vR 68), (4, vI v4)] [] h ce sl := by
  unfold lc_28 at hy
  refine aw_aloadn (pc := 1260) hX 1 rfl dL_law_1260 ?_
  refine aw_xloadn (pc := 1261) hX 0 rfl dL_law_1261 ?_
  refine aw_iload (pc := 1262) hX 4 rfl dL_law_1262 ?_
  refine aw_iconst (pc := 1264) hX 1 (by decide) dL_law_1264 ?_
  refine aw_iadd (pc := 1265) hX dL_law_1265 ?_
  refine aw_scl (pc := 1266) hX hsc hy dL_law_1266 (fun x1 hy => ?_)
  refine aw_callV (pc := 1267) (st := []) (a := 1) hX [vI x1] (con_X11_partner _ G _ 1 x1 hy.bd) mc_X11_partner ml_L_138 im_X11_partner se_X11_partner (by decide) hy.bd.kd rfl (rm_law hr (by decide) (show ce + 0 ≤ 601024 by omega) (show sl + 0 ≤ 7293034 by omega)) (Nat.le_of_ble_eq_true rfl) rfl dL_law_1267 (kmI rfl rfl (fun q2 hy => ?_))
  refine aw_aloadn (pc := 1270) hX 2 rfl dL_law_1270 ?_
  refine aw_xloadn (pc := 1271) hX 0 rfl dL_law_1271 ?_
  refine aw_iload (pc := 1272) hX 4 rfl dL_law_1272 ?_
  refine aw_iconst (pc := 1274) hX 1 (by decide) dL_law_1274 ?_
  refine aw_iadd (pc := 1275) hX dL_law_1275 ?_
  refine aw_scl (pc := 1276) hX hsc hy dL_law_1276 (fun x3 hy => ?_)
  refine aw_callV (pc := 1277) (st := [vI q2.1]) (a := 55) hX [vI x3] (con_X13_partner _ G _ 55 x3 hy.bd) mc_X13_partner ml_L_141 im_X13_partner se_X13_partner (by decide) hy.bd.kd rfl (rm_law hr (by decide) (show ce + 0 ≤ 601024 by omega) (show sl + 0 ≤ 7293034 by omega)) (Nat.le_of_ble_eq_true rfl) rfl dL_law_1277 (kmI rfl rfl (fun q4 hy => ?_))
  refine aw_ic_eq (pc := 1280) hX 1982 (by decide) dL_law_1280 (fun hc9 => ?_) (fun hc9 => ?_)
  · have hy := hy.t hc9
    exact AW.widen (by omega) (by omega) (hc q4.2 hy.s)
  · have hy := hy.f hc9
    exact hy.no.elim
def lc_29 (sc : Nat → Int32) (L : Nat) (h : Mem) (v4 : Int32) : Option Mem :=
  (f_X11_rows h 1).bind fun q1 => (f_X13_rows q1.2 55).bind fun q2 => (if q1.1 = q2.1 then some q2.2 else none)
set_option maxRecDepth 100000 in
set_option maxHeartbeats 4000000 in
theorem w_lc_29 {G : GE} {X : CX} {sc : Nat → Int32} {L : Nat} (hX : Ok G X cL_law RL) (hN : xn X = 7) (hr : xr X = room_1) (hsc : SC G X L sc) {P : Mem → Prop} (ce sl : Nat) (hce : ce + 20 ≤ 601024) (hsl : sl + 400 ≤ 7293034) (v4 : Int32) (hc : ∀ h', P h' → AW G X 1982 [(0, vX 20), (1, vR 1), (2, vR 55), (3, vR 68), (4, vI v4)] [] h' (ce + 20) (sl + 400)) (h : Mem) (hy : OK (lc_29 sc L h v4) P) : AW G X 1285 [(0, vX 20), (1, vR 1), (2, vR 55), (3, vR 68), (4, vI v4)] [] h ce sl := by
  unfold lc_29 at hy
  refine aw_aloadn (pc := 1285) hX 1 rfl dL_law_1285 ?_
  refine aw_callV (pc := 1286) (st := []) (a := 1) hX [] (con_X11_rows _ G _ 1 hy.bd) mc_X11_rows ml_L_142 im_X11_rows se_X11_rows (by decide) hy.bd.kd rfl (rm_law hr (by decide) (show ce + 0 ≤ 601024 by omega) (show sl + 0 ≤ 7293034 by omega)) (Nat.le_of_ble_eq_true rfl) rfl dL_law_1286 (kmI rfl rfl (fun q1 hy => ?_))
  refine aw_aloadn (pc := 1289) hX 2 rfl dL_law_1289 ?_
  refine aw_callV (pc := 1290) (st := [vI q1.1]) (a := 55) hX [] (con_X13_rows _ G _ 55 hy.bd) mc_X13_rows ml_L_145 im_X13_rows se_X13_rows (by decide) hy.bd.kd rfl (rm_law hr (by decide) (show ce + 0 ≤ 601024 by omega) (show sl + 0 ≤ 7293034 by omega)) (Nat.le_of_ble_eq_true rfl) rfl dL_law_1290 (kmI rfl rfl (fun q2 hy => ?_))
  refine aw_ic_eq (pc := 1293) hX 1982 (by decide) dL_law_1293 (fun hc9 => ?_) (fun hc9 => ?_)
  · have hy := hy.t hc9
    exact AW.widen (by omega) (by omega) (hc q2.2 hy.s)
  · have hy := hy.f hc9
    exact hy.no.elim
def lc_30 (sc : Nat → Int32) (L : Nat) (h : Mem) (v4 : Int32) : Option Mem :=
  (scI sc L (v4 + 1)).bind fun x1 => (f_X11_could h 1 x1).bind fun q2 => (scI sc L (v4 + 1)).bind fun x3 => (f_X13_could q2.2 55 x3).bind fun q4 => (if q2.1 = q4.1 then some q4.2 else none)
set_option maxRecDepth 100000 in
set_option maxHeartbeats 4000000 in
theorem w_lc_30 {G : GE} {X : CX} {sc : Nat → Int32} {L : Nat} (hX : Ok G X cL_law RL) (hN : xn X = 7) (hr : xr X = room_1) (hsc : SC G X L sc) {P : Mem → Prop} (ce sl : Nat) (hce : ce + 20 ≤ 601024) (hsl : sl + 400 ≤ 7293034) (v4 : Int32) (hc : ∀ h', P h' → AW G X 1982 [(0, vX 20), (1, vR 1), (2, vR 55), (3, vR 68), (4, vI v4)] [] h' (ce + 20) (sl + 400)) (h : Mem) (hy : OK (lc_30 sc L h v4) P) : AW G X 1298 [(0, vX 20), (1, vR 1), (2, vR 55), (3, vR 68), (4, vI v4)] [] h ce sl := by
  unfold lc_30 at hy
  refine aw_aloadn (pc := 1298) hX 1 rfl dL_law_1298 ?_
  refine aw_xloadn (pc := 1299) hX 0 rfl dL_law_1299 ?_
  refine aw_iload (pc := 1300) hX 4 rfl dL_law_1300 ?_
  refine aw_iconst (pc := 1302) hX 1 (by decide) dL_law_1302 ?_
  refine aw_iadd (pc := 1303) hX dL_law_1303 ?_
  refine aw_scl (pc := 1304) hX hsc hy dL_law_1304 (fun x1 hy => ?_)
  refine aw_callV (pc := 1305) (st := []) (a := 1) hX [vI x1] (con_X11_could _ G _ 1 x1 hy.bd) mc_X11_could ml_L_146 im_X11_could se_X11_could (by decide) hy.bd.kd rfl (rm_law hr (by decide) (show ce + 0 ≤ 601024 by omega) (show sl + 0 ≤ 7293034 by omega)) (Nat.le_of_ble_eq_true rfl) rfl dL_law_1305 (kmI rfl rfl (fun q2 hy => ?_))
  refine aw_aloadn (pc := 1308) hX 2 rfl dL_law_1308 ?_
  refine aw_xloadn (pc := 1309) hX 0 rfl dL_law_1309 ?_
  refine aw_iload (pc := 1310) hX 4 rfl dL_law_1310 ?_
  refine aw_iconst (pc := 1312) hX 1 (by decide) dL_law_1312 ?_
  refine aw_iadd (pc := 1313) hX dL_law_1313 ?_
  refine aw_scl (pc := 1314) hX hsc hy dL_law_1314 (fun x3 hy => ?_)
  refine aw_callV (pc := 1315) (st := [vI q2.1]) (a := 55) hX [vI x3] (con_X13_could _ G _ 55 x3 hy.bd) mc_X13_could ml_L_149 im_X13_could se_X13_could (by decide) hy.bd.kd rfl (rm_law hr (by decide) (show ce + 0 ≤ 601024 by omega) (show sl + 0 ≤ 7293034 by omega)) (Nat.le_of_ble_eq_true rfl) rfl dL_law_1315 (kmI rfl rfl (fun q4 hy => ?_))
  refine aw_ic_eq (pc := 1318) hX 1982 (by decide) dL_law_1318 (fun hc9 => ?_) (fun hc9 => ?_)
  · have hy := hy.t hc9
    exact AW.widen (by omega) (by omega) (hc q4.2 hy.s)
  · have hy := hy.f hc9
    exact hy.no.elim
def lc_31 (sc : Nat → Int32) (L : Nat) (h : Mem) (v4 : Int32) : Option Mem :=
  (scI sc L (v4 + 1)).bind fun x1 => (f_X11_surely h 1 x1).bind fun q2 => (scI sc L (v4 + 1)).bind fun x3 => (f_X13_surely q2.2 55 x3).bind fun q4 => (if q2.1 = q4.1 then some q4.2 else none)
set_option maxRecDepth 100000 in
set_option maxHeartbeats 4000000 in
theorem w_lc_31 {G : GE} {X : CX} {sc : Nat → Int32} {L : Nat} (hX : Ok G X cL_law RL) (hN : xn X = 7) (hr : xr X = room_1) (hsc : SC G X L sc) {P : Mem → Prop} (ce sl : Nat) (hce : ce + 20 ≤ 601024) (hsl : sl + 400 ≤ 7293034) (v4 : Int32) (hc : ∀ h', P h' → AW G X 1982 [(0, vX 20), (1, vR 1), (2, vR 55), (3, vR 68), (4, vI v4)] [] h' (ce + 20) (sl + 400)) (h : Mem) (hy : OK (lc_31 sc L h v4) P) : AW G X 1323 [(0, vX 20), (1, vR 1), (2, vR 55), (3, vR 68), (4, vI v4)] [] h ce sl := by
  unfold lc_31 at hy
  refine aw_aloadn (pc := 1323) hX 1 rfl dL_law_1323 ?_
  refine aw_xloadn (pc := 1324) hX 0 rfl dL_law_1324 ?_
  refine aw_iload (pc := 1325) hX 4 rfl dL_law_1325 ?_
  refine aw_iconst (pc := 1327) hX 1 (by decide) dL_law_1327 ?_
  refine aw_iadd (pc := 1328) hX dL_law_1328 ?_
  refine aw_scl (pc := 1329) hX hsc hy dL_law_1329 (fun x1 hy => ?_)
  refine aw_callV (pc := 1330) (st := []) (a := 1) hX [vI x1] (con_X11_surely _ G _ 1 x1 hy.bd) mc_X11_surely ml_L_150 im_X11_surely se_X11_surely (by decide) hy.bd.kd rfl (rm_law hr (by decide) (show ce + 0 ≤ 601024 by omega) (show sl + 0 ≤ 7293034 by omega)) (Nat.le_of_ble_eq_true rfl) rfl dL_law_1330 (kmI rfl rfl (fun q2 hy => ?_))
  refine aw_aloadn (pc := 1333) hX 2 rfl dL_law_1333 ?_
  refine aw_xloadn (pc := 1334) hX 0 rfl dL_law_1334 ?_
  refine aw_iload (pc := 1335) hX 4 rfl dL_law_1335 ?_
  refine aw_iconst (pc := 1337) hX 1 (by decide) dL_law_1337 ?_
  refine aw_iadd (pc := 1338) hX dL_law_1338 ?_
  refine aw_scl (pc := 1339) hX hsc hy dL_law_1339 (fun x3 hy => ?_)
  refine aw_callV (pc := 1340) (st := [vI q2.1]) (a := 55) hX [vI x3] (con_X13_surely _ G _ 55 x3 hy.bd) mc_X13_surely ml_L_153 im_X13_surely se_X13_surely (by decide) hy.bd.kd rfl (rm_law hr (by decide) (show ce + 0 ≤ 601024 by omega) (show sl + 0 ≤ 7293034 by omega)) (Nat.le_of_ble_eq_true rfl) rfl dL_law_1340 (kmI rfl rfl (fun q4 hy => ?_))
  refine aw_ic_eq (pc := 1343) hX 1982 (by decide) dL_law_1343 (fun hc9 => ?_) (fun hc9 => ?_)
  · have hy := hy.t hc9
    exact AW.widen (by omega) (by omega) (hc q4.2 hy.s)
  · have hy := hy.f hc9
    exact hy.no.elim
def lc_32 (sc : Nat → Int32) (L : Nat) (h : Mem) (v4 : Int32) : Option Mem :=
  (f_X11_ask h 1).bind fun q1 => (f_X13_ask q1.2 55).bind fun q2 => (if q1.1 = q2.1 then some q2.2 else none)
set_option maxRecDepth 100000 in
set_option maxHeartbeats 4000000 in
theorem w_lc_32 {G : GE} {X : CX} {sc : Nat → Int32} {L : Nat} (hX : Ok G X cL_law RL) (hN : xn X = 7) (hr : xr X = room_1) (hsc : SC G X L sc) {P : Mem → Prop} (ce sl : Nat) (hce : ce + 20 ≤ 601024) (hsl : sl + 400 ≤ 7293034) (v4 : Int32) (hc : ∀ h', P h' → AW G X 1982 [(0, vX 20), (1, vR 1), (2, vR 55), (3, vR 68), (4, vI v4)] [] h' (ce + 20) (sl + 400)) (h : Mem) (hy : OK (lc_32 sc L h v4) P) : AW G X 1348 [(0, vX 20), (1, vR 1), (2, vR 55), (3, vR 68), (4, vI v4)] [] h ce sl := by
  unfold lc_32 at hy
  refine aw_aloadn (pc := 1348) hX 1 rfl dL_law_1348 ?_
  refine aw_callV (pc := 1349) (st := []) (a := 1) hX [] (con_X11_ask _ G _ 1 hy.bd) mc_X11_ask ml_L_154 im_X11_ask se_X11_ask (by decide) hy.bd.kd rfl (rm_law hr (by decide) (show ce + 0 ≤ 601024 by omega) (show sl + 0 ≤ 7293034 by omega)) (Nat.le_of_ble_eq_true rfl) rfl dL_law_1349 (kmI rfl rfl (fun q1 hy => ?_))
  refine aw_aloadn (pc := 1352) hX 2 rfl dL_law_1352 ?_
  refine aw_callV (pc := 1353) (st := [vI q1.1]) (a := 55) hX [] (con_X13_ask _ G _ 55 hy.bd) mc_X13_ask ml_L_157 im_X13_ask se_X13_ask (by decide) hy.bd.kd rfl (rm_law hr (by decide) (show ce + 0 ≤ 601024 by omega) (show sl + 0 ≤ 7293034 by omega)) (Nat.le_of_ble_eq_true rfl) rfl dL_law_1353 (kmI rfl rfl (fun q2 hy => ?_))
  refine aw_ic_eq (pc := 1356) hX 1982 (by decide) dL_law_1356 (fun hc9 => ?_) (fun hc9 => ?_)
  · have hy := hy.t hc9
    exact AW.widen (by omega) (by omega) (hc q2.2 hy.s)
  · have hy := hy.f hc9
    exact hy.no.elim
def lc_33 (sc : Nat → Int32) (L : Nat) (h : Mem) (v4 : Int32) : Option Mem :=
  (f_X11_askLeaves h 1).bind fun q1 => (f_X13_askLeaves q1.2 55).bind fun q2 => (if q1.1 = q2.1 then some q2.2 else none)
set_option maxRecDepth 100000 in
set_option maxHeartbeats 4000000 in
theorem w_lc_33 {G : GE} {X : CX} {sc : Nat → Int32} {L : Nat} (hX : Ok G X cL_law RL) (hN : xn X = 7) (hr : xr X = room_1) (hsc : SC G X L sc) {P : Mem → Prop} (ce sl : Nat) (hce : ce + 20 ≤ 601024) (hsl : sl + 400 ≤ 7293034) (v4 : Int32) (hc : ∀ h', P h' → AW G X 1982 [(0, vX 20), (1, vR 1), (2, vR 55), (3, vR 68), (4, vI v4)] [] h' (ce + 20) (sl + 400)) (h : Mem) (hy : OK (lc_33 sc L h v4) P) : AW G X 1361 [(0, vX 20), (1, vR 1), (2, vR 55), (3, vR 68), (4, vI v4)] [] h ce sl := by
  unfold lc_33 at hy
  refine aw_aloadn (pc := 1361) hX 1 rfl dL_law_1361 ?_
  refine aw_callV (pc := 1362) (st := []) (a := 1) hX [] (con_X11_askLeaves _ G _ 1 hy.bd) mc_X11_askLeaves ml_L_158 im_X11_askLeaves se_X11_askLeaves (by decide) hy.bd.kd rfl (rm_law hr (by decide) (show ce + 0 ≤ 601024 by omega) (show sl + 0 ≤ 7293034 by omega)) (Nat.le_of_ble_eq_true rfl) rfl dL_law_1362 (kmI rfl rfl (fun q1 hy => ?_))
  refine aw_aloadn (pc := 1365) hX 2 rfl dL_law_1365 ?_
  refine aw_callV (pc := 1366) (st := [vI q1.1]) (a := 55) hX [] (con_X13_askLeaves _ G _ 55 hy.bd) mc_X13_askLeaves ml_L_161 im_X13_askLeaves se_X13_askLeaves (by decide) hy.bd.kd rfl (rm_law hr (by decide) (show ce + 0 ≤ 601024 by omega) (show sl + 0 ≤ 7293034 by omega)) (Nat.le_of_ble_eq_true rfl) rfl dL_law_1366 (kmI rfl rfl (fun q2 hy => ?_))
  refine aw_ic_eq (pc := 1369) hX 1982 (by decide) dL_law_1369 (fun hc9 => ?_) (fun hc9 => ?_)
  · have hy := hy.t hc9
    exact AW.widen (by omega) (by omega) (hc q2.2 hy.s)
  · have hy := hy.f hc9
    exact hy.no.elim
def lc_34 (sc : Nat → Int32) (L : Nat) (h : Mem) (v4 : Int32) : Option Mem :=
  (f_X11_suspect h 1).bind fun q1 => (f_X13_suspect q1.2 55).bind fun q2 => (if q1.1 = q2.1 then some q2.2 else none)
set_option maxRecDepth 100000 in
set_option maxHeartbeats 4000000 in
theorem w_lc_34 {G : GE} {X : CX} {sc : Nat → Int32} {L : Nat} (hX : Ok G X cL_law RL) (hN : xn X = 7) (hr : xr X = room_1) (hsc : SC G X L sc) {P : Mem → Prop} (ce sl : Nat) (hce : ce + 20 ≤ 601024) (hsl : sl + 400 ≤ 7293034) (v4 : Int32) (hc : ∀ h', P h' → AW G X 1982 [(0, vX 20), (1, vR 1), (2, vR 55), (3, vR 68), (4, vI v4)] [] h' (ce + 20) (sl + 400)) (h : Mem) (hy : OK (lc_34 sc L h v4) P) : AW G X 1374 [(0, vX 20), (1, vR 1), (2, vR 55), (3, vR 68), (4, vI v4)] [] h ce sl := by
  unfold lc_34 at hy
  refine aw_aloadn (pc := 1374) hX 1 rfl dL_law_1374 ?_
  refine aw_callV (pc := 1375) (st := []) (a := 1) hX [] (con_X11_suspect _ G _ 1 hy.bd) mc_X11_suspect ml_L_162 im_X11_suspect se_X11_suspect (by decide) hy.bd.kd rfl (rm_law hr (by decide) (show ce + 0 ≤ 601024 by omega) (show sl + 0 ≤ 7293034 by omega)) (Nat.le_of_ble_eq_true rfl) rfl dL_law_1375 (kmI rfl rfl (fun q1 hy => ?_))
  refine aw_aloadn (pc := 1378) hX 2 rfl dL_law_1378 ?_
  refine aw_callV (pc := 1379) (st := [vI q1.1]) (a := 55) hX [] (con_X13_suspect _ G _ 55 hy.bd) mc_X13_suspect ml_L_165 im_X13_suspect se_X13_suspect (by decide) hy.bd.kd rfl (rm_law hr (by decide) (show ce + 0 ≤ 601024 by omega) (show sl + 0 ≤ 7293034 by omega)) (Nat.le_of_ble_eq_true rfl) rfl dL_law_1379 (kmI rfl rfl (fun q2 hy => ?_))
  refine aw_ic_eq (pc := 1382) hX 1982 (by decide) dL_law_1382 (fun hc9 => ?_) (fun hc9 => ?_)
  · have hy := hy.t hc9
    exact AW.widen (by omega) (by omega) (hc q2.2 hy.s)
  · have hy := hy.f hc9
    exact hy.no.elim
def lc_35 (sc : Nat → Int32) (L : Nat) (h : Mem) (v4 : Int32) : Option Mem :=
  (scI sc L (v4 + 1)).bind fun x1 => (scI sc L (v4 + 2)).bind fun x2 => (scI sc L (v4 + 3)).bind fun x3 => (scI sc L (v4 + 4)).bind fun x4 => (if x4 = 0 then (f_X11_sells h 1 x1 x2 x3 0).bind fun q5 => (scI sc L (v4 + 1)).bind fun x6 => (scI sc L (v4 + 2)).bind fun x7 => (scI sc L (v4 + 3)).bind fun x8 => (scI sc L (v4 + 4)).bind fun x9 => (if x9 = 0 then (f_X13_sells q5.2 55 x6 x7 x8 0).bind fun q10 => (if q5.1 = q10.1 then some q10.2 else none) else (f_X13_sells q5.2 55 x6 x7 x8 1).bind fun q11 => (if q5.1 = q11.1 then some q11.2 else none)) else (f_X11_sells h 1 x1 x2 x3 1).bind fun q12 => (scI sc L (v4 + 1)).bind fun x13 => (scI sc L (v4 + 2)).bind fun x14 => (scI sc L (v4 + 3)).bind fun x15 => (scI sc L (v4 + 4)).bind fun x16 => (if x16 = 0 then (f_X13_sells q12.2 55 x13 x14 x15 0).bind fun q17 => (if q12.1 = q17.1 then some q17.2 else none) else (f_X13_sells q12.2 55 x13 x14 x15 1).bind fun q18 => (if q12.1 = q18.1 then some q18.2 else none)))
set_option maxRecDepth 100000 in
set_option maxHeartbeats 4000000 in
theorem w_lc_35 {G : GE} {X : CX} {sc : Nat → Int32} {L : Nat} (hX : Ok G X cL_law RL) (hN : xn X = 7) (hr : xr X = room_1) (hsc : SC G X L sc) {P : Mem → Prop} (ce sl : Nat) (hce : ce + 20 ≤ 601024) (hsl : sl + 400 ≤ 7293034) (v4 : Int32) (hc : ∀ h', P h' → AW G X 1982 [(0, vX 20), (1, vR 1), (2, vR 55), (3, vR 68), (4, vI v4)] [] h' (ce + 20) (sl + 400)) (h : Mem) (hy : OK (lc_35 sc L h v4) P) : AW G X 1387 [(0, vX 20), (1, vR 1), (2, vR 55), (3, vR 68), (4, vI v4)] [] h ce sl := by
  unfold lc_35 at hy
  refine aw_aloadn (pc := 1387) hX 1 rfl dL_law_1387 ?_
  refine aw_xloadn (pc := 1388) hX 0 rfl dL_law_1388 ?_
  refine aw_iload (pc := 1389) hX 4 rfl dL_law_1389 ?_
  refine aw_iconst (pc := 1391) hX 1 (by decide) dL_law_1391 ?_
  refine aw_iadd (pc := 1392) hX dL_law_1392 ?_
  refine aw_scl (pc := 1393) hX hsc hy dL_law_1393 (fun x1 hy => ?_)
  refine aw_xloadn (pc := 1394) hX 0 rfl dL_law_1394 ?_
  refine aw_iload (pc := 1395) hX 4 rfl dL_law_1395 ?_
  refine aw_iconst (pc := 1397) hX 2 (by decide) dL_law_1397 ?_
  refine aw_iadd (pc := 1398) hX dL_law_1398 ?_
  refine aw_scl (pc := 1399) hX hsc hy dL_law_1399 (fun x2 hy => ?_)
  refine aw_xloadn (pc := 1400) hX 0 rfl dL_law_1400 ?_
  refine aw_iload (pc := 1401) hX 4 rfl dL_law_1401 ?_
  refine aw_iconst (pc := 1403) hX 3 (by decide) dL_law_1403 ?_
  refine aw_iadd (pc := 1404) hX dL_law_1404 ?_
  refine aw_scl (pc := 1405) hX hsc hy dL_law_1405 (fun x3 hy => ?_)
  refine aw_xloadn (pc := 1406) hX 0 rfl dL_law_1406 ?_
  refine aw_iload (pc := 1407) hX 4 rfl dL_law_1407 ?_
  refine aw_iconst (pc := 1409) hX 4 (by decide) dL_law_1409 ?_
  refine aw_iadd (pc := 1410) hX dL_law_1410 ?_
  refine aw_scl (pc := 1411) hX hsc hy dL_law_1411 (fun x4 hy => ?_)
  refine aw_if_eq (pc := 1412) hX 1419 (by decide) dL_law_1412 (fun hc9 => ?_) (fun hc9 => ?_)
  · have hy := hy.t hc9
    refine aw_iconst (pc := 1419) hX 0 (by decide) dL_law_1419 ?_
    refine aw_callV (pc := 1420) (st := []) (a := 1) hX [vI x1, vI x2, vI x3, vI 0] (con_X11_sells _ G _ 1 x1 x2 x3 0 hy.bd) mc_X11_sells ml_L_166 im_X11_sells se_X11_sells (by decide) hy.bd.kd rfl (rm_law hr (by decide) (show ce + 0 ≤ 601024 by omega) (show sl + 0 ≤ 7293034 by omega)) (Nat.le_of_ble_eq_true rfl) rfl dL_law_1420 (kmI rfl rfl (fun q5 hy => ?_))
    refine aw_aloadn (pc := 1423) hX 2 rfl dL_law_1423 ?_
    refine aw_xloadn (pc := 1424) hX 0 rfl dL_law_1424 ?_
    refine aw_iload (pc := 1425) hX 4 rfl dL_law_1425 ?_
    refine aw_iconst (pc := 1427) hX 1 (by decide) dL_law_1427 ?_
    refine aw_iadd (pc := 1428) hX dL_law_1428 ?_
    refine aw_scl (pc := 1429) hX hsc hy dL_law_1429 (fun x6 hy => ?_)
    refine aw_xloadn (pc := 1430) hX 0 rfl dL_law_1430 ?_
    refine aw_iload (pc := 1431) hX 4 rfl dL_law_1431 ?_
    refine aw_iconst (pc := 1433) hX 2 (by decide) dL_law_1433 ?_
    refine aw_iadd (pc := 1434) hX dL_law_1434 ?_
    refine aw_scl (pc := 1435) hX hsc hy dL_law_1435 (fun x7 hy => ?_)
    refine aw_xloadn (pc := 1436) hX 0 rfl dL_law_1436 ?_
    refine aw_iload (pc := 1437) hX 4 rfl dL_law_1437 ?_
    refine aw_iconst (pc := 1439) hX 3 (by decide) dL_law_1439 ?_
    refine aw_iadd (pc := 1440) hX dL_law_1440 ?_
    refine aw_scl (pc := 1441) hX hsc hy dL_law_1441 (fun x8 hy => ?_)
    refine aw_xloadn (pc := 1442) hX 0 rfl dL_law_1442 ?_
    refine aw_iload (pc := 1443) hX 4 rfl dL_law_1443 ?_
    refine aw_iconst (pc := 1445) hX 4 (by decide) dL_law_1445 ?_
    refine aw_iadd (pc := 1446) hX dL_law_1446 ?_
    refine aw_scl (pc := 1447) hX hsc hy dL_law_1447 (fun x9 hy => ?_)
    refine aw_if_eq (pc := 1448) hX 1455 (by decide) dL_law_1448 (fun hc9 => ?_) (fun hc9 => ?_)
    · have hy := hy.t hc9
      refine aw_iconst (pc := 1455) hX 0 (by decide) dL_law_1455 ?_
      refine aw_callV (pc := 1456) (st := [vI q5.1]) (a := 55) hX [vI x6, vI x7, vI x8, vI 0] (con_X13_sells _ G _ 55 x6 x7 x8 0 hy.bd) mc_X13_sells ml_L_169 im_X13_sells se_X13_sells (by decide) hy.bd.kd rfl (rm_law hr (by decide) (show ce + 0 ≤ 601024 by omega) (show sl + 0 ≤ 7293034 by omega)) (Nat.le_of_ble_eq_true rfl) rfl dL_law_1456 (kmI rfl rfl (fun q10 hy => ?_))
      refine aw_ic_eq (pc := 1459) hX 1982 (by decide) dL_law_1459 (fun hc9 => ?_) (fun hc9 => ?_)
      · have hy := hy.t hc9
        exact AW.widen (by omega) (by omega) (hc q10.2 hy.s)
      · have hy := hy.f hc9
        exact hy.no.elim
    · have hy := hy.f hc9
      refine aw_iconst (pc := 1451) hX 1 (by decide) dL_law_1451 ?_
      refine aw_goto (pc := 1452) hX 1456 (by decide) dL_law_1452 ?_
      refine aw_callV (pc := 1456) (st := [vI q5.1]) (a := 55) hX [vI x6, vI x7, vI x8, vI 1] (con_X13_sells _ G _ 55 x6 x7 x8 1 hy.bd) mc_X13_sells ml_L_169 im_X13_sells se_X13_sells (by decide) hy.bd.kd rfl (rm_law hr (by decide) (show ce + 0 ≤ 601024 by omega) (show sl + 0 ≤ 7293034 by omega)) (Nat.le_of_ble_eq_true rfl) rfl dL_law_1456 (kmI rfl rfl (fun q11 hy => ?_))
      refine aw_ic_eq (pc := 1459) hX 1982 (by decide) dL_law_1459 (fun hc9 => ?_) (fun hc9 => ?_)
      · have hy := hy.t hc9
        exact AW.widen (by omega) (by omega) (hc q11.2 hy.s)
      · have hy := hy.f hc9
        exact hy.no.elim
  · have hy := hy.f hc9
    refine aw_iconst (pc := 1415) hX 1 (by decide) dL_law_1415 ?_
    refine aw_goto (pc := 1416) hX 1420 (by decide) dL_law_1416 ?_
    refine aw_callV (pc := 1420) (st := []) (a := 1) hX [vI x1, vI x2, vI x3, vI 1] (con_X11_sells _ G _ 1 x1 x2 x3 1 hy.bd) mc_X11_sells ml_L_166 im_X11_sells se_X11_sells (by decide) hy.bd.kd rfl (rm_law hr (by decide) (show ce + 0 ≤ 601024 by omega) (show sl + 0 ≤ 7293034 by omega)) (Nat.le_of_ble_eq_true rfl) rfl dL_law_1420 (kmI rfl rfl (fun q12 hy => ?_))
    refine aw_aloadn (pc := 1423) hX 2 rfl dL_law_1423 ?_
    refine aw_xloadn (pc := 1424) hX 0 rfl dL_law_1424 ?_
    refine aw_iload (pc := 1425) hX 4 rfl dL_law_1425 ?_
    refine aw_iconst (pc := 1427) hX 1 (by decide) dL_law_1427 ?_
    refine aw_iadd (pc := 1428) hX dL_law_1428 ?_
    refine aw_scl (pc := 1429) hX hsc hy dL_law_1429 (fun x13 hy => ?_)
    refine aw_xloadn (pc := 1430) hX 0 rfl dL_law_1430 ?_
    refine aw_iload (pc := 1431) hX 4 rfl dL_law_1431 ?_
    refine aw_iconst (pc := 1433) hX 2 (by decide) dL_law_1433 ?_
    refine aw_iadd (pc := 1434) hX dL_law_1434 ?_
    refine aw_scl (pc := 1435) hX hsc hy dL_law_1435 (fun x14 hy => ?_)
    refine aw_xloadn (pc := 1436) hX 0 rfl dL_law_1436 ?_
    refine aw_iload (pc := 1437) hX 4 rfl dL_law_1437 ?_
    refine aw_iconst (pc := 1439) hX 3 (by decide) dL_law_1439 ?_
    refine aw_iadd (pc := 1440) hX dL_law_1440 ?_
    refine aw_scl (pc := 1441) hX hsc hy dL_law_1441 (fun x15 hy => ?_)
    refine aw_xloadn (pc := 1442) hX 0 rfl dL_law_1442 ?_
    refine aw_iload (pc := 1443) hX 4 rfl dL_law_1443 ?_
    refine aw_iconst (pc := 1445) hX 4 (by decide) dL_law_1445 ?_
    refine aw_iadd (pc := 1446) hX dL_law_1446 ?_
    refine aw_scl (pc := 1447) hX hsc hy dL_law_1447 (fun x16 hy => ?_)
    refine aw_if_eq (pc := 1448) hX 1455 (by decide) dL_law_1448 (fun hc9 => ?_) (fun hc9 => ?_)
    · have hy := hy.t hc9
      refine aw_iconst (pc := 1455) hX 0 (by decide) dL_law_1455 ?_
      refine aw_callV (pc := 1456) (st := [vI q12.1]) (a := 55) hX [vI x13, vI x14, vI x15, vI 0] (con_X13_sells _ G _ 55 x13 x14 x15 0 hy.bd) mc_X13_sells ml_L_169 im_X13_sells se_X13_sells (by decide) hy.bd.kd rfl (rm_law hr (by decide) (show ce + 0 ≤ 601024 by omega) (show sl + 0 ≤ 7293034 by omega)) (Nat.le_of_ble_eq_true rfl) rfl dL_law_1456 (kmI rfl rfl (fun q17 hy => ?_))
      refine aw_ic_eq (pc := 1459) hX 1982 (by decide) dL_law_1459 (fun hc9 => ?_) (fun hc9 => ?_)
      · have hy := hy.t hc9
        exact AW.widen (by omega) (by omega) (hc q17.2 hy.s)
      · have hy := hy.f hc9
        exact hy.no.elim
    · have hy := hy.f hc9
      refine aw_iconst (pc := 1451) hX 1 (by decide) dL_law_1451 ?_
      refine aw_goto (pc := 1452) hX 1456 (by decide) dL_law_1452 ?_
      refine aw_callV (pc := 1456) (st := [vI q12.1]) (a := 55) hX [vI x13, vI x14, vI x15, vI 1] (con_X13_sells _ G _ 55 x13 x14 x15 1 hy.bd) mc_X13_sells ml_L_169 im_X13_sells se_X13_sells (by decide) hy.bd.kd rfl (rm_law hr (by decide) (show ce + 0 ≤ 601024 by omega) (show sl + 0 ≤ 7293034 by omega)) (Nat.le_of_ble_eq_true rfl) rfl dL_law_1456 (kmI rfl rfl (fun q18 hy => ?_))
      refine aw_ic_eq (pc := 1459) hX 1982 (by decide) dL_law_1459 (fun hc9 => ?_) (fun hc9 => ?_)
      · have hy := hy.t hc9
        exact AW.widen (by omega) (by omega) (hc q18.2 hy.s)
      · have hy := hy.f hc9
        exact hy.no.elim
def lc_36 (sc : Nat → Int32) (L : Nat) (h : Mem) (v4 : Int32) : Option Mem :=
  (scI sc L (v4 + 1)).bind fun x1 => (f_X11_rests h 1 x1).bind fun q2 => (scI sc L (v4 + 1)).bind fun x3 => (f_X13_rests q2.2 55 x3).bind fun q4 => (if q2.1 = q4.1 then some q4.2 else none)
set_option maxRecDepth 100000 in
set_option maxHeartbeats 4000000 in
theorem w_lc_36 {G : GE} {X : CX} {sc : Nat → Int32} {L : Nat} (hX : Ok G X cL_law RL) (hN : xn X = 7) (hr : xr X = room_1) (hsc : SC G X L sc) {P : Mem → Prop} (ce sl : Nat) (hce : ce + 20 ≤ 601024) (hsl : sl + 400 ≤ 7293034) (v4 : Int32) (hc : ∀ h', P h' → AW G X 1982 [(0, vX 20), (1, vR 1), (2, vR 55), (3, vR 68), (4, vI v4)] [] h' (ce + 20) (sl + 400)) (h : Mem) (hy : OK (lc_36 sc L h v4) P) : AW G X 1464 [(0, vX 20), (1, vR 1), (2, vR 55), (3, vR 68), (4, vI v4)] [] h ce sl := by
  unfold lc_36 at hy
  refine aw_aloadn (pc := 1464) hX 1 rfl dL_law_1464 ?_
  refine aw_xloadn (pc := 1465) hX 0 rfl dL_law_1465 ?_
  refine aw_iload (pc := 1466) hX 4 rfl dL_law_1466 ?_
  refine aw_iconst (pc := 1468) hX 1 (by decide) dL_law_1468 ?_
  refine aw_iadd (pc := 1469) hX dL_law_1469 ?_
  refine aw_scl (pc := 1470) hX hsc hy dL_law_1470 (fun x1 hy => ?_)
  refine aw_callV (pc := 1471) (st := []) (a := 1) hX [vI x1] (con_X11_rests _ G _ 1 x1 hy.bd) mc_X11_rests ml_L_170 im_X11_rests se_X11_rests (by decide) hy.bd.kd rfl (rm_law hr (by decide) (show ce + 0 ≤ 601024 by omega) (show sl + 0 ≤ 7293034 by omega)) (Nat.le_of_ble_eq_true rfl) rfl dL_law_1471 (kmI rfl rfl (fun q2 hy => ?_))
  refine aw_aloadn (pc := 1474) hX 2 rfl dL_law_1474 ?_
  refine aw_xloadn (pc := 1475) hX 0 rfl dL_law_1475 ?_
  refine aw_iload (pc := 1476) hX 4 rfl dL_law_1476 ?_
  refine aw_iconst (pc := 1478) hX 1 (by decide) dL_law_1478 ?_
  refine aw_iadd (pc := 1479) hX dL_law_1479 ?_
  refine aw_scl (pc := 1480) hX hsc hy dL_law_1480 (fun x3 hy => ?_)
  refine aw_callV (pc := 1481) (st := [vI q2.1]) (a := 55) hX [vI x3] (con_X13_rests _ G _ 55 x3 hy.bd) mc_X13_rests ml_L_173 im_X13_rests se_X13_rests (by decide) hy.bd.kd rfl (rm_law hr (by decide) (show ce + 0 ≤ 601024 by omega) (show sl + 0 ≤ 7293034 by omega)) (Nat.le_of_ble_eq_true rfl) rfl dL_law_1481 (kmI rfl rfl (fun q4 hy => ?_))
  refine aw_ic_eq (pc := 1484) hX 1982 (by decide) dL_law_1484 (fun hc9 => ?_) (fun hc9 => ?_)
  · have hy := hy.t hc9
    exact AW.widen (by omega) (by omega) (hc q4.2 hy.s)
  · have hy := hy.f hc9
    exact hy.no.elim
def lc_37 (sc : Nat → Int32) (L : Nat) (h : Mem) (v4 : Int32) : Option Mem :=
  (scI sc L (v4 + 1)).bind fun x1 => (f_X11_rest h 1 x1).bind fun q2 => (scI sc L (v4 + 1)).bind fun x3 => (f_X13_rest q2.2 55 x3).bind fun q4 => (if q2.1 = q4.1 then some q4.2 else none)
set_option maxRecDepth 100000 in
set_option maxHeartbeats 4000000 in
theorem w_lc_37 {G : GE} {X : CX} {sc : Nat → Int32} {L : Nat} (hX : Ok G X cL_law RL) (hN : xn X = 7) (hr : xr X = room_1) (hsc : SC G X L sc) {P : Mem → Prop} (ce sl : Nat) (hce : ce + 20 ≤ 601024) (hsl : sl + 400 ≤ 7293034) (v4 : Int32) (hc : ∀ h', P h' → AW G X 1982 [(0, vX 20), (1, vR 1), (2, vR 55), (3, vR 68), (4, vI v4)] [] h' (ce + 20) (sl + 400)) (h : Mem) (hy : OK (lc_37 sc L h v4) P) : AW G X 1489 [(0, vX 20), (1, vR 1), (2, vR 55), (3, vR 68), (4, vI v4)] [] h ce sl := by
  unfold lc_37 at hy
  refine aw_aloadn (pc := 1489) hX 1 rfl dL_law_1489 ?_
  refine aw_xloadn (pc := 1490) hX 0 rfl dL_law_1490 ?_
  refine aw_iload (pc := 1491) hX 4 rfl dL_law_1491 ?_
  refine aw_iconst (pc := 1493) hX 1 (by decide) dL_law_1493 ?_
  refine aw_iadd (pc := 1494) hX dL_law_1494 ?_
  refine aw_scl (pc := 1495) hX hsc hy dL_law_1495 (fun x1 hy => ?_)
  refine aw_callV (pc := 1496) (st := []) (a := 1) hX [vI x1] (con_X11_rest _ G _ 1 x1 hy.bd) mc_X11_rest ml_L_174 im_X11_rest se_X11_rest (by decide) hy.bd.kd rfl (rm_law hr (by decide) (show ce + 0 ≤ 601024 by omega) (show sl + 0 ≤ 7293034 by omega)) (Nat.le_of_ble_eq_true rfl) rfl dL_law_1496 (kmI rfl rfl (fun q2 hy => ?_))
  refine aw_aloadn (pc := 1499) hX 2 rfl dL_law_1499 ?_
  refine aw_xloadn (pc := 1500) hX 0 rfl dL_law_1500 ?_
  refine aw_iload (pc := 1501) hX 4 rfl dL_law_1501 ?_
  refine aw_iconst (pc := 1503) hX 1 (by decide) dL_law_1503 ?_
  refine aw_iadd (pc := 1504) hX dL_law_1504 ?_
  refine aw_scl (pc := 1505) hX hsc hy dL_law_1505 (fun x3 hy => ?_)
  refine aw_callV (pc := 1506) (st := [vI q2.1]) (a := 55) hX [vI x3] (con_X13_rest _ G _ 55 x3 hy.bd) mc_X13_rest ml_L_177 im_X13_rest se_X13_rest (by decide) hy.bd.kd rfl (rm_law hr (by decide) (show ce + 0 ≤ 601024 by omega) (show sl + 0 ≤ 7293034 by omega)) (Nat.le_of_ble_eq_true rfl) rfl dL_law_1506 (kmI rfl rfl (fun q4 hy => ?_))
  refine aw_ic_eq (pc := 1509) hX 1982 (by decide) dL_law_1509 (fun hc9 => ?_) (fun hc9 => ?_)
  · have hy := hy.t hc9
    exact AW.widen (by omega) (by omega) (hc q4.2 hy.s)
  · have hy := hy.f hc9
    exact hy.no.elim
def lc_38 (sc : Nat → Int32) (L : Nat) (h : Mem) (v4 : Int32) : Option Mem :=
  (scI sc L (v4 + 1)).bind fun x1 => (scI sc L (v4 + 2)).bind fun x2 => (scI sc L (v4 + 3)).bind fun x3 => (f_X11_roams h 1 x1 x2 x3).bind fun q4 => (scI sc L (v4 + 1)).bind fun x5 => (scI sc L (v4 + 2)).bind fun x6 => (scI sc L (v4 + 3)).bind fun x7 => (f_X13_roams q4.2 55 x5 x6 x7).bind fun q8 => (if q4.1 = q8.1 then some q8.2 else none)
set_option maxRecDepth 100000 in
set_option maxHeartbeats 4000000 in
theorem w_lc_38 {G : GE} {X : CX} {sc : Nat → Int32} {L : Nat} (hX : Ok G X cL_law RL) (hN : xn X = 7) (hr : xr X = room_1) (hsc : SC G X L sc) {P : Mem → Prop} (ce sl : Nat) (hce : ce + 20 ≤ 601024) (hsl : sl + 400 ≤ 7293034) (v4 : Int32) (hc : ∀ h', P h' → AW G X 1982 [(0, vX 20), (1, vR 1), (2, vR 55), (3, vR 68), (4, vI v4)] [] h' (ce + 20) (sl + 400)) (h : Mem) (hy : OK (lc_38 sc L h v4) P) : AW G X 1514 [(0, vX 20), (1, vR 1), (2, vR 55), (3, vR 68), (4, vI v4)] [] h ce sl := by
  unfold lc_38 at hy
  refine aw_aloadn (pc := 1514) hX 1 rfl dL_law_1514 ?_
  refine aw_xloadn (pc := 1515) hX 0 rfl dL_law_1515 ?_
  refine aw_iload (pc := 1516) hX 4 rfl dL_law_1516 ?_
  refine aw_iconst (pc := 1518) hX 1 (by decide) dL_law_1518 ?_
  refine aw_iadd (pc := 1519) hX dL_law_1519 ?_
  refine aw_scl (pc := 1520) hX hsc hy dL_law_1520 (fun x1 hy => ?_)
  refine aw_xloadn (pc := 1521) hX 0 rfl dL_law_1521 ?_
  refine aw_iload (pc := 1522) hX 4 rfl dL_law_1522 ?_
  refine aw_iconst (pc := 1524) hX 2 (by decide) dL_law_1524 ?_
  refine aw_iadd (pc := 1525) hX dL_law_1525 ?_
  refine aw_scl (pc := 1526) hX hsc hy dL_law_1526 (fun x2 hy => ?_)
  refine aw_xloadn (pc := 1527) hX 0 rfl dL_law_1527 ?_
  refine aw_iload (pc := 1528) hX 4 rfl dL_law_1528 ?_
  refine aw_iconst (pc := 1530) hX 3 (by decide) dL_law_1530 ?_
  refine aw_iadd (pc := 1531) hX dL_law_1531 ?_
  refine aw_scl (pc := 1532) hX hsc hy dL_law_1532 (fun x3 hy => ?_)
  refine aw_callV (pc := 1533) (st := []) (a := 1) hX [vI x1, vI x2, vI x3] (con_X11_roams _ G _ 1 x1 x2 x3 hy.bd) mc_X11_roams ml_L_178 im_X11_roams se_X11_roams (by decide) hy.bd.kd rfl (rm_law hr (by decide) (show ce + 0 ≤ 601024 by omega) (show sl + 0 ≤ 7293034 by omega)) (Nat.le_of_ble_eq_true rfl) rfl dL_law_1533 (kmI rfl rfl (fun q4 hy => ?_))
  refine aw_aloadn (pc := 1536) hX 2 rfl dL_law_1536 ?_
  refine aw_xloadn (pc := 1537) hX 0 rfl dL_law_1537 ?_
  refine aw_iload (pc := 1538) hX 4 rfl dL_law_1538 ?_
  refine aw_iconst (pc := 1540) hX 1 (by decide) dL_law_1540 ?_
  refine aw_iadd (pc := 1541) hX dL_law_1541 ?_
  refine aw_scl (pc := 1542) hX hsc hy dL_law_1542 (fun x5 hy => ?_)
  refine aw_xloadn (pc := 1543) hX 0 rfl dL_law_1543 ?_
  refine aw_iload (pc := 1544) hX 4 rfl dL_law_1544 ?_
  refine aw_iconst (pc := 1546) hX 2 (by decide) dL_law_1546 ?_
  refine aw_iadd (pc := 1547) hX dL_law_1547 ?_
  refine aw_scl (pc := 1548) hX hsc hy dL_law_1548 (fun x6 hy => ?_)
  refine aw_xloadn (pc := 1549) hX 0 rfl dL_law_1549 ?_
  refine aw_iload (pc := 1550) hX 4 rfl dL_law_1550 ?_
  refine aw_iconst (pc := 1552) hX 3 (by decide) dL_law_1552 ?_
  refine aw_iadd (pc := 1553) hX dL_law_1553 ?_
  refine aw_scl (pc := 1554) hX hsc hy dL_law_1554 (fun x7 hy => ?_)
  refine aw_callV (pc := 1555) (st := [vI q4.1]) (a := 55) hX [vI x5, vI x6, vI x7] (con_X13_roams _ G _ 55 x5 x6 x7 hy.bd) mc_X13_roams ml_L_181 im_X13_roams se_X13_roams (by decide) hy.bd.kd rfl (rm_law hr (by decide) (show ce + 0 ≤ 601024 by omega) (show sl + 0 ≤ 7293034 by omega)) (Nat.le_of_ble_eq_true rfl) rfl dL_law_1555 (kmI rfl rfl (fun q8 hy => ?_))
  refine aw_ic_eq (pc := 1558) hX 1982 (by decide) dL_law_1558 (fun hc9 => ?_) (fun hc9 => ?_)
  · have hy := hy.t hc9
    exact AW.widen (by omega) (by omega) (hc q8.2 hy.s)
  · have hy := hy.f hc9
    exact hy.no.elim
def lc_39 (sc : Nat → Int32) (L : Nat) (h : Mem) (v4 : Int32) : Option Mem :=
  (scI sc L (v4 + 1)).bind fun x1 => (scI sc L (v4 + 2)).bind fun x2 => (scI sc L (v4 + 3)).bind fun x3 => (f_X11_roamed h 1 x1 x2 x3).bind fun q4 => (scI sc L (v4 + 1)).bind fun x5 => (scI sc L (v4 + 2)).bind fun x6 => (scI sc L (v4 + 3)).bind fun x7 => (f_X13_roamed q4.2 55 x5 x6 x7).bind fun q8 => (if q4.1 = q8.1 then some q8.2 else none)
set_option maxRecDepth 100000 in
set_option maxHeartbeats 4000000 in
theorem w_lc_39 {G : GE} {X : CX} {sc : Nat → Int32} {L : Nat} (hX : Ok G X cL_law RL) (hN : xn X = 7) (hr : xr X = room_1) (hsc : SC G X L sc) {P : Mem → Prop} (ce sl : Nat) (hce : ce + 20 ≤ 601024) (hsl : sl + 400 ≤ 7293034) (v4 : Int32) (hc : ∀ h', P h' → AW G X 1982 [(0, vX 20), (1, vR 1), (2, vR 55), (3, vR 68), (4, vI v4)] [] h' (ce + 20) (sl + 400)) (h : Mem) (hy : OK (lc_39 sc L h v4) P) : AW G X 1563 [(0, vX 20), (1, vR 1), (2, vR 55), (3, vR 68), (4, vI v4)] [] h ce sl := by
  unfold lc_39 at hy
  refine aw_aloadn (pc := 1563) hX 1 rfl dL_law_1563 ?_
  refine aw_xloadn (pc := 1564) hX 0 rfl dL_law_1564 ?_
  refine aw_iload (pc := 1565) hX 4 rfl dL_law_1565 ?_
  refine aw_iconst (pc := 1567) hX 1 (by decide) dL_law_1567 ?_
  refine aw_iadd (pc := 1568) hX dL_law_1568 ?_
  refine aw_scl (pc := 1569) hX hsc hy dL_law_1569 (fun x1 hy => ?_)
  refine aw_xloadn (pc := 1570) hX 0 rfl dL_law_1570 ?_
  refine aw_iload (pc := 1571) hX 4 rfl dL_law_1571 ?_
  refine aw_iconst (pc := 1573) hX 2 (by decide) dL_law_1573 ?_
  refine aw_iadd (pc := 1574) hX dL_law_1574 ?_
  refine aw_scl (pc := 1575) hX hsc hy dL_law_1575 (fun x2 hy => ?_)
  refine aw_xloadn (pc := 1576) hX 0 rfl dL_law_1576 ?_
  refine aw_iload (pc := 1577) hX 4 rfl dL_law_1577 ?_
  refine aw_iconst (pc := 1579) hX 3 (by decide) dL_law_1579 ?_
  refine aw_iadd (pc := 1580) hX dL_law_1580 ?_
  refine aw_scl (pc := 1581) hX hsc hy dL_law_1581 (fun x3 hy => ?_)
  refine aw_callV (pc := 1582) (st := []) (a := 1) hX [vI x1, vI x2, vI x3] (con_X11_roamed _ G _ 1 x1 x2 x3 hy.bd) mc_X11_roamed ml_L_182 im_X11_roamed se_X11_roamed (by decide) hy.bd.kd rfl (rm_law hr (by decide) (show ce + 0 ≤ 601024 by omega) (show sl + 0 ≤ 7293034 by omega)) (Nat.le_of_ble_eq_true rfl) rfl dL_law_1582 (kmI rfl rfl (fun q4 hy => ?_))
  refine aw_aloadn (pc := 1585) hX 2 rfl dL_law_1585 ?_
  refine aw_xloadn (pc := 1586) hX 0 rfl dL_law_1586 ?_
  refine aw_iload (pc := 1587) hX 4 rfl dL_law_1587 ?_
  refine aw_iconst (pc := 1589) hX 1 (by decide) dL_law_1589 ?_
  refine aw_iadd (pc := 1590) hX dL_law_1590 ?_
  refine aw_scl (pc := 1591) hX hsc hy dL_law_1591 (fun x5 hy => ?_)
  refine aw_xloadn (pc := 1592) hX 0 rfl dL_law_1592 ?_
  refine aw_iload (pc := 1593) hX 4 rfl dL_law_1593 ?_
  refine aw_iconst (pc := 1595) hX 2 (by decide) dL_law_1595 ?_
  refine aw_iadd (pc := 1596) hX dL_law_1596 ?_
  refine aw_scl (pc := 1597) hX hsc hy dL_law_1597 (fun x6 hy => ?_)
  refine aw_xloadn (pc := 1598) hX 0 rfl dL_law_1598 ?_
  refine aw_iload (pc := 1599) hX 4 rfl dL_law_1599 ?_
  refine aw_iconst (pc := 1601) hX 3 (by decide) dL_law_1601 ?_
  refine aw_iadd (pc := 1602) hX dL_law_1602 ?_
  refine aw_scl (pc := 1603) hX hsc hy dL_law_1603 (fun x7 hy => ?_)
  refine aw_callV (pc := 1604) (st := [vI q4.1]) (a := 55) hX [vI x5, vI x6, vI x7] (con_X13_roamed _ G _ 55 x5 x6 x7 hy.bd) mc_X13_roamed ml_L_185 im_X13_roamed se_X13_roamed (by decide) hy.bd.kd rfl (rm_law hr (by decide) (show ce + 0 ≤ 601024 by omega) (show sl + 0 ≤ 7293034 by omega)) (Nat.le_of_ble_eq_true rfl) rfl dL_law_1604 (kmI rfl rfl (fun q8 hy => ?_))
  refine aw_ic_eq (pc := 1607) hX 1982 (by decide) dL_law_1607 (fun hc9 => ?_) (fun hc9 => ?_)
  · have hy := hy.t hc9
    exact AW.widen (by omega) (by omega) (hc q8.2 hy.s)
  · have hy := hy.f hc9
    exact hy.no.elim
def lc_40 (sc : Nat → Int32) (L : Nat) (h : Mem) (v4 : Int32) : Option Mem :=
  (scI sc L (v4 + 1)).bind fun x1 => (scI sc L (v4 + 2)).bind fun x2 => (scI sc L (v4 + 3)).bind fun x3 => (scI sc L (v4 + 4)).bind fun x4 => (f_X11_roamsTo h 1 x1 x2 x3 x4).bind fun q5 => (scI sc L (v4 + 1)).bind fun x6 => (scI sc L (v4 + 2)).bind fun x7 => (scI sc L (v4 + 3)).bind fun x8 => (scI sc L (v4 + 4)).bind fun x9 => (f_X13_roamsTo q5.2 55 x6 x7 x8 x9).bind fun q10 => (if q5.1 = q10.1 then some q10.2 else none)
set_option maxRecDepth 100000 in
set_option maxHeartbeats 4000000 in
theorem w_lc_40 {G : GE} {X : CX} {sc : Nat → Int32} {L : Nat} (hX : Ok G X cL_law RL) (hN : xn X = 7) (hr : xr X = room_1) (hsc : SC G X L sc) {P : Mem → Prop} (ce sl : Nat) (hce : ce + 20 ≤ 601024) (hsl : sl + 400 ≤ 7293034) (v4 : Int32) (hc : ∀ h', P h' → AW G X 1982 [(0, vX 20), (1, vR 1), (2, vR 55), (3, vR 68), (4, vI v4)] [] h' (ce + 20) (sl + 400)) (h : Mem) (hy : OK (lc_40 sc L h v4) P) : AW G X 1612 [(0, vX 20), (1, vR 1), (2, vR 55), (3, vR 68), (4, vI v4)] [] h ce sl := by
  unfold lc_40 at hy
  refine aw_aloadn (pc := 1612) hX 1 rfl dL_law_1612 ?_
  refine aw_xloadn (pc := 1613) hX 0 rfl dL_law_1613 ?_
  refine aw_iload (pc := 1614) hX 4 rfl dL_law_1614 ?_
  refine aw_iconst (pc := 1616) hX 1 (by decide) dL_law_1616 ?_
  refine aw_iadd (pc := 1617) hX dL_law_1617 ?_
  refine aw_scl (pc := 1618) hX hsc hy dL_law_1618 (fun x1 hy => ?_)
  refine aw_xloadn (pc := 1619) hX 0 rfl dL_law_1619 ?_
  refine aw_iload (pc := 1620) hX 4 rfl dL_law_1620 ?_
  refine aw_iconst (pc := 1622) hX 2 (by decide) dL_law_1622 ?_
  refine aw_iadd (pc := 1623) hX dL_law_1623 ?_
  refine aw_scl (pc := 1624) hX hsc hy dL_law_1624 (fun x2 hy => ?_)
  refine aw_xloadn (pc := 1625) hX 0 rfl dL_law_1625 ?_
  refine aw_iload (pc := 1626) hX 4 rfl dL_law_1626 ?_
  refine aw_iconst (pc := 1628) hX 3 (by decide) dL_law_1628 ?_
  refine aw_iadd (pc := 1629) hX dL_law_1629 ?_
  refine aw_scl (pc := 1630) hX hsc hy dL_law_1630 (fun x3 hy => ?_)
  refine aw_xloadn (pc := 1631) hX 0 rfl dL_law_1631 ?_
  refine aw_iload (pc := 1632) hX 4 rfl dL_law_1632 ?_
  refine aw_iconst (pc := 1634) hX 4 (by decide) dL_law_1634 ?_
  refine aw_iadd (pc := 1635) hX dL_law_1635 ?_
  refine aw_scl (pc := 1636) hX hsc hy dL_law_1636 (fun x4 hy => ?_)
  refine aw_callV (pc := 1637) (st := []) (a := 1) hX [vI x1, vI x2, vI x3, vI x4] (con_X11_roamsTo _ G _ 1 x1 x2 x3 x4 hy.bd) mc_X11_roamsTo ml_L_186 im_X11_roamsTo se_X11_roamsTo (by decide) hy.bd.kd rfl (rm_law hr (by decide) (show ce + 0 ≤ 601024 by omega) (show sl + 0 ≤ 7293034 by omega)) (Nat.le_of_ble_eq_true rfl) rfl dL_law_1637 (kmI rfl rfl (fun q5 hy => ?_))
  refine aw_aloadn (pc := 1640) hX 2 rfl dL_law_1640 ?_
  refine aw_xloadn (pc := 1641) hX 0 rfl dL_law_1641 ?_
  refine aw_iload (pc := 1642) hX 4 rfl dL_law_1642 ?_
  refine aw_iconst (pc := 1644) hX 1 (by decide) dL_law_1644 ?_
  refine aw_iadd (pc := 1645) hX dL_law_1645 ?_
  refine aw_scl (pc := 1646) hX hsc hy dL_law_1646 (fun x6 hy => ?_)
  refine aw_xloadn (pc := 1647) hX 0 rfl dL_law_1647 ?_
  refine aw_iload (pc := 1648) hX 4 rfl dL_law_1648 ?_
  refine aw_iconst (pc := 1650) hX 2 (by decide) dL_law_1650 ?_
  refine aw_iadd (pc := 1651) hX dL_law_1651 ?_
  refine aw_scl (pc := 1652) hX hsc hy dL_law_1652 (fun x7 hy => ?_)
  refine aw_xloadn (pc := 1653) hX 0 rfl dL_law_1653 ?_
  refine aw_iload (pc := 1654) hX 4 rfl dL_law_1654 ?_
  refine aw_iconst (pc := 1656) hX 3 (by decide) dL_law_1656 ?_
  refine aw_iadd (pc := 1657) hX dL_law_1657 ?_
  refine aw_scl (pc := 1658) hX hsc hy dL_law_1658 (fun x8 hy => ?_)
  refine aw_xloadn (pc := 1659) hX 0 rfl dL_law_1659 ?_
  refine aw_iload (pc := 1660) hX 4 rfl dL_law_1660 ?_
  refine aw_iconst (pc := 1662) hX 4 (by decide) dL_law_1662 ?_
  refine aw_iadd (pc := 1663) hX dL_law_1663 ?_
  refine aw_scl (pc := 1664) hX hsc hy dL_law_1664 (fun x9 hy => ?_)
  refine aw_callV (pc := 1665) (st := [vI q5.1]) (a := 55) hX [vI x6, vI x7, vI x8, vI x9] (con_X13_roamsTo _ G _ 55 x6 x7 x8 x9 hy.bd) mc_X13_roamsTo ml_L_190 im_X13_roamsTo se_X13_roamsTo (by decide) hy.bd.kd rfl (rm_law hr (by decide) (show ce + 0 ≤ 601024 by omega) (show sl + 0 ≤ 7293034 by omega)) (Nat.le_of_ble_eq_true rfl) rfl dL_law_1665 (kmI rfl rfl (fun q10 hy => ?_))
  refine aw_ic_eq (pc := 1668) hX 1982 (by decide) dL_law_1668 (fun hc9 => ?_) (fun hc9 => ?_)
  · have hy := hy.t hc9
    exact AW.widen (by omega) (by omega) (hc q10.2 hy.s)
  · have hy := hy.f hc9
    exact hy.no.elim
def lc_41 (sc : Nat → Int32) (L : Nat) (h : Mem) (v4 : Int32) : Option Mem :=
  (scI sc L (v4 + 1)).bind fun x1 => (scI sc L (v4 + 2)).bind fun x2 => (f_X11_go h 1 x1 x2).bind fun q3 => (scI sc L (v4 + 1)).bind fun x4 => (scI sc L (v4 + 2)).bind fun x5 => (f_X13_go q3.2 55 x4 x5).bind fun q6 => (if q3.1 = q6.1 then some q6.2 else none)
set_option maxRecDepth 100000 in
set_option maxHeartbeats 4000000 in
theorem w_lc_41 {G : GE} {X : CX} {sc : Nat → Int32} {L : Nat} (hX : Ok G X cL_law RL) (hN : xn X = 7) (hr : xr X = room_1) (hsc : SC G X L sc) {P : Mem → Prop} (ce sl : Nat) (hce : ce + 20 ≤ 601024) (hsl : sl + 400 ≤ 7293034) (v4 : Int32) (hc : ∀ h', P h' → AW G X 1982 [(0, vX 20), (1, vR 1), (2, vR 55), (3, vR 68), (4, vI v4)] [] h' (ce + 20) (sl + 400)) (h : Mem) (hy : OK (lc_41 sc L h v4) P) : AW G X 1673 [(0, vX 20), (1, vR 1), (2, vR 55), (3, vR 68), (4, vI v4)] [] h ce sl := by
  unfold lc_41 at hy
  refine aw_aloadn (pc := 1673) hX 1 rfl dL_law_1673 ?_
  refine aw_xloadn (pc := 1674) hX 0 rfl dL_law_1674 ?_
  refine aw_iload (pc := 1675) hX 4 rfl dL_law_1675 ?_
  refine aw_iconst (pc := 1677) hX 1 (by decide) dL_law_1677 ?_
  refine aw_iadd (pc := 1678) hX dL_law_1678 ?_
  refine aw_scl (pc := 1679) hX hsc hy dL_law_1679 (fun x1 hy => ?_)
  refine aw_xloadn (pc := 1680) hX 0 rfl dL_law_1680 ?_
  refine aw_iload (pc := 1681) hX 4 rfl dL_law_1681 ?_
  refine aw_iconst (pc := 1683) hX 2 (by decide) dL_law_1683 ?_
  refine aw_iadd (pc := 1684) hX dL_law_1684 ?_
  refine aw_scl (pc := 1685) hX hsc hy dL_law_1685 (fun x2 hy => ?_)
  refine aw_callV (pc := 1686) (st := []) (a := 1) hX [vI x1, vI x2] (con_X11_go _ G _ 1 x1 x2 hy.bd) mc_X11_go ml_L_191 im_X11_go se_X11_go (by decide) hy.bd.kd rfl (rm_law hr (by decide) (show ce + 0 ≤ 601024 by omega) (show sl + 0 ≤ 7293034 by omega)) (Nat.le_of_ble_eq_true rfl) rfl dL_law_1686 (kmI rfl rfl (fun q3 hy => ?_))
  refine aw_aloadn (pc := 1689) hX 2 rfl dL_law_1689 ?_
  refine aw_xloadn (pc := 1690) hX 0 rfl dL_law_1690 ?_
  refine aw_iload (pc := 1691) hX 4 rfl dL_law_1691 ?_
  refine aw_iconst (pc := 1693) hX 1 (by decide) dL_law_1693 ?_
  refine aw_iadd (pc := 1694) hX dL_law_1694 ?_
  refine aw_scl (pc := 1695) hX hsc hy dL_law_1695 (fun x4 hy => ?_)
  refine aw_xloadn (pc := 1696) hX 0 rfl dL_law_1696 ?_
  refine aw_iload (pc := 1697) hX 4 rfl dL_law_1697 ?_
  refine aw_iconst (pc := 1699) hX 2 (by decide) dL_law_1699 ?_
  refine aw_iadd (pc := 1700) hX dL_law_1700 ?_
  refine aw_scl (pc := 1701) hX hsc hy dL_law_1701 (fun x5 hy => ?_)
  refine aw_callV (pc := 1702) (st := [vI q3.1]) (a := 55) hX [vI x4, vI x5] (con_X13_go _ G _ 55 x4 x5 hy.bd) mc_X13_go ml_L_194 im_X13_go se_X13_go (by decide) hy.bd.kd rfl (rm_law hr (by decide) (show ce + 0 ≤ 601024 by omega) (show sl + 0 ≤ 7293034 by omega)) (Nat.le_of_ble_eq_true rfl) rfl dL_law_1702 (kmI rfl rfl (fun q6 hy => ?_))
  refine aw_ic_eq (pc := 1705) hX 1982 (by decide) dL_law_1705 (fun hc9 => ?_) (fun hc9 => ?_)
  · have hy := hy.t hc9
    exact AW.widen (by omega) (by omega) (hc q6.2 hy.s)
  · have hy := hy.f hc9
    exact hy.no.elim
def lc_42 (sc : Nat → Int32) (L : Nat) (h : Mem) (v4 : Int32) : Option Mem :=
  (scI sc L (v4 + 1)).bind fun x1 => (scI sc L (v4 + 2)).bind fun x2 => (f_X11_buy h 1 x1 x2).bind fun q3 => (scI sc L (v4 + 1)).bind fun x4 => (scI sc L (v4 + 2)).bind fun x5 => (f_X13_buy q3.2 55 x4 x5).bind fun q6 => (if q3.1 = q6.1 then some q6.2 else none)
set_option maxRecDepth 100000 in
set_option maxHeartbeats 4000000 in
theorem w_lc_42 {G : GE} {X : CX} {sc : Nat → Int32} {L : Nat} (hX : Ok G X cL_law RL) (hN : xn X = 7) (hr : xr X = room_1) (hsc : SC G X L sc) {P : Mem → Prop} (ce sl : Nat) (hce : ce + 20 ≤ 601024) (hsl : sl + 400 ≤ 7293034) (v4 : Int32) (hc : ∀ h', P h' → AW G X 1982 [(0, vX 20), (1, vR 1), (2, vR 55), (3, vR 68), (4, vI v4)] [] h' (ce + 20) (sl + 400)) (h : Mem) (hy : OK (lc_42 sc L h v4) P) : AW G X 1710 [(0, vX 20), (1, vR 1), (2, vR 55), (3, vR 68), (4, vI v4)] [] h ce sl := by
  unfold lc_42 at hy
  refine aw_aloadn (pc := 1710) hX 1 rfl dL_law_1710 ?_
  refine aw_xloadn (pc := 1711) hX 0 rfl dL_law_1711 ?_
  refine aw_iload (pc := 1712) hX 4 rfl dL_law_1712 ?_
  refine aw_iconst (pc := 1714) hX 1 (by decide) dL_law_1714 ?_
  refine aw_iadd (pc := 1715) hX dL_law_1715 ?_
  refine aw_scl (pc := 1716) hX hsc hy dL_law_1716 (fun x1 hy => ?_)
  refine aw_xloadn (pc := 1717) hX 0 rfl dL_law_1717 ?_
  refine aw_iload (pc := 1718) hX 4 rfl dL_law_1718 ?_
  refine aw_iconst (pc := 1720) hX 2 (by decide) dL_law_1720 ?_
  refine aw_iadd (pc := 1721) hX dL_law_1721 ?_
  refine aw_scl (pc := 1722) hX hsc hy dL_law_1722 (fun x2 hy => ?_)
  refine aw_callV (pc := 1723) (st := []) (a := 1) hX [vI x1, vI x2] (con_X11_buy _ G _ 1 x1 x2 hy.bd) mc_X11_buy ml_L_195 im_X11_buy se_X11_buy (by decide) hy.bd.kd rfl (rm_law hr (by decide) (show ce + 0 ≤ 601024 by omega) (show sl + 0 ≤ 7293034 by omega)) (Nat.le_of_ble_eq_true rfl) rfl dL_law_1723 (kmI rfl rfl (fun q3 hy => ?_))
  refine aw_aloadn (pc := 1726) hX 2 rfl dL_law_1726 ?_
  refine aw_xloadn (pc := 1727) hX 0 rfl dL_law_1727 ?_
  refine aw_iload (pc := 1728) hX 4 rfl dL_law_1728 ?_
  refine aw_iconst (pc := 1730) hX 1 (by decide) dL_law_1730 ?_
  refine aw_iadd (pc := 1731) hX dL_law_1731 ?_
  refine aw_scl (pc := 1732) hX hsc hy dL_law_1732 (fun x4 hy => ?_)
  refine aw_xloadn (pc := 1733) hX 0 rfl dL_law_1733 ?_
  refine aw_iload (pc := 1734) hX 4 rfl dL_law_1734 ?_
  refine aw_iconst (pc := 1736) hX 2 (by decide) dL_law_1736 ?_
  refine aw_iadd (pc := 1737) hX dL_law_1737 ?_
  refine aw_scl (pc := 1738) hX hsc hy dL_law_1738 (fun x5 hy => ?_)
  refine aw_callV (pc := 1739) (st := [vI q3.1]) (a := 55) hX [vI x4, vI x5] (con_X13_buy _ G _ 55 x4 x5 hy.bd) mc_X13_buy ml_L_198 im_X13_buy se_X13_buy (by decide) hy.bd.kd rfl (rm_law hr (by decide) (show ce + 0 ≤ 601024 by omega) (show sl + 0 ≤ 7293034 by omega)) (Nat.le_of_ble_eq_true rfl) rfl dL_law_1739 (kmI rfl rfl (fun q6 hy => ?_))
  refine aw_ic_eq (pc := 1742) hX 1982 (by decide) dL_law_1742 (fun hc9 => ?_) (fun hc9 => ?_)
  · have hy := hy.t hc9
    exact AW.widen (by omega) (by omega) (hc q6.2 hy.s)
  · have hy := hy.f hc9
    exact hy.no.elim
def lc_43 (sc : Nat → Int32) (L : Nat) (h : Mem) (v4 : Int32) : Option Mem :=
  (scI sc L (v4 + 1)).bind fun x1 => (scI sc L (v4 + 2)).bind fun x2 => (scI sc L (v4 + 3)).bind fun x3 => (f_X11_teach h 1 x1 x2 x3).bind fun q4 => (scI sc L (v4 + 1)).bind fun x5 => (scI sc L (v4 + 2)).bind fun x6 => (scI sc L (v4 + 3)).bind fun x7 => (f_X13_teach q4.2 55 x5 x6 x7).bind fun q8 => (if q4.1 = q8.1 then some q8.2 else none)
set_option maxRecDepth 100000 in
set_option maxHeartbeats 4000000 in
theorem w_lc_43 {G : GE} {X : CX} {sc : Nat → Int32} {L : Nat} (hX : Ok G X cL_law RL) (hN : xn X = 7) (hr : xr X = room_1) (hsc : SC G X L sc) {P : Mem → Prop} (ce sl : Nat) (hce : ce + 20 ≤ 601024) (hsl : sl + 400 ≤ 7293034) (v4 : Int32) (hc : ∀ h', P h' → AW G X 1982 [(0, vX 20), (1, vR 1), (2, vR 55), (3, vR 68), (4, vI v4)] [] h' (ce + 20) (sl + 400)) (h : Mem) (hy : OK (lc_43 sc L h v4) P) : AW G X 1747 [(0, vX 20), (1, vR 1), (2, vR 55), (3, vR 68), (4, vI v4)] [] h ce sl := by
  unfold lc_43 at hy
  refine aw_aloadn (pc := 1747) hX 1 rfl dL_law_1747 ?_
  refine aw_xloadn (pc := 1748) hX 0 rfl dL_law_1748 ?_
  refine aw_iload (pc := 1749) hX 4 rfl dL_law_1749 ?_
  refine aw_iconst (pc := 1751) hX 1 (by decide) dL_law_1751 ?_
  refine aw_iadd (pc := 1752) hX dL_law_1752 ?_
  refine aw_scl (pc := 1753) hX hsc hy dL_law_1753 (fun x1 hy => ?_)
  refine aw_xloadn (pc := 1754) hX 0 rfl dL_law_1754 ?_
  refine aw_iload (pc := 1755) hX 4 rfl dL_law_1755 ?_
  refine aw_iconst (pc := 1757) hX 2 (by decide) dL_law_1757 ?_
  refine aw_iadd (pc := 1758) hX dL_law_1758 ?_
  refine aw_scl (pc := 1759) hX hsc hy dL_law_1759 (fun x2 hy => ?_)
  refine aw_xloadn (pc := 1760) hX 0 rfl dL_law_1760 ?_
  refine aw_iload (pc := 1761) hX 4 rfl dL_law_1761 ?_
  refine aw_iconst (pc := 1763) hX 3 (by decide) dL_law_1763 ?_
  refine aw_iadd (pc := 1764) hX dL_law_1764 ?_
  refine aw_scl (pc := 1765) hX hsc hy dL_law_1765 (fun x3 hy => ?_)
  refine aw_callV (pc := 1766) (st := []) (a := 1) hX [vI x1, vI x2, vI x3] (con_X11_teach _ G _ 1 x1 x2 x3 hy.bd) mc_X11_teach ml_L_199 im_X11_teach se_X11_teach (by decide) hy.bd.kd rfl (rm_law hr (by decide) (show ce + 0 ≤ 601024 by omega) (show sl + 0 ≤ 7293034 by omega)) (Nat.le_of_ble_eq_true rfl) rfl dL_law_1766 (kmI rfl rfl (fun q4 hy => ?_))
  refine aw_aloadn (pc := 1769) hX 2 rfl dL_law_1769 ?_
  refine aw_xloadn (pc := 1770) hX 0 rfl dL_law_1770 ?_
  refine aw_iload (pc := 1771) hX 4 rfl dL_law_1771 ?_
  refine aw_iconst (pc := 1773) hX 1 (by decide) dL_law_1773 ?_
  refine aw_iadd (pc := 1774) hX dL_law_1774 ?_
  refine aw_scl (pc := 1775) hX hsc hy dL_law_1775 (fun x5 hy => ?_)
  refine aw_xloadn (pc := 1776) hX 0 rfl dL_law_1776 ?_
  refine aw_iload (pc := 1777) hX 4 rfl dL_law_1777 ?_
  refine aw_iconst (pc := 1779) hX 2 (by decide) dL_law_1779 ?_
  refine aw_iadd (pc := 1780) hX dL_law_1780 ?_
  refine aw_scl (pc := 1781) hX hsc hy dL_law_1781 (fun x6 hy => ?_)
  refine aw_xloadn (pc := 1782) hX 0 rfl dL_law_1782 ?_
  refine aw_iload (pc := 1783) hX 4 rfl dL_law_1783 ?_
  refine aw_iconst (pc := 1785) hX 3 (by decide) dL_law_1785 ?_
  refine aw_iadd (pc := 1786) hX dL_law_1786 ?_
  refine aw_scl (pc := 1787) hX hsc hy dL_law_1787 (fun x7 hy => ?_)
  refine aw_callV (pc := 1788) (st := [vI q4.1]) (a := 55) hX [vI x5, vI x6, vI x7] (con_X13_teach _ G _ 55 x5 x6 x7 hy.bd) mc_X13_teach ml_L_203 im_X13_teach se_X13_teach (by decide) hy.bd.kd rfl (rm_law hr (by decide) (show ce + 0 ≤ 601024 by omega) (show sl + 0 ≤ 7293034 by omega)) (Nat.le_of_ble_eq_true rfl) rfl dL_law_1788 (kmI rfl rfl (fun q8 hy => ?_))
  refine aw_ic_eq (pc := 1791) hX 1982 (by decide) dL_law_1791 (fun hc9 => ?_) (fun hc9 => ?_)
  · have hy := hy.t hc9
    exact AW.widen (by omega) (by omega) (hc q8.2 hy.s)
  · have hy := hy.f hc9
    exact hy.no.elim
def lc_44 (sc : Nat → Int32) (L : Nat) (h : Mem) (v4 : Int32) : Option Mem :=
  (scI sc L (v4 + 1)).bind fun x1 => (if x1 = 0 then (f_X11_rain h 1 0).bind fun q2 => (scI sc L (v4 + 1)).bind fun x3 => (if x3 = 0 then (f_X13_rain q2.2 55 0).bind fun q4 => (if q2.1 = q4.1 then some q4.2 else none) else (f_X13_rain q2.2 55 1).bind fun q5 => (if q2.1 = q5.1 then some q5.2 else none)) else (f_X11_rain h 1 1).bind fun q6 => (scI sc L (v4 + 1)).bind fun x7 => (if x7 = 0 then (f_X13_rain q6.2 55 0).bind fun q8 => (if q6.1 = q8.1 then some q8.2 else none) else (f_X13_rain q6.2 55 1).bind fun q9 => (if q6.1 = q9.1 then some q9.2 else none)))
set_option maxRecDepth 100000 in
set_option maxHeartbeats 4000000 in
theorem w_lc_44 {G : GE} {X : CX} {sc : Nat → Int32} {L : Nat} (hX : Ok G X cL_law RL) (hN : xn X = 7) (hr : xr X = room_1) (hsc : SC G X L sc) {P : Mem → Prop} (ce sl : Nat) (hce : ce + 20 ≤ 601024) (hsl : sl + 400 ≤ 7293034) (v4 : Int32) (hc : ∀ h', P h' → AW G X 1982 [(0, vX 20), (1, vR 1), (2, vR 55), (3, vR 68), (4, vI v4)] [] h' (ce + 20) (sl + 400)) (h : Mem) (hy : OK (lc_44 sc L h v4) P) : AW G X 1796 [(0, vX 20), (1, vR 1), (2, vR 55), (3, vR 68), (4, vI v4)] [] h ce sl := by
  unfold lc_44 at hy
  refine aw_aloadn (pc := 1796) hX 1 rfl dL_law_1796 ?_
  refine aw_xloadn (pc := 1797) hX 0 rfl dL_law_1797 ?_
  refine aw_iload (pc := 1798) hX 4 rfl dL_law_1798 ?_
  refine aw_iconst (pc := 1800) hX 1 (by decide) dL_law_1800 ?_
  refine aw_iadd (pc := 1801) hX dL_law_1801 ?_
  refine aw_scl (pc := 1802) hX hsc hy dL_law_1802 (fun x1 hy => ?_)
  refine aw_if_eq (pc := 1803) hX 1810 (by decide) dL_law_1803 (fun hc9 => ?_) (fun hc9 => ?_)
  · have hy := hy.t hc9
    refine aw_iconst (pc := 1810) hX 0 (by decide) dL_law_1810 ?_
    refine aw_callV (pc := 1811) (st := []) (a := 1) hX [vI 0] (con_X11_rain _ G _ 1 0 hy.bd) mc_X11_rain ml_L_204 im_X11_rain se_X11_rain (by decide) hy.bd.kd rfl (rm_law hr (by decide) (show ce + 0 ≤ 601024 by omega) (show sl + 0 ≤ 7293034 by omega)) (Nat.le_of_ble_eq_true rfl) rfl dL_law_1811 (kmI rfl rfl (fun q2 hy => ?_))
    refine aw_aloadn (pc := 1814) hX 2 rfl dL_law_1814 ?_
    refine aw_xloadn (pc := 1815) hX 0 rfl dL_law_1815 ?_
    refine aw_iload (pc := 1816) hX 4 rfl dL_law_1816 ?_
    refine aw_iconst (pc := 1818) hX 1 (by decide) dL_law_1818 ?_
    refine aw_iadd (pc := 1819) hX dL_law_1819 ?_
    refine aw_scl (pc := 1820) hX hsc hy dL_law_1820 (fun x3 hy => ?_)
    refine aw_if_eq (pc := 1821) hX 1828 (by decide) dL_law_1821 (fun hc9 => ?_) (fun hc9 => ?_)
    · have hy := hy.t hc9
      refine aw_iconst (pc := 1828) hX 0 (by decide) dL_law_1828 ?_
      refine aw_callV (pc := 1829) (st := [vI q2.1]) (a := 55) hX [vI 0] (con_X13_rain _ G _ 55 0 hy.bd) mc_X13_rain ml_L_208 im_X13_rain se_X13_rain (by decide) hy.bd.kd rfl (rm_law hr (by decide) (show ce + 0 ≤ 601024 by omega) (show sl + 0 ≤ 7293034 by omega)) (Nat.le_of_ble_eq_true rfl) rfl dL_law_1829 (kmI rfl rfl (fun q4 hy => ?_))
      refine aw_ic_eq (pc := 1832) hX 1982 (by decide) dL_law_1832 (fun hc9 => ?_) (fun hc9 => ?_)
      · have hy := hy.t hc9
        exact AW.widen (by omega) (by omega) (hc q4.2 hy.s)
      · have hy := hy.f hc9
        exact hy.no.elim
    · have hy := hy.f hc9
      refine aw_iconst (pc := 1824) hX 1 (by decide) dL_law_1824 ?_
      refine aw_goto (pc := 1825) hX 1829 (by decide) dL_law_1825 ?_
      refine aw_callV (pc := 1829) (st := [vI q2.1]) (a := 55) hX [vI 1] (con_X13_rain _ G _ 55 1 hy.bd) mc_X13_rain ml_L_208 im_X13_rain se_X13_rain (by decide) hy.bd.kd rfl (rm_law hr (by decide) (show ce + 0 ≤ 601024 by omega) (show sl + 0 ≤ 7293034 by omega)) (Nat.le_of_ble_eq_true rfl) rfl dL_law_1829 (kmI rfl rfl (fun q5 hy => ?_))
      refine aw_ic_eq (pc := 1832) hX 1982 (by decide) dL_law_1832 (fun hc9 => ?_) (fun hc9 => ?_)
      · have hy := hy.t hc9
        exact AW.widen (by omega) (by omega) (hc q5.2 hy.s)
      · have hy := hy.f hc9
        exact hy.no.elim
  · have hy := hy.f hc9
    refine aw_iconst (pc := 1806) hX 1 (by decide) dL_law_1806 ?_
    refine aw_goto (pc := 1807) hX 1811 (by decide) dL_law_1807 ?_
    refine aw_callV (pc := 1811) (st := []) (a := 1) hX [vI 1] (con_X11_rain _ G _ 1 1 hy.bd) mc_X11_rain ml_L_204 im_X11_rain se_X11_rain (by decide) hy.bd.kd rfl (rm_law hr (by decide) (show ce + 0 ≤ 601024 by omega) (show sl + 0 ≤ 7293034 by omega)) (Nat.le_of_ble_eq_true rfl) rfl dL_law_1811 (kmI rfl rfl (fun q6 hy => ?_))
    refine aw_aloadn (pc := 1814) hX 2 rfl dL_law_1814 ?_
    refine aw_xloadn (pc := 1815) hX 0 rfl dL_law_1815 ?_
    refine aw_iload (pc := 1816) hX 4 rfl dL_law_1816 ?_
    refine aw_iconst (pc := 1818) hX 1 (by decide) dL_law_1818 ?_
    refine aw_iadd (pc := 1819) hX dL_law_1819 ?_
    refine aw_scl (pc := 1820) hX hsc hy dL_law_1820 (fun x7 hy => ?_)
    refine aw_if_eq (pc := 1821) hX 1828 (by decide) dL_law_1821 (fun hc9 => ?_) (fun hc9 => ?_)
    · have hy := hy.t hc9
      refine aw_iconst (pc := 1828) hX 0 (by decide) dL_law_1828 ?_
      refine aw_callV (pc := 1829) (st := [vI q6.1]) (a := 55) hX [vI 0] (con_X13_rain _ G _ 55 0 hy.bd) mc_X13_rain ml_L_208 im_X13_rain se_X13_rain (by decide) hy.bd.kd rfl (rm_law hr (by decide) (show ce + 0 ≤ 601024 by omega) (show sl + 0 ≤ 7293034 by omega)) (Nat.le_of_ble_eq_true rfl) rfl dL_law_1829 (kmI rfl rfl (fun q8 hy => ?_))
      refine aw_ic_eq (pc := 1832) hX 1982 (by decide) dL_law_1832 (fun hc9 => ?_) (fun hc9 => ?_)
      · have hy := hy.t hc9
        exact AW.widen (by omega) (by omega) (hc q8.2 hy.s)
      · have hy := hy.f hc9
        exact hy.no.elim
    · have hy := hy.f hc9
      refine aw_iconst (pc := 1824) hX 1 (by decide) dL_law_1824 ?_
      refine aw_goto (pc := 1825) hX 1829 (by decide) dL_law_1825 ?_
      refine aw_callV (pc := 1829) (st := [vI q6.1]) (a := 55) hX [vI 1] (con_X13_rain _ G _ 55 1 hy.bd) mc_X13_rain ml_L_208 im_X13_rain se_X13_rain (by decide) hy.bd.kd rfl (rm_law hr (by decide) (show ce + 0 ≤ 601024 by omega) (show sl + 0 ≤ 7293034 by omega)) (Nat.le_of_ble_eq_true rfl) rfl dL_law_1829 (kmI rfl rfl (fun q9 hy => ?_))
      refine aw_ic_eq (pc := 1832) hX 1982 (by decide) dL_law_1832 (fun hc9 => ?_) (fun hc9 => ?_)
      · have hy := hy.t hc9
        exact AW.widen (by omega) (by omega) (hc q9.2 hy.s)
      · have hy := hy.f hc9
        exact hy.no.elim
def lc_45 (sc : Nat → Int32) (L : Nat) (h : Mem) (v4 : Int32) : Option Mem :=
  (f_X11_undo h 1).bind fun q1 => (f_X13_undo q1.2 55).bind fun q2 => (if q1.1 = q2.1 then some q2.2 else none)
set_option maxRecDepth 100000 in
set_option maxHeartbeats 4000000 in
theorem w_lc_45 {G : GE} {X : CX} {sc : Nat → Int32} {L : Nat} (hX : Ok G X cL_law RL) (hN : xn X = 7) (hr : xr X = room_1) (hsc : SC G X L sc) {P : Mem → Prop} (ce sl : Nat) (hce : ce + 20 ≤ 601024) (hsl : sl + 400 ≤ 7293034) (v4 : Int32) (hc : ∀ h', P h' → AW G X 1982 [(0, vX 20), (1, vR 1), (2, vR 55), (3, vR 68), (4, vI v4)] [] h' (ce + 20) (sl + 400)) (h : Mem) (hy : OK (lc_45 sc L h v4) P) : AW G X 1837 [(0, vX 20), (1, vR 1), (2, vR 55), (3, vR 68), (4, vI v4)] [] h ce sl := by
  unfold lc_45 at hy
  refine aw_aloadn (pc := 1837) hX 1 rfl dL_law_1837 ?_
  refine aw_callV (pc := 1838) (st := []) (a := 1) hX [] (con_X11_undo _ G _ 1 hy.bd) mc_X11_undo ml_L_209 im_X11_undo se_X11_undo (by decide) hy.bd.kd rfl (rm_law hr (by decide) (show ce + 0 ≤ 601024 by omega) (show sl + 0 ≤ 7293034 by omega)) (Nat.le_of_ble_eq_true rfl) rfl dL_law_1838 (kmI rfl rfl (fun q1 hy => ?_))
  refine aw_aloadn (pc := 1841) hX 2 rfl dL_law_1841 ?_
  refine aw_callV (pc := 1842) (st := [vI q1.1]) (a := 55) hX [] (con_X13_undo _ G _ 55 hy.bd) mc_X13_undo ml_L_213 im_X13_undo se_X13_undo (by decide) hy.bd.kd rfl (rm_law hr (by decide) (show ce + 0 ≤ 601024 by omega) (show sl + 0 ≤ 7293034 by omega)) (Nat.le_of_ble_eq_true rfl) rfl dL_law_1842 (kmI rfl rfl (fun q2 hy => ?_))
  refine aw_ic_eq (pc := 1845) hX 1982 (by decide) dL_law_1845 (fun hc9 => ?_) (fun hc9 => ?_)
  · have hy := hy.t hc9
    exact AW.widen (by omega) (by omega) (hc q2.2 hy.s)
  · have hy := hy.f hc9
    exact hy.no.elim
def lc_46 (sc : Nat → Int32) (L : Nat) (h : Mem) (v4 : Int32) : Option Mem :=
  (f_X11_mark h 1).bind fun q1 => (f_X13_mark q1.2 55).bind fun q2 => (if q1.1 = q2.1 then some q2.2 else none)
set_option maxRecDepth 100000 in
set_option maxHeartbeats 4000000 in
theorem w_lc_46 {G : GE} {X : CX} {sc : Nat → Int32} {L : Nat} (hX : Ok G X cL_law RL) (hN : xn X = 7) (hr : xr X = room_1) (hsc : SC G X L sc) {P : Mem → Prop} (ce sl : Nat) (hce : ce + 20 ≤ 601024) (hsl : sl + 400 ≤ 7293034) (v4 : Int32) (hc : ∀ h', P h' → AW G X 1982 [(0, vX 20), (1, vR 1), (2, vR 55), (3, vR 68), (4, vI v4)] [] h' (ce + 20) (sl + 400)) (h : Mem) (hy : OK (lc_46 sc L h v4) P) : AW G X 1850 [(0, vX 20), (1, vR 1), (2, vR 55), (3, vR 68), (4, vI v4)] [] h ce sl := by
  unfold lc_46 at hy
  refine aw_aloadn (pc := 1850) hX 1 rfl dL_law_1850 ?_
  refine aw_callV (pc := 1851) (st := []) (a := 1) hX [] (con_X11_mark _ G _ 1 hy.bd) mc_X11_mark ml_L_214 im_X11_mark se_X11_mark (by decide) hy.bd.kd rfl (rm_law hr (by decide) (show ce + 0 ≤ 601024 by omega) (show sl + 0 ≤ 7293034 by omega)) (Nat.le_of_ble_eq_true rfl) rfl dL_law_1851 (kmI rfl rfl (fun q1 hy => ?_))
  refine aw_aloadn (pc := 1854) hX 2 rfl dL_law_1854 ?_
  refine aw_callV (pc := 1855) (st := [vI q1.1]) (a := 55) hX [] (con_X13_mark _ G _ 55 hy.bd) mc_X13_mark ml_L_217 im_X13_mark se_X13_mark (by decide) hy.bd.kd rfl (rm_law hr (by decide) (show ce + 0 ≤ 601024 by omega) (show sl + 0 ≤ 7293034 by omega)) (Nat.le_of_ble_eq_true rfl) rfl dL_law_1855 (kmI rfl rfl (fun q2 hy => ?_))
  refine aw_ic_eq (pc := 1858) hX 1982 (by decide) dL_law_1858 (fun hc9 => ?_) (fun hc9 => ?_)
  · have hy := hy.t hc9
    exact AW.widen (by omega) (by omega) (hc q2.2 hy.s)
  · have hy := hy.f hc9
    exact hy.no.elim
def lc_47 (sc : Nat → Int32) (L : Nat) (h : Mem) (v4 : Int32) : Option Mem :=
  (scI sc L (v4 + 1)).bind fun x1 => (f_X11_back h 1 x1).bind fun q2 => (scI sc L (v4 + 1)).bind fun x3 => (f_X13_back q2.2 55 x3).bind fun q4 => (if q2.1 = q4.1 then some q4.2 else none)
set_option maxRecDepth 100000 in
set_option maxHeartbeats 4000000 in
theorem w_lc_47 {G : GE} {X : CX} {sc : Nat → Int32} {L : Nat} (hX : Ok G X cL_law RL) (hN : xn X = 7) (hr : xr X = room_1) (hsc : SC G X L sc) {P : Mem → Prop} (ce sl : Nat) (hce : ce + 20 ≤ 601024) (hsl : sl + 400 ≤ 7293034) (v4 : Int32) (hc : ∀ h', P h' → AW G X 1982 [(0, vX 20), (1, vR 1), (2, vR 55), (3, vR 68), (4, vI v4)] [] h' (ce + 20) (sl + 400)) (h : Mem) (hy : OK (lc_47 sc L h v4) P) : AW G X 1863 [(0, vX 20), (1, vR 1), (2, vR 55), (3, vR 68), (4, vI v4)] [] h ce sl := by
  unfold lc_47 at hy
  refine aw_aloadn (pc := 1863) hX 1 rfl dL_law_1863 ?_
  refine aw_xloadn (pc := 1864) hX 0 rfl dL_law_1864 ?_
  refine aw_iload (pc := 1865) hX 4 rfl dL_law_1865 ?_
  refine aw_iconst (pc := 1867) hX 1 (by decide) dL_law_1867 ?_
  refine aw_iadd (pc := 1868) hX dL_law_1868 ?_
  refine aw_scl (pc := 1869) hX hsc hy dL_law_1869 (fun x1 hy => ?_)
  refine aw_callV (pc := 1870) (st := []) (a := 1) hX [vI x1] (con_X11_back _ G _ 1 x1 hy.bd) mc_X11_back ml_L_218 im_X11_back se_X11_back (by decide) hy.bd.kd rfl (rm_law hr (by decide) (show ce + 0 ≤ 601024 by omega) (show sl + 0 ≤ 7293034 by omega)) (Nat.le_of_ble_eq_true rfl) rfl dL_law_1870 (kmI rfl rfl (fun q2 hy => ?_))
  refine aw_aloadn (pc := 1873) hX 2 rfl dL_law_1873 ?_
  refine aw_xloadn (pc := 1874) hX 0 rfl dL_law_1874 ?_
  refine aw_iload (pc := 1875) hX 4 rfl dL_law_1875 ?_
  refine aw_iconst (pc := 1877) hX 1 (by decide) dL_law_1877 ?_
  refine aw_iadd (pc := 1878) hX dL_law_1878 ?_
  refine aw_scl (pc := 1879) hX hsc hy dL_law_1879 (fun x3 hy => ?_)
  refine aw_callV (pc := 1880) (st := [vI q2.1]) (a := 55) hX [vI x3] (con_X13_back _ G _ 55 x3 hy.bd) mc_X13_back ml_L_222 im_X13_back se_X13_back (by decide) hy.bd.kd rfl (rm_law hr (by decide) (show ce + 0 ≤ 601024 by omega) (show sl + 0 ≤ 7293034 by omega)) (Nat.le_of_ble_eq_true rfl) rfl dL_law_1880 (kmI rfl rfl (fun q4 hy => ?_))
  refine aw_ic_eq (pc := 1883) hX 1982 (by decide) dL_law_1883 (fun hc9 => ?_) (fun hc9 => ?_)
  · have hy := hy.t hc9
    exact AW.widen (by omega) (by omega) (hc q4.2 hy.s)
  · have hy := hy.f hc9
    exact hy.no.elim
def lc_49 (sc : Nat → Int32) (L : Nat) (h : Mem) (v4 : Int32) : Option Mem :=
  (scI sc L (v4 + 1)).bind fun x1 => (f_X11_size h 1 x1).bind fun x2 => (scI sc L (v4 + 1)).bind fun x3 => (f_X13_size h 55 x3).bind fun q4 => (if x2 = q4.1 then some q4.2 else none)
set_option maxRecDepth 100000 in
set_option maxHeartbeats 4000000 in
theorem w_lc_49 {G : GE} {X : CX} {sc : Nat → Int32} {L : Nat} (hX : Ok G X cL_law RL) (hN : xn X = 7) (hr : xr X = room_1) (hsc : SC G X L sc) {P : Mem → Prop} (ce sl : Nat) (hce : ce + 20 ≤ 601024) (hsl : sl + 400 ≤ 7293034) (v4 : Int32) (hc : ∀ h', P h' → AW G X 1982 [(0, vX 20), (1, vR 1), (2, vR 55), (3, vR 68), (4, vI v4)] [] h' (ce + 20) (sl + 400)) (h : Mem) (hy : OK (lc_49 sc L h v4) P) : AW G X 1944 [(0, vX 20), (1, vR 1), (2, vR 55), (3, vR 68), (4, vI v4)] [] h ce sl := by
  unfold lc_49 at hy
  refine aw_aloadn (pc := 1944) hX 1 rfl dL_law_1944 ?_
  refine aw_xloadn (pc := 1945) hX 0 rfl dL_law_1945 ?_
  refine aw_iload (pc := 1946) hX 4 rfl dL_law_1946 ?_
  refine aw_iconst (pc := 1948) hX 1 (by decide) dL_law_1948 ?_
  refine aw_iadd (pc := 1949) hX dL_law_1949 ?_
  refine aw_scl (pc := 1950) hX hsc hy dL_law_1950 (fun x1 hy => ?_)
  refine aw_callV (pc := 1951) (st := []) (a := 1) hX [vI x1] (con_X11_size _ G _ 1 x1 hy.bd) mc_X11_size ml_L_232 im_X11_size se_X11_size (by decide) hy.bd.kd rfl (rm_law hr (by decide) (show ce + 0 ≤ 601024 by omega) (show sl + 0 ≤ 7293034 by omega)) (Nat.le_of_ble_eq_true rfl) rfl dL_law_1951 (kpI rfl rfl (fun x2 hy => ?_))
  refine aw_aloadn (pc := 1954) hX 2 rfl dL_law_1954 ?_
  refine aw_xloadn (pc := 1955) hX 0 rfl dL_law_1955 ?_
  refine aw_iload (pc := 1956) hX 4 rfl dL_law_1956 ?_
  refine aw_iconst (pc := 1958) hX 1 (by decide) dL_law_1958 ?_
  refine aw_iadd (pc := 1959) hX dL_law_1959 ?_
  refine aw_scl (pc := 1960) hX hsc hy dL_law_1960 (fun x3 hy => ?_)
  refine aw_callV (pc := 1961) (st := [vI x2]) (a := 55) hX [vI x3] (con_X13_size _ G _ 55 x3 hy.bd) mc_X13_size ml_L_235 im_X13_size se_X13_size (by decide) hy.bd.kd rfl (rm_law hr (by decide) (show ce + 0 ≤ 601024 by omega) (show sl + 0 ≤ 7293034 by omega)) (Nat.le_of_ble_eq_true rfl) rfl dL_law_1961 (kmI rfl rfl (fun q4 hy => ?_))
  refine aw_ic_eq (pc := 1964) hX 1982 (by decide) dL_law_1964 (fun hc9 => ?_) (fun hc9 => ?_)
  · have hy := hy.t hc9
    exact AW.widen (by omega) (by omega) (hc q4.2 hy.s)
  · have hy := hy.f hc9
    exact hy.no.elim
def lc_50 (sc : Nat → Int32) (L : Nat) (h : Mem) (v4 : Int32) : Option Mem :=
  (f_X11_trouble h 1).bind fun x1 => (f_X13_trouble h 55).bind fun q2 => (if x1 = q2.1 then some q2.2 else none)
set_option maxRecDepth 100000 in
set_option maxHeartbeats 4000000 in
theorem w_lc_50 {G : GE} {X : CX} {sc : Nat → Int32} {L : Nat} (hX : Ok G X cL_law RL) (hN : xn X = 7) (hr : xr X = room_1) (hsc : SC G X L sc) {P : Mem → Prop} (ce sl : Nat) (hce : ce + 20 ≤ 601024) (hsl : sl + 400 ≤ 7293034) (v4 : Int32) (hc : ∀ h', P h' → AW G X 1982 [(0, vX 20), (1, vR 1), (2, vR 55), (3, vR 68), (4, vI v4)] [] h' (ce + 20) (sl + 400)) (h : Mem) (hy : OK (lc_50 sc L h v4) P) : AW G X 1969 [(0, vX 20), (1, vR 1), (2, vR 55), (3, vR 68), (4, vI v4)] [] h ce sl := by
  unfold lc_50 at hy
  refine aw_aloadn (pc := 1969) hX 1 rfl dL_law_1969 ?_
  refine aw_callV (pc := 1970) (st := []) (a := 1) hX [] (con_X11_trouble _ G _ 1 hy.bd) mc_X11_trouble ml_L_236 im_X11_trouble se_X11_trouble (by decide) hy.bd.kd rfl (rm_law hr (by decide) (show ce + 0 ≤ 601024 by omega) (show sl + 0 ≤ 7293034 by omega)) (Nat.le_of_ble_eq_true rfl) rfl dL_law_1970 (kpI rfl rfl (fun x1 hy => ?_))
  refine aw_aloadn (pc := 1973) hX 2 rfl dL_law_1973 ?_
  refine aw_callV (pc := 1974) (st := [vI x1]) (a := 55) hX [] (con_X13_trouble _ G _ 55 hy.bd) mc_X13_trouble ml_L_239 im_X13_trouble se_X13_trouble (by decide) hy.bd.kd rfl (rm_law hr (by decide) (show ce + 0 ≤ 601024 by omega) (show sl + 0 ≤ 7293034 by omega)) (Nat.le_of_ble_eq_true rfl) rfl dL_law_1974 (kmI rfl rfl (fun q2 hy => ?_))
  refine aw_ic_eq (pc := 1977) hX 1982 (by decide) dL_law_1977 (fun hc9 => ?_) (fun hc9 => ?_)
  · have hy := hy.t hc9
    exact AW.widen (by omega) (by omega) (hc q2.2 hy.s)
  · have hy := hy.f hc9
    exact hy.no.elim
def lc_48b (sc : Nat → Int32) (L : Nat) (h : Mem) (v4 : Int32) (kk : Int32) : Option Mem :=
  (scI sc L (v4 + 1)).bind fun x1 => (f_X13_led h 55 x1).bind fun q2 => (f_X13_thrown q2.2 55).bind fun x3 => (if x3 = kk then (if kk = 0 then (aL q2.2 68 0).bind fun x4 => (if (lg_cmp x4 ((q2.1 : Int32).toInt64)) = 0 then some q2.2 else none) else some q2.2) else none)
set_option maxRecDepth 100000 in
set_option maxHeartbeats 4000000 in
theorem w_lc_48b {G : GE} {X : CX} {sc : Nat → Int32} {L : Nat} (hX : Ok G X cL_law RL) (hN : xn X = 7) (hr : xr X = room_1) (hsc : SC G X L sc) {P : Mem → Prop} (ce sl : Nat) (hce : ce + 20 ≤ 601024) (hsl : sl + 400 ≤ 7293034) (v4 : Int32) (hc : ∀ h', P h' → AW G X 1982 [(0, vX 20), (1, vR 1), (2, vR 55), (3, vR 68), (4, vI v4)] [] h' (ce + 20) (sl + 400)) (h : Mem) (kk : Int32) (ce9 sl9 : Nat) (he9 : ce9 ≤ ce + 1) (hs9 : sl9 ≤ sl + 6) (hy : OK (lc_48b sc L h v4 kk) P) : AW G X 1899 [(0, vX 20), (1, vR 1), (2, vR 55), (3, vR 68), (4, vI v4)] [vI kk] h ce9 sl9 := by
  unfold lc_48b at hy
  refine aw_istore (pc := 1899) hX [(5, vI kk), (0, vX 20), (1, vR 1), (2, vR 55), (3, vR 68), (4, vI v4)] rfl (lt_n hN (by decide)) dL_law_1899 ?_
  refine aw_aloadn (pc := 1901) hX 3 rfl dL_law_1901 ?_
  refine aw_xloadn (pc := 1902) hX 1 rfl dL_law_1902 ?_
  refine aw_iload (pc := 1903) hX 5 rfl dL_law_1903 ?_
  refine aw_iconst (pc := 1905) hX 1 (by decide) dL_law_1905 ?_
  refine aw_iadd (pc := 1906) hX dL_law_1906 ?_
  refine aw_scl (pc := 1907) hX hsc hy dL_law_1907 (fun x1 hy => ?_)
  refine aw_callV (pc := 1908) (st := []) (a := 55) hX [vI x1] (con_X13_led _ G _ 55 x1 hy.bd) mc_X13_led ml_L_228 im_X13_led se_X13_led (by decide) hy.bd.kd rfl (rm_law hr (by decide) (show ce9 + 0 ≤ 601024 by omega) (show sl9 + 0 ≤ 7293034 by omega)) (Nat.le_of_ble_eq_true rfl) rfl dL_law_1908 (kmI rfl rfl (fun q2 hy => ?_))
  refine aw_istore (pc := 1911) hX [(6, vI q2.1), (5, vI kk), (0, vX 20), (1, vR 1), (2, vR 55), (3, vR 68), (4, vI v4)] rfl (lt_n hN (by decide)) dL_law_1911 ?_
  refine aw_aloadn (pc := 1913) hX 4 rfl dL_law_1913 ?_
  refine aw_callV (pc := 1914) (st := []) (a := 55) hX [] (con_X13_thrown _ G _ 55 hy.bd) mc_X13_thrown ml_L_229 im_X13_thrown se_X13_thrown (by decide) hy.bd.kd rfl (rm_law hr (by decide) (show ce9 + 0 ≤ 601024 by omega) (show sl9 + 0 ≤ 7293034 by omega)) (Nat.le_of_ble_eq_true rfl) rfl dL_law_1914 (kpI rfl rfl (fun x3 hy => ?_))
  refine aw_iload (pc := 1917) hX 1 rfl dL_law_1917 ?_
  refine aw_ic_eq (pc := 1919) hX 1924 (by decide) dL_law_1919 (fun hc9 => ?_) (fun hc9 => ?_)
  · have hy := hy.t hc9
    refine aw_iload (pc := 1924) hX 1 rfl dL_law_1924 ?_
    refine aw_if_ne (pc := 1926) hX 1941 (by decide) dL_law_1926 (fun hc9 => ?_) (fun hc9 => ?_)
    · have hy := hy.f hc9
      refine aw_goto (pc := 1941) hX 1982 (by decide) dL_law_1941 ?_
      refine AW.sub [2, 3, 4, 5, 6] rfl ?_
      exact AW.widen (by omega) (by omega) (hc q2.2 hy.s)
    · have hy := hy.t hc9
      refine aw_aloadn (pc := 1929) hX 5 rfl dL_law_1929 ?_
      refine aw_iconst (pc := 1930) hX 0 (by decide) dL_law_1930 ?_
      refine aw_aL (pc := 1931) hX hy dL_law_1931 (fun x4 hy => ?_)
      refine aw_iload (pc := 1932) hX 0 rfl dL_law_1932 ?_
      refine aw_i2l (pc := 1934) hX dL_law_1934 ?_
      refine aw_lcmp (pc := 1935) hX dL_law_1935 ?_
      refine aw_if_eq (pc := 1936) hX 1941 (by decide) dL_law_1936 (fun hc9 => ?_) (fun hc9 => ?_)
      · have hy := hy.t hc9
        refine aw_goto (pc := 1941) hX 1982 (by decide) dL_law_1941 ?_
        refine AW.sub [2, 3, 4, 5, 6] rfl ?_
        exact AW.widen (by omega) (by omega) (hc q2.2 hy.s)
      · have hy := hy.f hc9
        exact hy.no.elim
  · have hy := hy.f hc9
    exact hy.no.elim
