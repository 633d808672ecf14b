/-! THE LAW'S STATIC METHODS: a call of the class, its answer into the row 'out', or the number of what it throws -/
abbrev lw_wsW (y : MethodName) (c : ByteArray) (n : Nat) (r : Option FieldType) (hh : List (Nat × Nat × Nat × Nat)) : List Cond := Cond.codeWith y c n r hh :: lw_all
theorem lw_gW {own : String} {i : Nat} {y : MethodName} {c : ByteArray} {n : Nat} {r : Option FieldType} {hh : List (Nat × Nat × Nat × Nat)} (h1 : Cond.methodLink own i y ∈ lw_all) (h2 : Cond.static y ∈ lw_all) (h4 : Cond.initialized y.cls ∈ lw_all) (h : Cond.codeWith y c n r hh ∈ lw_all) : GoodIn lw_all (va_wsS own i y (lw_wsW y c n r hh)) := by
  have key : ∀ w ∈ va_wsS own i y (lw_wsW y c n r hh), w ∈ lw_all := by
    intro w hw
    rcases List.mem_append.mp hw with h9 | h9
    · rcases List.mem_cons.mp h9 with e | h9
      · exact e ▸ h1
      rcases List.mem_cons.mp h9 with e | h9
      · exact e ▸ h2
      rcases List.mem_cons.mp h9 with e | h9
      · exact e ▸ h4
      · cases h9
    · exact (List.mem_cons.mp h9).elim (fun e => e ▸ h) id
  exact fun w hw => ⟨key w hw, good_of_word (lw_allGood w (key w hw))⟩
abbrev x1 : String := "java/lang/IndexOutOfBoundsException"
abbrev x2 : String := "java/lang/IllegalArgumentException"
abbrev x3 : String := "java/lang/IllegalStateException"
def NC (U : State) : Prop := va_Nc x2 x1 U ∧ va_Nc x3 x1 U ∧ va_Nc x3 x2 U
theorem NC.moved {u U : State} (hvm : u.vm.Alike U.vm) (h : NC u) : NC U := ⟨h.1.moved hvm, h.2.1.moved hvm, h.2.2.moved hvm⟩
abbrev OutE (cJ : ClassId) (o : Nat → Int64) : va_E := .inl (cJ, 1, .inr (.inl o))
def KJ (g : dd_G) (cJ : ClassId) (U : State) : Prop := va_K g.1 vwCl (dd_tys g.2 ++ [(cJ, .long)]) U
def PreL (g : dd_G) (cJ : ClassId) (ad : Nat → Nat) (X : va_W) (sg : dd_S) (sz : Nat) (U : State) : Prop := PreX g 59 ad X (WC g ad sg ++ X) sz U ∧ KJ g cJ U ∧ NC U
theorem PreL.blind {g : dd_G} {cJ : ClassId} {ad : Nat → Nat} {X : va_W} {sg : dd_S} {sz : Nat} {av : List Value} : FrameBlind (va_Pc av (PreL g cJ ad X sg sz)) := fun a U fr mk h => ⟨h.1, (PreX.blind (av := av) a U fr mk ⟨h.1, h.2.1⟩).2, va_K.moved (u := U) (U := U.calling fr mk a) (Vm.Alike.refl U.vm) h.2.2.1, NC.moved (u := U) (U := U.calling fr mk a) (Vm.Alike.refl U.vm) h.2.2.2⟩
theorem preVX_of {g : dd_G} {n : Nat} {ad : Nat → Nat} {X ws : va_W} {s : State} {H : Heap} {A : Nat → Prop} {a k ci : Nat} {q : vw_C} {fs : List Value} {As : List Value} (hK : KC g s) (hP : va_P g.1 vwCl ws H) (hD : va_D A ws) (hXF : XF (dd_A n ad X H.size) s H) (he : ws[k]? = some (a, .inr (ci, fs))) (hc : vwCl[ci]? = some q) : PreV s H q.1 a (va_Pc (.ref a :: As) (PreX g n ad X ws H.size)) As := ⟨PreX.blind, va_recv hK.1 hP hc he, fun U hU hW => ⟨rfl, preW_of hK hP hD hU hW, by rw [hU]; exact hXF.warm hW⟩⟩
theorem preSL_of {g : dd_G} {cJ : ClassId} {ad : Nat → Nat} {X : va_W} {sg : dd_S} {s : State} {H : Heap} {A : Nat → Prop} {As : List Value} (hK : KC g s) (hP : va_P g.1 vwCl (WC g ad sg ++ X) H) (hD : va_D A (WC g ad sg ++ X)) (hXF : XF (dd_A 59 ad X H.size) s H) (hKJ : KJ g cJ s) (hN : NC s) : PreS s H (va_Pc As (PreL g cJ ad X sg H.size)) As := ⟨PreL.blind, fun U hU hW => ⟨rfl, ⟨preW_of hK hP hD hU hW, by rw [hU]; exact hXF.warm hW⟩, va_K.moved hW.alike hKJ, NC.moved hW.alike hN⟩⟩
theorem dd_first {n : Nat} {cd : Nat → (Nat → Int32) → va_E} {ad : Nat → Nat} {sg : dd_S} {Y : va_W} {t : Nat × va_E} : (dd_wd n cd ad sg ++ (t :: Y))[n]? = some t := by
  rw [List.getElem?_append_right (by simp [dd_wd])]
  simp [dd_wd]
theorem dd_firstset {n : Nat} {cd : Nat → (Nat → Int32) → va_E} {ad : Nat → Nat} {sg : dd_S} {Y : va_W} {t t2 : Nat × va_E} : (dd_wd n cd ad sg ++ (t :: Y)).set n t2 = dd_wd n cd ad sg ++ (t2 :: Y) := by
  rw [List.set_append_right (h := by simp [dd_wd])]
  simp [dd_wd]
theorem dd_A_first {n : Nat} {ad : Nat → Nat} {Y : va_W} {q0 sz : Nat} {e1 e2 : va_E} {q : Nat} (h : dd_A n ad ((q0, e1) :: Y) sz q) : dd_A n ad ((q0, e2) :: Y) sz q := by
  rcases h with h1 | ⟨x, hx, e⟩ | h1
  · exact Or.inl h1
  · rcases List.mem_cons.mp hx with h2 | h2
    · exact Or.inr (Or.inl ⟨(q0, e2), List.mem_cons_self, by rw [e, h2]⟩)
    · exact Or.inr (Or.inl ⟨x, List.mem_cons_of_mem _ h2, e⟩)
  · exact Or.inr (Or.inr h1)
theorem qw_460 : Cond.methodLink RL 7 yX5_setWay ∈ lw_all := lw_in 456 (by decide +kernel) rfl
theorem qw_461 : Cond.instanceMethod yX5_setWay ∈ lw_all := lw_in 457 (by decide +kernel) rfl
theorem qw_462 : Cond.selects RX5 yX5_setWay yX5_setWay ∈ lw_all := lw_in 458 (by decide +kernel) rfl
theorem qw_463 : Cond.code yX5_setWay cX5_setWay 5 (some .int) ∈ lw_all := lw_in 459 (by decide +kernel) rfl
theorem qw_464 : Cond.castable x1 x1 ∈ lw_nest := nw_in 400 (by decide +kernel) rfl
theorem qw_465 : Cond.classLink RL 13 "java/lang/IndexOutOfBoundsException" ∈ lw_all := lw_in 454 (by decide +kernel) rfl
theorem qw_466 : Cond.castable x2 x2 ∈ lw_nest := nw_in 468 (by decide +kernel) rfl
theorem qw_467 : Cond.classLink RL 15 "java/lang/IllegalArgumentException" ∈ lw_all := lw_in 455 (by decide +kernel) rfl
theorem qw_468 : Cond.methodLink RL 17 yX5_addTrip ∈ lw_all := lw_in 560 (by decide +kernel) rfl
theorem qw_469 : Cond.instanceMethod yX5_addTrip ∈ lw_all := lw_in 561 (by decide +kernel) rfl
theorem qw_470 : Cond.selects RX5 yX5_addTrip yX5_addTrip ∈ lw_all := lw_in 562 (by decide +kernel) rfl
theorem qw_471 : Cond.code yX5_addTrip cX5_addTrip 5 (some .int) ∈ lw_all := lw_in 563 (by decide +kernel) rfl
theorem qw_472 : Cond.castable x3 x3 ∈ lw_nest := nw_in 505 (by decide +kernel) rfl
theorem qw_473 : Cond.classLink RL 21 "java/lang/IllegalStateException" ∈ lw_all := lw_in 559 (by decide +kernel) rfl
theorem qw_474 : Cond.methodLink RL 23 yX5_trip ∈ lw_all := lw_in 591 (by decide +kernel) rfl
theorem qw_475 : Cond.instanceMethod yX5_trip ∈ lw_all := lw_in 592 (by decide +kernel) rfl
theorem qw_476 : Cond.selects RX5 yX5_trip yX5_trip ∈ lw_all := lw_in 593 (by decide +kernel) rfl
theorem qw_477 : Cond.code yX5_trip cX5_trip 3 (some .int) ∈ lw_all := lw_in 594 (by decide +kernel) rfl
theorem qw_478 : Cond.methodLink RL 27 yX5_setRules ∈ lw_all := lw_in 603 (by decide +kernel) rfl
theorem qw_479 : Cond.instanceMethod yX5_setRules ∈ lw_all := lw_in 604 (by decide +kernel) rfl
theorem qw_480 : Cond.selects RX5 yX5_setRules yX5_setRules ∈ lw_all := lw_in 605 (by decide +kernel) rfl
theorem qw_481 : Cond.code yX5_setRules cX5_setRules 5 (some .int) ∈ lw_all := lw_in 606 (by decide +kernel) rfl
theorem qw_482 : Cond.methodLink RL 30 yX5_count ∈ lw_all := lw_in 616 (by decide +kernel) rfl
theorem qw_483 : Cond.instanceMethod yX5_count ∈ lw_all := lw_in 617 (by decide +kernel) rfl
theorem qw_484 : Cond.selects RX5 yX5_count yX5_count ∈ lw_all := lw_in 618 (by decide +kernel) rfl
theorem qw_485 : Cond.code yX5_count cX5_count 2 (some .int) ∈ lw_all := lw_in 619 (by decide +kernel) rfl
theorem qw_486 : Cond.methodLink RL 34 yX5_addDuty ∈ lw_all := lw_in 624 (by decide +kernel) rfl
theorem qw_487 : Cond.instanceMethod yX5_addDuty ∈ lw_all := lw_in 625 (by decide +kernel) rfl
theorem qw_488 : Cond.selects RX5 yX5_addDuty yX5_addDuty ∈ lw_all := lw_in 626 (by decide +kernel) rfl
theorem qw_489 : Cond.code yX5_addDuty cX5_addDuty 1 (some .int) ∈ lw_all := lw_in 627 (by decide +kernel) rfl
theorem qw_490 : Cond.methodLink RL 38 yX5_put ∈ lw_all := lw_in 632 (by decide +kernel) rfl
theorem qw_491 : Cond.instanceMethod yX5_put ∈ lw_all := lw_in 633 (by decide +kernel) rfl
theorem qw_492 : Cond.selects RX5 yX5_put yX5_put ∈ lw_all := lw_in 634 (by decide +kernel) rfl
theorem qw_493 : Cond.code yX5_put cX5_put 3 (some .int) ∈ lw_all := lw_in 635 (by decide +kernel) rfl
theorem qw_494 : Cond.methodLink RL 41 yX5_takeOut ∈ lw_all := lw_in 649 (by decide +kernel) rfl
theorem qw_495 : Cond.instanceMethod yX5_takeOut ∈ lw_all := lw_in 650 (by decide +kernel) rfl
theorem qw_496 : Cond.selects RX5 yX5_takeOut yX5_takeOut ∈ lw_all := lw_in 651 (by decide +kernel) rfl
theorem qw_497 : Cond.code yX5_takeOut cX5_takeOut 3 (some .int) ∈ lw_all := lw_in 652 (by decide +kernel) rfl
theorem qw_498 : Cond.methodLink RL 44 yX5_duty ∈ lw_all := lw_in 666 (by decide +kernel) rfl
theorem qw_499 : Cond.instanceMethod yX5_duty ∈ lw_all := lw_in 667 (by decide +kernel) rfl
theorem qw_500 : Cond.selects RX5 yX5_duty yX5_duty ∈ lw_all := lw_in 668 (by decide +kernel) rfl
theorem qw_501 : Cond.code yX5_duty cX5_duty 3 (some .int) ∈ lw_all := lw_in 669 (by decide +kernel) rfl
theorem qw_502 : Cond.methodLink RL 47 yX5_tripAt ∈ lw_all := lw_in 674 (by decide +kernel) rfl
theorem qw_503 : Cond.instanceMethod yX5_tripAt ∈ lw_all := lw_in 675 (by decide +kernel) rfl
theorem qw_504 : Cond.selects RX5 yX5_tripAt yX5_tripAt ∈ lw_all := lw_in 676 (by decide +kernel) rfl
theorem qw_505 : Cond.code yX5_tripAt cX5_tripAt 3 (some .int) ∈ lw_all := lw_in 677 (by decide +kernel) rfl
theorem qw_506 : Cond.methodLink RL 50 yX5_bestFor ∈ lw_all := lw_in 682 (by decide +kernel) rfl
theorem qw_507 : Cond.instanceMethod yX5_bestFor ∈ lw_all := lw_in 683 (by decide +kernel) rfl
theorem qw_508 : Cond.selects RX5 yX5_bestFor yX5_bestFor ∈ lw_all := lw_in 684 (by decide +kernel) rfl
theorem qw_509 : Cond.code yX5_bestFor cX5_bestFor 2 (some .int) ∈ lw_all := lw_in 685 (by decide +kernel) rfl
theorem qw_510 : Cond.methodLink RL 53 yX5_swap ∈ lw_all := lw_in 689 (by decide +kernel) rfl
theorem qw_511 : Cond.instanceMethod yX5_swap ∈ lw_all := lw_in 690 (by decide +kernel) rfl
theorem qw_512 : Cond.selects RX5 yX5_swap yX5_swap ∈ lw_all := lw_in 691 (by decide +kernel) rfl
theorem qw_513 : Cond.code yX5_swap cX5_swap 5 (some .int) ∈ lw_all := lw_in 692 (by decide +kernel) rfl
theorem qw_514 : Cond.methodLink RL 56 yX5_addDriver ∈ lw_all := lw_in 699 (by decide +kernel) rfl
theorem qw_515 : Cond.instanceMethod yX5_addDriver ∈ lw_all := lw_in 700 (by decide +kernel) rfl
theorem qw_516 : Cond.selects RX5 yX5_addDriver yX5_addDriver ∈ lw_all := lw_in 701 (by decide +kernel) rfl
theorem qw_517 : Cond.code yX5_addDriver cX5_addDriver 1 (some .int) ∈ lw_all := lw_in 702 (by decide +kernel) rfl
theorem qw_518 : Cond.methodLink RL 59 yX5_reason ∈ lw_all := lw_in 707 (by decide +kernel) rfl
theorem qw_519 : Cond.instanceMethod yX5_reason ∈ lw_all := lw_in 708 (by decide +kernel) rfl
theorem qw_520 : Cond.selects RX5 yX5_reason yX5_reason ∈ lw_all := lw_in 709 (by decide +kernel) rfl
theorem qw_521 : Cond.code yX5_reason cX5_reason 4 (some .int) ∈ lw_all := lw_in 710 (by decide +kernel) rfl
theorem qw_522 : Cond.methodLink RL 62 yX5_give ∈ lw_all := lw_in 742 (by decide +kernel) rfl
theorem qw_523 : Cond.instanceMethod yX5_give ∈ lw_all := lw_in 743 (by decide +kernel) rfl
theorem qw_524 : Cond.selects RX5 yX5_give yX5_give ∈ lw_all := lw_in 744 (by decide +kernel) rfl
theorem qw_525 : Cond.code yX5_give cX5_give 4 (some .int) ∈ lw_all := lw_in 745 (by decide +kernel) rfl
theorem qw_526 : Cond.methodLink RL 65 yX5_takeBack ∈ lw_all := lw_in 754 (by decide +kernel) rfl
theorem qw_527 : Cond.instanceMethod yX5_takeBack ∈ lw_all := lw_in 755 (by decide +kernel) rfl
theorem qw_528 : Cond.selects RX5 yX5_takeBack yX5_takeBack ∈ lw_all := lw_in 756 (by decide +kernel) rfl
theorem qw_529 : Cond.code yX5_takeBack cX5_takeBack 4 (some .int) ∈ lw_all := lw_in 757 (by decide +kernel) rfl
theorem qw_530 : Cond.methodLink RL 68 yX5_given ∈ lw_all := lw_in 763 (by decide +kernel) rfl
theorem qw_531 : Cond.instanceMethod yX5_given ∈ lw_all := lw_in 764 (by decide +kernel) rfl
theorem qw_532 : Cond.selects RX5 yX5_given yX5_given ∈ lw_all := lw_in 765 (by decide +kernel) rfl
theorem qw_533 : Cond.code yX5_given cX5_given 3 (some .int) ∈ lw_all := lw_in 766 (by decide +kernel) rfl
theorem qw_534 : Cond.methodLink RL 71 yX5_fill ∈ lw_all := lw_in 770 (by decide +kernel) rfl
theorem qw_535 : Cond.instanceMethod yX5_fill ∈ lw_all := lw_in 771 (by decide +kernel) rfl
theorem qw_536 : Cond.selects RX5 yX5_fill yX5_fill ∈ lw_all := lw_in 772 (by decide +kernel) rfl
theorem qw_537 : Cond.code yX5_fill cX5_fill 3 (some .int) ∈ lw_all := lw_in 773 (by decide +kernel) rfl
theorem qw_538 : Cond.methodLink RL 74 yX5_week ∈ lw_all := lw_in 794 (by decide +kernel) rfl
theorem qw_539 : Cond.instanceMethod yX5_week ∈ lw_all := lw_in 795 (by decide +kernel) rfl
theorem qw_540 : Cond.selects RX5 yX5_week yX5_week ∈ lw_all := lw_in 796 (by decide +kernel) rfl
theorem qw_541 : Cond.code yX5_week cX5_week 2 (some .int) ∈ lw_all := lw_in 797 (by decide +kernel) rfl
theorem qw_542 : Cond.methodLink RL 77 yX5_rest ∈ lw_all := lw_in 802 (by decide +kernel) rfl
theorem qw_543 : Cond.instanceMethod yX5_rest ∈ lw_all := lw_in 803 (by decide +kernel) rfl
theorem qw_544 : Cond.selects RX5 yX5_rest yX5_rest ∈ lw_all := lw_in 804 (by decide +kernel) rfl
theorem qw_545 : Cond.code yX5_rest cX5_rest 5 (some .int) ∈ lw_all := lw_in 805 (by decide +kernel) rfl
theorem gl_L_7 : GoodIn lw_all (wsV RL 7 RX5 yX5_setWay (lw_ws yX5_setWay cX5_setWay 5 (some .int))) := lw_gV qw_460 qw_461 qw_462 qw_88 qw_463
theorem yd_X5_setWay : yX5_setWay.cls = RX5 ∧ yX5_setWay.cls ≠ "java/lang/invoke/MethodHandle" ∧ yX5_setWay.cls ≠ "java/lang/invoke/VarHandle" ∧ (parseMethodDescriptor yX5_setWay.desc).map (fun d => d.parameters.length) = some 3 := by decide +kernel
theorem gl_L_17 : GoodIn lw_all (wsV RL 17 RX5 yX5_addTrip (lw_ws yX5_addTrip cX5_addTrip 5 (some .int))) := lw_gV qw_468 qw_469 qw_470 qw_88 qw_471
theorem yd_X5_addTrip : yX5_addTrip.cls = RX5 ∧ yX5_addTrip.cls ≠ "java/lang/invoke/MethodHandle" ∧ yX5_addTrip.cls ≠ "java/lang/invoke/VarHandle" ∧ (parseMethodDescriptor yX5_addTrip.desc).map (fun d => d.parameters.length) = some 4 := by decide +kernel
theorem gl_L_23 : GoodIn lw_all (wsV RL 23 RX5 yX5_trip (lw_ws yX5_trip cX5_trip 3 (some .int))) := lw_gV qw_474 qw_475 qw_476 qw_88 qw_477
theorem yd_X5_trip : yX5_trip.cls = RX5 ∧ yX5_trip.cls ≠ "java/lang/invoke/MethodHandle" ∧ yX5_trip.cls ≠ "java/lang/invoke/VarHandle" ∧ (parseMethodDescriptor yX5_trip.desc).map (fun d => d.parameters.length) = some 2 := by decide +kernel
theorem gl_L_27 : GoodIn lw_all (wsV RL 27 RX5 yX5_setRules (lw_ws yX5_setRules cX5_setRules 5 (some .int))) := lw_gV qw_478 qw_479 qw_480 qw_88 qw_481
theorem yd_X5_setRules : yX5_setRules.cls = RX5 ∧ yX5_setRules.cls ≠ "java/lang/invoke/MethodHandle" ∧ yX5_setRules.cls ≠ "java/lang/invoke/VarHandle" ∧ (parseMethodDescriptor yX5_setRules.desc).map (fun d => d.parameters.length) = some 4 := by decide +kernel
theorem gl_L_30 : GoodIn lw_all (wsV RL 30 RX5 yX5_count (lw_ws yX5_count cX5_count 2 (some .int))) := lw_gV qw_482 qw_483 qw_484 qw_88 qw_485
theorem yd_X5_count : yX5_count.cls = RX5 ∧ yX5_count.cls ≠ "java/lang/invoke/MethodHandle" ∧ yX5_count.cls ≠ "java/lang/invoke/VarHandle" ∧ (parseMethodDescriptor yX5_count.desc).map (fun d => d.parameters.length) = some 1 := by decide +kernel
theorem gl_L_34 : GoodIn lw_all (wsV RL 34 RX5 yX5_addDuty (lw_ws yX5_addDuty cX5_addDuty 1 (some .int))) := lw_gV qw_486 qw_487 qw_488 qw_88 qw_489
theorem yd_X5_addDuty : yX5_addDuty.cls = RX5 ∧ yX5_addDuty.cls ≠ "java/lang/invoke/MethodHandle" ∧ yX5_addDuty.cls ≠ "java/lang/invoke/VarHandle" ∧ (parseMethodDescriptor yX5_addDuty.desc).map (fun d => d.parameters.length) = some 0 := by decide +kernel
theorem gl_L_38 : GoodIn lw_all (wsV RL 38 RX5 yX5_put (lw_ws yX5_put cX5_put 3 (some .int))) := lw_gV qw_490 qw_491 qw_492 qw_88 qw_493
theorem yd_X5_put : yX5_put.cls = RX5 ∧ yX5_put.cls ≠ "java/lang/invoke/MethodHandle" ∧ yX5_put.cls ≠ "java/lang/invoke/VarHandle" ∧ (parseMethodDescriptor yX5_put.desc).map (fun d => d.parameters.length) = some 2 := by decide +kernel
theorem gl_L_41 : GoodIn lw_all (wsV RL 41 RX5 yX5_takeOut (lw_ws yX5_takeOut cX5_takeOut 3 (some .int))) := lw_gV qw_494 qw_495 qw_496 qw_88 qw_497
theorem yd_X5_takeOut : yX5_takeOut.cls = RX5 ∧ yX5_takeOut.cls ≠ "java/lang/invoke/MethodHandle" ∧ yX5_takeOut.cls ≠ "java/lang/invoke/VarHandle" ∧ (parseMethodDescriptor yX5_takeOut.desc).map (fun d => d.parameters.length) = some 1 := by decide +kernel
theorem gl_L_44 : GoodIn lw_all (wsV RL 44 RX5 yX5_duty (lw_ws yX5_duty cX5_duty 3 (some .int))) := lw_gV qw_498 qw_499 qw_500 qw_88 qw_501
theorem yd_X5_duty : yX5_duty.cls = RX5 ∧ yX5_duty.cls ≠ "java/lang/invoke/MethodHandle" ∧ yX5_duty.cls ≠ "java/lang/invoke/VarHandle" ∧ (parseMethodDescriptor yX5_duty.desc).map (fun d => d.parameters.length) = some 2 := by decide +kernel
theorem gl_L_47 : GoodIn lw_all (wsV RL 47 RX5 yX5_tripAt (lw_ws yX5_tripAt cX5_tripAt 3 (some .int))) := lw_gV qw_502 qw_503 qw_504 qw_88 qw_505
theorem yd_X5_tripAt : yX5_tripAt.cls = RX5 ∧ yX5_tripAt.cls ≠ "java/lang/invoke/MethodHandle" ∧ yX5_tripAt.cls ≠ "java/lang/invoke/VarHandle" ∧ (parseMethodDescriptor yX5_tripAt.desc).map (fun d => d.parameters.length) = some 2 := by decide +kernel
theorem gl_L_50 : GoodIn lw_all (wsV RL 50 RX5 yX5_bestFor (lw_ws yX5_bestFor cX5_bestFor 2 (some .int))) := lw_gV qw_506 qw_507 qw_508 qw_88 qw_509
theorem yd_X5_bestFor : yX5_bestFor.cls = RX5 ∧ yX5_bestFor.cls ≠ "java/lang/invoke/MethodHandle" ∧ yX5_bestFor.cls ≠ "java/lang/invoke/VarHandle" ∧ (parseMethodDescriptor yX5_bestFor.desc).map (fun d => d.parameters.length) = some 1 := by decide +kernel
theorem gl_L_53 : GoodIn lw_all (wsV RL 53 RX5 yX5_swap (lw_ws yX5_swap cX5_swap 5 (some .int))) := lw_gV qw_510 qw_511 qw_512 qw_88 qw_513
theorem yd_X5_swap : yX5_swap.cls = RX5 ∧ yX5_swap.cls ≠ "java/lang/invoke/MethodHandle" ∧ yX5_swap.cls ≠ "java/lang/invoke/VarHandle" ∧ (parseMethodDescriptor yX5_swap.desc).map (fun d => d.parameters.length) = some 3 := by decide +kernel
theorem gl_L_56 : GoodIn lw_all (wsV RL 56 RX5 yX5_addDriver (lw_ws yX5_addDriver cX5_addDriver 1 (some .int))) := lw_gV qw_514 qw_515 qw_516 qw_88 qw_517
theorem yd_X5_addDriver : yX5_addDriver.cls = RX5 ∧ yX5_addDriver.cls ≠ "java/lang/invoke/MethodHandle" ∧ yX5_addDriver.cls ≠ "java/lang/invoke/VarHandle" ∧ (parseMethodDescriptor yX5_addDriver.desc).map (fun d => d.parameters.length) = some 0 := by decide +kernel
theorem gl_L_59 : GoodIn lw_all (wsV RL 59 RX5 yX5_reason (lw_ws yX5_reason cX5_reason 4 (some .int))) := lw_gV qw_518 qw_519 qw_520 qw_88 qw_521
theorem yd_X5_reason : yX5_reason.cls = RX5 ∧ yX5_reason.cls ≠ "java/lang/invoke/MethodHandle" ∧ yX5_reason.cls ≠ "java/lang/invoke/VarHandle" ∧ (parseMethodDescriptor yX5_reason.desc).map (fun d => d.parameters.length) = some 3 := by decide +kernel
theorem gl_L_62 : GoodIn lw_all (wsV RL 62 RX5 yX5_give (lw_ws yX5_give cX5_give 4 (some .int))) := lw_gV qw_522 qw_523 qw_524 qw_88 qw_525
theorem yd_X5_give : yX5_give.cls = RX5 ∧ yX5_give.cls ≠ "java/lang/invoke/MethodHandle" ∧ yX5_give.cls ≠ "java/lang/invoke/VarHandle" ∧ (parseMethodDescriptor yX5_give.desc).map (fun d => d.parameters.length) = some 3 := by decide +kernel
theorem gl_L_65 : GoodIn lw_all (wsV RL 65 RX5 yX5_takeBack (lw_ws yX5_takeBack cX5_takeBack 4 (some .int))) := lw_gV qw_526 qw_527 qw_528 qw_88 qw_529
theorem yd_X5_takeBack : yX5_takeBack.cls = RX5 ∧ yX5_takeBack.cls ≠ "java/lang/invoke/MethodHandle" ∧ yX5_takeBack.cls ≠ "java/lang/invoke/VarHandle" ∧ (parseMethodDescriptor yX5_takeBack.desc).map (fun d => d.parameters.length) = some 2 := by decide +kernel
theorem gl_L_68 : GoodIn lw_all (wsV RL 68 RX5 yX5_given (lw_ws yX5_given cX5_given 3 (some .int))) := lw_gV qw_530 qw_531 qw_532 qw_88 qw_533
theorem yd_X5_given : yX5_given.cls = RX5 ∧ yX5_given.cls ≠ "java/lang/invoke/MethodHandle" ∧ yX5_given.cls ≠ "java/lang/invoke/VarHandle" ∧ (parseMethodDescriptor yX5_given.desc).map (fun d => d.parameters.length) = some 2 := by decide +kernel
theorem gl_L_71 : GoodIn lw_all (wsV RL 71 RX5 yX5_fill (lw_ws yX5_fill cX5_fill 3 (some .int))) := lw_gV qw_534 qw_535 qw_536 qw_88 qw_537
theorem yd_X5_fill : yX5_fill.cls = RX5 ∧ yX5_fill.cls ≠ "java/lang/invoke/MethodHandle" ∧ yX5_fill.cls ≠ "java/lang/invoke/VarHandle" ∧ (parseMethodDescriptor yX5_fill.desc).map (fun d => d.parameters.length) = some 1 := by decide +kernel
theorem gl_L_74 : GoodIn lw_all (wsV RL 74 RX5 yX5_week (lw_ws yX5_week cX5_week 2 (some .int))) := lw_gV qw_538 qw_539 qw_540 qw_88 qw_541
theorem yd_X5_week : yX5_week.cls = RX5 ∧ yX5_week.cls ≠ "java/lang/invoke/MethodHandle" ∧ yX5_week.cls ≠ "java/lang/invoke/VarHandle" ∧ (parseMethodDescriptor yX5_week.desc).map (fun d => d.parameters.length) = some 1 := by decide +kernel
theorem gl_L_77 : GoodIn lw_all (wsV RL 77 RX5 yX5_rest (lw_ws yX5_rest cX5_rest 5 (some .int))) := lw_gV qw_542 qw_543 qw_544 qw_88 qw_545
theorem yd_X5_rest : yX5_rest.cls = RX5 ∧ yX5_rest.cls ≠ "java/lang/invoke/MethodHandle" ∧ yX5_rest.cls ≠ "java/lang/invoke/VarHandle" ∧ (parseMethodDescriptor yX5_rest.desc).map (fun d => d.parameters.length) = some 2 := by decide +kernel
set_option maxHeartbeats 4000000 in
set_option maxRecDepth 100000 in
theorem c_L_setWay (l : Launch) (hst : l.stackTraces = false) (g : dd_G) (cJ : ClassId) (ad : Nat → Nat) (Y : va_W) (qo : Nat) (o : Nat → Int64) (sz : Nat) (sg : dd_S) (a1 : Int32) (a2 : Int32) (a3 : Int32) (k0 : Nat) (r0 : Int32) (s0 : dd_S) (hf : f_X5_setWay sg a1 a2 a3 = some (k0, r0, s0)) (hk : k0 = 0 ∨ k0 = 1 ∨ k0 = 2) : Met l yL_setWay (lw_wsW yL_setWay cL_setWay 6 (some .int) [(0, 12, 15, 13), (0, 12, 19, 15)]) ({ frames := 7, cells := 1, slots := 6, locals := 117 } : Room) (va_Pc [.ref (ad 30), .int a1, .int a2, .int a3, .ref qo] (PreL g cJ ad ((qo, OutE cJ o) :: Y) sg sz)) (QI g (WC g ad s0 ++ ((qo, OutE cJ (if k0 = 0 then vp_updL o 0 r0.toInt64 else o)) :: Y)) (dd_A 59 ad ((qo, OutE cJ o) :: Y) sz) (if k0 = 0 then 0 else if k0 = 1 then 1 else 2)) 1 6 (dd_A 59 ad ((qo, OutE cJ o) :: Y) sz) := by
  refine va_MetW (cc := cL_setWay) (maxL := 6) (ret := some .int) (hh := [(0, 12, 15, 13), (0, 12, 19, 15)]) (by decide) rfl ?_
  intro p e s m args below meth c s₁ B hml hv
  obtain ⟨rfl, ⟨⟨rfl, hP, hK, hD0⟩, hXF⟩, hKJ, hn1, hn2, hn3⟩ := hv
  have hx := B.exec
  have hb := B.bytes
  have hr := B.returns
  have hts := atoms_spec (ws := (lw_wsW yL_setWay cL_setWay 6 (some .int) [(0, 12, 15, 13), (0, 12, 19, 15)])) B.pre
  have htab := vx_table (x := yL_setWay) B (hts _ List.mem_cons_self)
  have hts : ∀ w ∈ lw_all, w.before _ s = true := fun w h => hts w (List.mem_cons_of_mem _ h)
  have hown : s.vm.findClass RL = some m.cls := findClass_of_methodNamed B.named
  have hlocks := B.notSynchronized
  have hD : va_D (dd_A 59 ad ((qo, OutE cJ o) :: Y) s.heap.size) (WC g ad sg ++ ((qo, OutE cJ o) :: Y)) := dd_A_D hD0
  have hS : va_S (dd_A 59 ad ((qo, OutE cJ o) :: Y) s.heap.size) s.heap s.heap [] := va_S.rf
  have hl := lv_entry ([.ref (ad 30), .int a1, .int a2, .int a3, .ref qo]) (n := 6) (Nat.le_of_ble_eq_true rfl)
  rw [lg_entry_eq]
  generalize (lg_sl ([.ref (ad 30), .int a1, .int a2, .int a3, .ref qo]) ++ List.replicate (6 - (lg_sl ([.ref (ad 30), .int a1, .int a2, .int a3, .ref qo])).length) Slot.unset).toArray = ls at hl ⊢
  have hl : lv_has ls 6 [(0, .ref (ad 30)), (1, .int a1), (2, .int a2), (3, .int a3), (4, .ref qo)] := hl
  refine lv_aload hx hb dL_setWay_0 (lv_at hl 4 rfl) ?_
  refine lv_iconst (v := 0) hx hb dL_setWay_2 (by decide) ?_
  refine lv_aload_n hx hb dL_setWay_3 rfl (lv_at hl 0 rfl) ?_
  refine lv_iload_n hx hb dL_setWay_4 rfl (lv_at hl 1 rfl) ?_
  refine lv_iload_n hx hb dL_setWay_5 rfl (lv_at hl 2 rfl) ?_
  refine lv_iload_n hx hb dL_setWay_6 rfl (lv_at hl 3 rfl) ?_
  refine vx_calli (vx_runV (As := [.int a1, .int a2, .int a3]) (rest := [.int 0, .ref qo]) ⟨hx, hb, hml, hown, hts⟩ (c_X5_setWay l hst g ad ((qo, OutE cJ o) :: Y) _ sg a1 a2 a3 k0 r0 s0 hf) (cwV 3 hts gl_L_7 rfl rfl rfl yd_X5_setWay ⟨Nat.le_of_ble_eq_true rfl, Nat.le_of_ble_eq_true rfl⟩) (preVX_of hK hP hD hXF (dd_at (by decide) cc_30) rfl) rfl rfl hl.1 rfl (lv_room (Nat.le_of_ble_eq_true rfl)) dL_setWay_7 ⟨Nat.le_of_ble_eq_true rfl, Nat.le_of_ble_eq_true rfl⟩) hS (fun q _ h => h) (fun q h => h) (fun q _ h => h) (fun E ce q9 u t H locs ht hvm hw hB hz hk9 hS hce hcv hcl => ?_) (fun r u t H locs ht hvm hw hB hz hk9 hS => ?_)
  · obtain ⟨hne, hE, hP⟩ := hB
    rw [ht] at hP
    rcases hk with hk | hk | hk
    · exact absurd hk hne
    · subst hk
      subst hE
      refine vx_catch (own := RL) (name := x1) (E := x1) hown [] ⟨0, 12, 15, 13⟩ [⟨0, 12, 19, 15⟩] (by rw [htab]; rfl) (fun z hz => absurd hz List.not_mem_nil) (by decide) (by decide) (hts _ qw_465) (va_Nw.use rfl (hK.2 _ qw_464)) hce hcv hcl ?_
      refine lv_astore (lv' := [(5, .ref q9), (0, .ref (ad 30)), (1, .int a1), (2, .int a2), (3, .int a3), (4, .ref qo)]) hx hb dL_setWay_15 hl (by decide) rfl (fun ls hl => ?_)
      refine lv_iconst (v := 1) hx hb dL_setWay_17 (by decide) ?_
      exact W.iret (v := 1) hx hb hr (fun t ht hW => ⟨⟨1, (), rfl, rfl, P_at ht hP⟩, hS.F ht⟩) hS.2.2 dL_setWay_18
    · subst hk
      subst hE
      refine vx_catch (own := RL) (name := x2) (E := x2) hown [⟨0, 12, 15, 13⟩] ⟨0, 12, 19, 15⟩ [] (by rw [htab]; rfl) (fun z hz => by rcases List.mem_singleton.mp hz with rfl; exact Or.inr ⟨by decide, x1, hts _ qw_465, hn1⟩) (by decide) (by decide) (hts _ qw_467) (va_Nw.use rfl (hK.2 _ qw_466)) hce hcv hcl ?_
      refine lv_astore (lv' := [(5, .ref q9), (0, .ref (ad 30)), (1, .int a1), (2, .int a2), (3, .int a3), (4, .ref qo)]) hx hb dL_setWay_19 hl (by decide) rfl (fun ls hl => ?_)
      refine lv_iconst (v := 2) hx hb dL_setWay_21 (by decide) ?_
      exact W.iret (v := 2) hx hb hr (fun t ht hW => ⟨⟨2, (), rfl, rfl, P_at ht hP⟩, hS.F ht⟩) hS.2.2 dL_setWay_22
  · obtain ⟨rfl, rfl⟩ := hw
    rw [ht] at hB
    refine lv_i2l hx hb dL_setWay_10 rfl ?_
    refine va_last hx hb hKJ hB (dd_D hD) hS 59 3 dd_first rfl (ix_in (i := 0) (n := 1) (by decide)) dL_setWay_11 (fun H locs hP _ hS => ?_)
    rw [dd_firstset] at hP
    refine lv_goto (tgt := 23) hx hb dL_setWay_12 (by decide) ?_
    refine lv_iconst (v := 0) hx hb dL_setWay_23 (by decide) ?_
    exact W.iret (v := 0) hx hb hr (fun t ht hW => ⟨⟨0, (), rfl, rfl, P_at ht hP⟩, hS.F ht⟩) hS.2.2 dL_setWay_24
set_option maxHeartbeats 4000000 in
set_option maxRecDepth 100000 in
theorem c_L_addTrip (l : Launch) (hst : l.stackTraces = false) (g : dd_G) (cJ : ClassId) (ad : Nat → Nat) (Y : va_W) (qo : Nat) (o : Nat → Int64) (sz : Nat) (sg : dd_S) (a1 : Int32) (a2 : Int32) (a3 : Int32) (a4 : Int32) (k0 : Nat) (r0 : Int32) (s0 : dd_S) (hf : f_X5_addTrip sg a1 a2 a3 a4 = some (k0, r0, s0)) (hk : k0 = 0 ∨ k0 = 1 ∨ k0 = 2 ∨ k0 = 3) : Met l yL_addTrip (lw_wsW yL_addTrip cL_addTrip 7 (some .int) [(0, 14, 17, 13), (0, 14, 21, 15), (0, 14, 25, 21)]) ({ frames := 7, cells := 1, slots := 6, locals := 106 } : Room) (va_Pc [.ref (ad 30), .int a1, .int a2, .int a3, .int a4, .ref qo] (PreL g cJ ad ((qo, OutE cJ o) :: Y) sg sz)) (QI g (WC g ad s0 ++ ((qo, OutE cJ (if k0 = 0 then vp_updL o 0 r0.toInt64 else o)) :: Y)) (dd_A 59 ad ((qo, OutE cJ o) :: Y) sz) (if k0 = 0 then 0 else if k0 = 1 then 1 else if k0 = 2 then 2 else 3)) 1 6 (dd_A 59 ad ((qo, OutE cJ o) :: Y) sz) := by
  refine va_MetW (cc := cL_addTrip) (maxL := 7) (ret := some .int) (hh := [(0, 14, 17, 13), (0, 14, 21, 15), (0, 14, 25, 21)]) (by decide) rfl ?_
  intro p e s m args below meth c s₁ B hml hv
  obtain ⟨rfl, ⟨⟨rfl, hP, hK, hD0⟩, hXF⟩, hKJ, hn1, hn2, hn3⟩ := hv
  have hx := B.exec
  have hb := B.bytes
  have hr := B.returns
  have hts := atoms_spec (ws := (lw_wsW yL_addTrip cL_addTrip 7 (some .int) [(0, 14, 17, 13), (0, 14, 21, 15), (0, 14, 25, 21)])) B.pre
  have htab := vx_table (x := yL_addTrip) B (hts _ List.mem_cons_self)
  have hts : ∀ w ∈ lw_all, w.before _ s = true := fun w h => hts w (List.mem_cons_of_mem _ h)
  have hown : s.vm.findClass RL = some m.cls := findClass_of_methodNamed B.named
  have hlocks := B.notSynchronized
  have hD : va_D (dd_A 59 ad ((qo, OutE cJ o) :: Y) s.heap.size) (WC g ad sg ++ ((qo, OutE cJ o) :: Y)) := dd_A_D hD0
  have hS : va_S (dd_A 59 ad ((qo, OutE cJ o) :: Y) s.heap.size) s.heap s.heap [] := va_S.rf
  have hl := lv_entry ([.ref (ad 30), .int a1, .int a2, .int a3, .int a4, .ref qo]) (n := 7) (Nat.le_of_ble_eq_true rfl)
  rw [lg_entry_eq]
  generalize (lg_sl ([.ref (ad 30), .int a1, .int a2, .int a3, .int a4, .ref qo]) ++ List.replicate (7 - (lg_sl ([.ref (ad 30), .int a1, .int a2, .int a3, .int a4, .ref qo])).length) Slot.unset).toArray = ls at hl ⊢
  have hl : lv_has ls 7 [(0, .ref (ad 30)), (1, .int a1), (2, .int a2), (3, .int a3), (4, .int a4), (5, .ref qo)] := hl
  refine lv_aload hx hb dL_addTrip_0 (lv_at hl 5 rfl) ?_
  refine lv_iconst (v := 0) hx hb dL_addTrip_2 (by decide) ?_
  refine lv_aload_n hx hb dL_addTrip_3 rfl (lv_at hl 0 rfl) ?_
  refine lv_iload_n hx hb dL_addTrip_4 rfl (lv_at hl 1 rfl) ?_
  refine lv_iload_n hx hb dL_addTrip_5 rfl (lv_at hl 2 rfl) ?_
  refine lv_iload_n hx hb dL_addTrip_6 rfl (lv_at hl 3 rfl) ?_
  refine lv_iload hx hb dL_addTrip_7 (lv_at hl 4 rfl) ?_
  refine vx_calli (vx_runV (As := [.int a1, .int a2, .int a3, .int a4]) (rest := [.int 0, .ref qo]) ⟨hx, hb, hml, hown, hts⟩ (c_X5_addTrip l hst g ad ((qo, OutE cJ o) :: Y) _ sg a1 a2 a3 a4 k0 r0 s0 hf) (cwV 4 hts gl_L_17 rfl rfl rfl yd_X5_addTrip ⟨Nat.le_of_ble_eq_true rfl, Nat.le_of_ble_eq_true rfl⟩) (preVX_of hK hP hD hXF (dd_at (by decide) cc_30) rfl) rfl rfl hl.1 rfl (lv_room (Nat.le_of_ble_eq_true rfl)) dL_addTrip_9 ⟨Nat.le_of_ble_eq_true rfl, Nat.le_of_ble_eq_true rfl⟩) hS (fun q _ h => h) (fun q h => h) (fun q _ h => h) (fun E ce q9 u t H locs ht hvm hw hB hz hk9 hS hce hcv hcl => ?_) (fun r u t H locs ht hvm hw hB hz hk9 hS => ?_)
  · obtain ⟨hne, hE, hP⟩ := hB
    rw [ht] at hP
    rcases hk with hk | hk | hk | hk
    · exact absurd hk hne
    · subst hk
      subst hE
      refine vx_catch (own := RL) (name := x1) (E := x1) hown [] ⟨0, 14, 17, 13⟩ [⟨0, 14, 21, 15⟩, ⟨0, 14, 25, 21⟩] (by rw [htab]; rfl) (fun z hz => absurd hz List.not_mem_nil) (by decide) (by decide) (hts _ qw_465) (va_Nw.use rfl (hK.2 _ qw_464)) hce hcv hcl ?_
      refine lv_astore (lv' := [(6, .ref q9), (0, .ref (ad 30)), (1, .int a1), (2, .int a2), (3, .int a3), (4, .int a4), (5, .ref qo)]) hx hb dL_addTrip_17 hl (by decide) rfl (fun ls hl => ?_)
      refine lv_iconst (v := 1) hx hb dL_addTrip_19 (by decide) ?_
      exact W.iret (v := 1) hx hb hr (fun t ht hW => ⟨⟨1, (), rfl, rfl, P_at ht hP⟩, hS.F ht⟩) hS.2.2 dL_addTrip_20
    · subst hk
      subst hE
      refine vx_catch (own := RL) (name := x2) (E := x2) hown [⟨0, 14, 17, 13⟩] ⟨0, 14, 21, 15⟩ [⟨0, 14, 25, 21⟩] (by rw [htab]; rfl) (fun z hz => by rcases List.mem_singleton.mp hz with rfl; exact Or.inr ⟨by decide, x1, hts _ qw_465, hn1⟩) (by decide) (by decide) (hts _ qw_467) (va_Nw.use rfl (hK.2 _ qw_466)) hce hcv hcl ?_
      refine lv_astore (lv' := [(6, .ref q9), (0, .ref (ad 30)), (1, .int a1), (2, .int a2), (3, .int a3), (4, .int a4), (5, .ref qo)]) hx hb dL_addTrip_21 hl (by decide) rfl (fun ls hl => ?_)
      refine lv_iconst (v := 2) hx hb dL_addTrip_23 (by decide) ?_
      exact W.iret (v := 2) hx hb hr (fun t ht hW => ⟨⟨2, (), rfl, rfl, P_at ht hP⟩, hS.F ht⟩) hS.2.2 dL_addTrip_24
    · subst hk
      subst hE
      refine vx_catch (own := RL) (name := x3) (E := x3) hown [⟨0, 14, 17, 13⟩, ⟨0, 14, 21, 15⟩] ⟨0, 14, 25, 21⟩ [] (by rw [htab]; rfl) (fun z hz => by rcases List.mem_cons.mp hz with rfl | hz; exact Or.inr ⟨by decide, x1, hts _ qw_465, hn2⟩; rcases List.mem_singleton.mp hz with rfl; exact Or.inr ⟨by decide, x2, hts _ qw_467, hn3⟩) (by decide) (by decide) (hts _ qw_473) (va_Nw.use rfl (hK.2 _ qw_472)) hce hcv hcl ?_
      refine lv_astore (lv' := [(6, .ref q9), (0, .ref (ad 30)), (1, .int a1), (2, .int a2), (3, .int a3), (4, .int a4), (5, .ref qo)]) hx hb dL_addTrip_25 hl (by decide) rfl (fun ls hl => ?_)
      refine lv_iconst (v := 3) hx hb dL_addTrip_27 (by decide) ?_
      exact W.iret (v := 3) hx hb hr (fun t ht hW => ⟨⟨3, (), rfl, rfl, P_at ht hP⟩, hS.F ht⟩) hS.2.2 dL_addTrip_28
  · obtain ⟨rfl, rfl⟩ := hw
    rw [ht] at hB
    refine lv_i2l hx hb dL_addTrip_12 rfl ?_
    refine va_last hx hb hKJ hB (dd_D hD) hS 59 3 dd_first rfl (ix_in (i := 0) (n := 1) (by decide)) dL_addTrip_13 (fun H locs hP _ hS => ?_)
    rw [dd_firstset] at hP
    refine lv_goto (tgt := 29) hx hb dL_addTrip_14 (by decide) ?_
    refine lv_iconst (v := 0) hx hb dL_addTrip_29 (by decide) ?_
    exact W.iret (v := 0) hx hb hr (fun t ht hW => ⟨⟨0, (), rfl, rfl, P_at ht hP⟩, hS.F ht⟩) hS.2.2 dL_addTrip_30
set_option maxHeartbeats 4000000 in
set_option maxRecDepth 100000 in
theorem c_L_trip (l : Launch) (hst : l.stackTraces = false) (g : dd_G) (cJ : ClassId) (ad : Nat → Nat) (Y : va_W) (qo : Nat) (o : Nat → Int64) (sz : Nat) (sg : dd_S) (a1 : Int32) (a2 : Int32) (k0 : Nat) (r0 : Int32) (s0 : dd_S) (hf : f_X5_trip sg a1 a2 = some (k0, r0, s0)) (hk : k0 = 0 ∨ k0 = 1) : Met l yL_trip (lw_wsW yL_trip cL_trip 5 (some .int) [(0, 10, 13, 13)]) ({ frames := 7, cells := 1, slots := 6, locals := 104 } : Room) (va_Pc [.ref (ad 30), .int a1, .int a2, .ref qo] (PreL g cJ ad ((qo, OutE cJ o) :: Y) sg sz)) (QI g (WC g ad s0 ++ ((qo, OutE cJ (if k0 = 0 then vp_updL o 0 r0.toInt64 else o)) :: Y)) (dd_A 59 ad ((qo, OutE cJ o) :: Y) sz) (if k0 = 0 then 0 else 1)) 1 6 (dd_A 59 ad ((qo, OutE cJ o) :: Y) sz) := by
  refine va_MetW (cc := cL_trip) (maxL := 5) (ret := some .int) (hh := [(0, 10, 13, 13)]) (by decide) rfl ?_
  intro p e s m args below meth c s₁ B hml hv
  obtain ⟨rfl, ⟨⟨rfl, hP, hK, hD0⟩, hXF⟩, hKJ, hn1, hn2, hn3⟩ := hv
  have hx := B.exec
  have hb := B.bytes
  have hr := B.returns
  have hts := atoms_spec (ws := (lw_wsW yL_trip cL_trip 5 (some .int) [(0, 10, 13, 13)])) B.pre
  have htab := vx_table (x := yL_trip) B (hts _ List.mem_cons_self)
  have hts : ∀ w ∈ lw_all, w.before _ s = true := fun w h => hts w (List.mem_cons_of_mem _ h)
  have hown : s.vm.findClass RL = some m.cls := findClass_of_methodNamed B.named
  have hlocks := B.notSynchronized
  have hD : va_D (dd_A 59 ad ((qo, OutE cJ o) :: Y) s.heap.size) (WC g ad sg ++ ((qo, OutE cJ o) :: Y)) := dd_A_D hD0
  have hS : va_S (dd_A 59 ad ((qo, OutE cJ o) :: Y) s.heap.size) s.heap s.heap [] := va_S.rf
  have hl := lv_entry ([.ref (ad 30), .int a1, .int a2, .ref qo]) (n := 5) (Nat.le_of_ble_eq_true rfl)
  rw [lg_entry_eq]
  generalize (lg_sl ([.ref (ad 30), .int a1, .int a2, .ref qo]) ++ List.replicate (5 - (lg_sl ([.ref (ad 30), .int a1, .int a2, .ref qo])).length) Slot.unset).toArray = ls at hl ⊢
  have hl : lv_has ls 5 [(0, .ref (ad 30)), (1, .int a1), (2, .int a2), (3, .ref qo)] := hl
  refine lv_aload_n hx hb dL_trip_0 rfl (lv_at hl 3 rfl) ?_
  refine lv_iconst (v := 0) hx hb dL_trip_1 (by decide) ?_
  refine lv_aload_n hx hb dL_trip_2 rfl (lv_at hl 0 rfl) ?_
  refine lv_iload_n hx hb dL_trip_3 rfl (lv_at hl 1 rfl) ?_
  refine lv_iload_n hx hb dL_trip_4 rfl (lv_at hl 2 rfl) ?_
  refine vx_calli (vx_runV (As := [.int a1, .int a2]) (rest := [.int 0, .ref qo]) ⟨hx, hb, hml, hown, hts⟩ (c_X5_trip l hst g ad ((qo, OutE cJ o) :: Y) _ sg a1 a2 k0 r0 s0 hf) (cwV 2 hts gl_L_23 rfl rfl rfl yd_X5_trip ⟨Nat.le_of_ble_eq_true rfl, Nat.le_of_ble_eq_true rfl⟩) (preVX_of hK hP hD hXF (dd_at (by decide) cc_30) rfl) rfl rfl hl.1 rfl (lv_room (Nat.le_of_ble_eq_true rfl)) dL_trip_5 ⟨Nat.le_of_ble_eq_true rfl, Nat.le_of_ble_eq_true rfl⟩) hS (fun q _ h => h) (fun q h => h) (fun q _ h => h) (fun E ce q9 u t H locs ht hvm hw hB hz hk9 hS hce hcv hcl => ?_) (fun r u t H locs ht hvm hw hB hz hk9 hS => ?_)
  · obtain ⟨hne, hE, hP⟩ := hB
    rw [ht] at hP
    rcases hk with hk | hk
    · exact absurd hk hne
    · subst hk
      subst hE
      refine vx_catch (own := RL) (name := x1) (E := x1) hown [] ⟨0, 10, 13, 13⟩ [] (by rw [htab]; rfl) (fun z hz => absurd hz List.not_mem_nil) (by decide) (by decide) (hts _ qw_465) (va_Nw.use rfl (hK.2 _ qw_464)) hce hcv hcl ?_
      refine lv_astore (lv' := [(4, .ref q9), (0, .ref (ad 30)), (1, .int a1), (2, .int a2), (3, .ref qo)]) hx hb dL_trip_13 hl (by decide) rfl (fun ls hl => ?_)
      refine lv_iconst (v := 1) hx hb dL_trip_15 (by decide) ?_
      exact W.iret (v := 1) hx hb hr (fun t ht hW => ⟨⟨1, (), rfl, rfl, P_at ht hP⟩, hS.F ht⟩) hS.2.2 dL_trip_16
  · obtain ⟨rfl, rfl⟩ := hw
    rw [ht] at hB
    refine lv_i2l hx hb dL_trip_8 rfl ?_
    refine va_last hx hb hKJ hB (dd_D hD) hS 59 3 dd_first rfl (ix_in (i := 0) (n := 1) (by decide)) dL_trip_9 (fun H locs hP _ hS => ?_)
    rw [dd_firstset] at hP
    refine lv_goto (tgt := 17) hx hb dL_trip_10 (by decide) ?_
    refine lv_iconst (v := 0) hx hb dL_trip_17 (by decide) ?_
    exact W.iret (v := 0) hx hb hr (fun t ht hW => ⟨⟨0, (), rfl, rfl, P_at ht hP⟩, hS.F ht⟩) hS.2.2 dL_trip_18
set_option maxHeartbeats 4000000 in
set_option maxRecDepth 100000 in
theorem c_L_setRules (l : Launch) (hst : l.stackTraces = false) (g : dd_G) (cJ : ClassId) (ad : Nat → Nat) (Y : va_W) (qo : Nat) (o : Nat → Int64) (sz : Nat) (sg : dd_S) (a1 : Int32) (a2 : Int32) (a3 : Int32) (a4 : Int32) (k0 : Nat) (r0 : Int32) (s0 : dd_S) (hf : f_X5_setRules sg a1 a2 a3 a4 = some (k0, r0, s0)) (hk : k0 = 0 ∨ k0 = 2) : Met l yL_setRules (lw_wsW yL_setRules cL_setRules 7 (some .int) [(0, 14, 17, 15)]) ({ frames := 7, cells := 1, slots := 6, locals := 117 } : Room) (va_Pc [.ref (ad 30), .int a1, .int a2, .int a3, .int a4, .ref qo] (PreL g cJ ad ((qo, OutE cJ o) :: Y) sg sz)) (QI g (WC g ad s0 ++ ((qo, OutE cJ (if k0 = 0 then vp_updL o 0 r0.toInt64 else o)) :: Y)) (dd_A 59 ad ((qo, OutE cJ o) :: Y) sz) (if k0 = 0 then 0 else 1)) 1 6 (dd_A 59 ad ((qo, OutE cJ o) :: Y) sz) := by
  refine va_MetW (cc := cL_setRules) (maxL := 7) (ret := some .int) (hh := [(0, 14, 17, 15)]) (by decide) rfl ?_
  intro p e s m args below meth c s₁ B hml hv
  obtain ⟨rfl, ⟨⟨rfl, hP, hK, hD0⟩, hXF⟩, hKJ, hn1, hn2, hn3⟩ := hv
  have hx := B.exec
  have hb := B.bytes
  have hr := B.returns
  have hts := atoms_spec (ws := (lw_wsW yL_setRules cL_setRules 7 (some .int) [(0, 14, 17, 15)])) B.pre
  have htab := vx_table (x := yL_setRules) B (hts _ List.mem_cons_self)
  have hts : ∀ w ∈ lw_all, w.before _ s = true := fun w h => hts w (List.mem_cons_of_mem _ h)
  have hown : s.vm.findClass RL = some m.cls := findClass_of_methodNamed B.named
  have hlocks := B.notSynchronized
  have hD : va_D (dd_A 59 ad ((qo, OutE cJ o) :: Y) s.heap.size) (WC g ad sg ++ ((qo, OutE cJ o) :: Y)) := dd_A_D hD0
  have hS : va_S (dd_A 59 ad ((qo, OutE cJ o) :: Y) s.heap.size) s.heap s.heap [] := va_S.rf
  have hl := lv_entry ([.ref (ad 30), .int a1, .int a2, .int a3, .int a4, .ref qo]) (n := 7) (Nat.le_of_ble_eq_true rfl)
  rw [lg_entry_eq]
  generalize (lg_sl ([.ref (ad 30), .int a1, .int a2, .int a3, .int a4, .ref qo]) ++ List.replicate (7 - (lg_sl ([.ref (ad 30), .int a1, .int a2, .int a3, .int a4, .ref qo])).length) Slot.unset).toArray = ls at hl ⊢
  have hl : lv_has ls 7 [(0, .ref (ad 30)), (1, .int a1), (2, .int a2), (3, .int a3), (4, .int a4), (5, .ref qo)] := hl
  refine lv_aload hx hb dL_setRules_0 (lv_at hl 5 rfl) ?_
  refine lv_iconst (v := 0) hx hb dL_setRules_2 (by decide) ?_
  refine lv_aload_n hx hb dL_setRules_3 rfl (lv_at hl 0 rfl) ?_
  refine lv_iload_n hx hb dL_setRules_4 rfl (lv_at hl 1 rfl) ?_
  refine lv_iload_n hx hb dL_setRules_5 rfl (lv_at hl 2 rfl) ?_
  refine lv_iload_n hx hb dL_setRules_6 rfl (lv_at hl 3 rfl) ?_
  refine lv_iload hx hb dL_setRules_7 (lv_at hl 4 rfl) ?_
  refine vx_calli (vx_runV (As := [.int a1, .int a2, .int a3, .int a4]) (rest := [.int 0, .ref qo]) ⟨hx, hb, hml, hown, hts⟩ (c_X5_setRules l hst g ad ((qo, OutE cJ o) :: Y) _ sg a1 a2 a3 a4 k0 r0 s0 hf) (cwV 4 hts gl_L_27 rfl rfl rfl yd_X5_setRules ⟨Nat.le_of_ble_eq_true rfl, Nat.le_of_ble_eq_true rfl⟩) (preVX_of hK hP hD hXF (dd_at (by decide) cc_30) rfl) rfl rfl hl.1 rfl (lv_room (Nat.le_of_ble_eq_true rfl)) dL_setRules_9 ⟨Nat.le_of_ble_eq_true rfl, Nat.le_of_ble_eq_true rfl⟩) hS (fun q _ h => h) (fun q h => h) (fun q _ h => h) (fun E ce q9 u t H locs ht hvm hw hB hz hk9 hS hce hcv hcl => ?_) (fun r u t H locs ht hvm hw hB hz hk9 hS => ?_)
  · obtain ⟨hne, hE, hP⟩ := hB
    rw [ht] at hP
    rcases hk with hk | hk
    · exact absurd hk hne
    · subst hk
      subst hE
      refine vx_catch (own := RL) (name := x2) (E := x2) hown [] ⟨0, 14, 17, 15⟩ [] (by rw [htab]; rfl) (fun z hz => absurd hz List.not_mem_nil) (by decide) (by decide) (hts _ qw_467) (va_Nw.use rfl (hK.2 _ qw_466)) hce hcv hcl ?_
      refine lv_astore (lv' := [(6, .ref q9), (0, .ref (ad 30)), (1, .int a1), (2, .int a2), (3, .int a3), (4, .int a4), (5, .ref qo)]) hx hb dL_setRules_17 hl (by decide) rfl (fun ls hl => ?_)
      refine lv_iconst (v := 1) hx hb dL_setRules_19 (by decide) ?_
      exact W.iret (v := 1) hx hb hr (fun t ht hW => ⟨⟨1, (), rfl, rfl, P_at ht hP⟩, hS.F ht⟩) hS.2.2 dL_setRules_20
  · obtain ⟨rfl, rfl⟩ := hw
    rw [ht] at hB
    refine lv_i2l hx hb dL_setRules_12 rfl ?_
    refine va_last hx hb hKJ hB (dd_D hD) hS 59 3 dd_first rfl (ix_in (i := 0) (n := 1) (by decide)) dL_setRules_13 (fun H locs hP _ hS => ?_)
    rw [dd_firstset] at hP
    refine lv_goto (tgt := 21) hx hb dL_setRules_14 (by decide) ?_
    refine lv_iconst (v := 0) hx hb dL_setRules_21 (by decide) ?_
    exact W.iret (v := 0) hx hb hr (fun t ht hW => ⟨⟨0, (), rfl, rfl, P_at ht hP⟩, hS.F ht⟩) hS.2.2 dL_setRules_22
set_option maxHeartbeats 4000000 in
set_option maxRecDepth 100000 in
theorem c_L_count (l : Launch) (hst : l.stackTraces = false) (g : dd_G) (cJ : ClassId) (ad : Nat → Nat) (Y : va_W) (qo : Nat) (o : Nat → Int64) (sz : Nat) (sg : dd_S) (a1 : Int32) (k0 : Nat) (r0 : Int32) (s0 : dd_S) (hf : f_X5_count sg a1 = some (k0, r0, s0)) (hk : k0 = 0 ∨ k0 = 1) : Met l yL_count (lw_wsW yL_count cL_count 4 (some .int) [(0, 9, 12, 13)]) ({ frames := 7, cells := 1, slots := 6, locals := 103 } : Room) (va_Pc [.ref (ad 30), .int a1, .ref qo] (PreL g cJ ad ((qo, OutE cJ o) :: Y) sg sz)) (QI g (WC g ad s0 ++ ((qo, OutE cJ (if k0 = 0 then vp_updL o 0 r0.toInt64 else o)) :: Y)) (dd_A 59 ad ((qo, OutE cJ o) :: Y) sz) (if k0 = 0 then 0 else 1)) 1 6 (dd_A 59 ad ((qo, OutE cJ o) :: Y) sz) := by
  refine va_MetW (cc := cL_count) (maxL := 4) (ret := some .int) (hh := [(0, 9, 12, 13)]) (by decide) rfl ?_
  intro p e s m args below meth c s₁ B hml hv
  obtain ⟨rfl, ⟨⟨rfl, hP, hK, hD0⟩, hXF⟩, hKJ, hn1, hn2, hn3⟩ := hv
  have hx := B.exec
  have hb := B.bytes
  have hr := B.returns
  have hts := atoms_spec (ws := (lw_wsW yL_count cL_count 4 (some .int) [(0, 9, 12, 13)])) B.pre
  have htab := vx_table (x := yL_count) B (hts _ List.mem_cons_self)
  have hts : ∀ w ∈ lw_all, w.before _ s = true := fun w h => hts w (List.mem_cons_of_mem _ h)
  have hown : s.vm.findClass RL = some m.cls := findClass_of_methodNamed B.named
  have hlocks := B.notSynchronized
  have hD : va_D (dd_A 59 ad ((qo, OutE cJ o) :: Y) s.heap.size) (WC g ad sg ++ ((qo, OutE cJ o) :: Y)) := dd_A_D hD0
  have hS : va_S (dd_A 59 ad ((qo, OutE cJ o) :: Y) s.heap.size) s.heap s.heap [] := va_S.rf
  have hl := lv_entry ([.ref (ad 30), .int a1, .ref qo]) (n := 4) (Nat.le_of_ble_eq_true rfl)
  rw [lg_entry_eq]
  generalize (lg_sl ([.ref (ad 30), .int a1, .ref qo]) ++ List.replicate (4 - (lg_sl ([.ref (ad 30), .int a1, .ref qo])).length) Slot.unset).toArray = ls at hl ⊢
  have hl : lv_has ls 4 [(0, .ref (ad 30)), (1, .int a1), (2, .ref qo)] := hl
  refine lv_aload_n hx hb dL_count_0 rfl (lv_at hl 2 rfl) ?_
  refine lv_iconst (v := 0) hx hb dL_count_1 (by decide) ?_
  refine lv_aload_n hx hb dL_count_2 rfl (lv_at hl 0 rfl) ?_
  refine lv_iload_n hx hb dL_count_3 rfl (lv_at hl 1 rfl) ?_
  refine vx_calli (vx_runV (As := [.int a1]) (rest := [.int 0, .ref qo]) ⟨hx, hb, hml, hown, hts⟩ (c_X5_count l hst g ad ((qo, OutE cJ o) :: Y) _ sg a1 k0 r0 s0 hf) (cwV 1 hts gl_L_30 rfl rfl rfl yd_X5_count ⟨Nat.le_of_ble_eq_true rfl, Nat.le_of_ble_eq_true rfl⟩) (preVX_of hK hP hD hXF (dd_at (by decide) cc_30) rfl) rfl rfl hl.1 rfl (lv_room (Nat.le_of_ble_eq_true rfl)) dL_count_4 ⟨Nat.le_of_ble_eq_true rfl, Nat.le_of_ble_eq_true rfl⟩) hS (fun q _ h => h) (fun q h => h) (fun q _ h => h) (fun E ce q9 u t H locs ht hvm hw hB hz hk9 hS hce hcv hcl => ?_) (fun r u t H locs ht hvm hw hB hz hk9 hS => ?_)
  · obtain ⟨hne, hE, hP⟩ := hB
    rw [ht] at hP
    rcases hk with hk | hk
    · exact absurd hk hne
    · subst hk
      subst hE
      refine vx_catch (own := RL) (name := x1) (E := x1) hown [] ⟨0, 9, 12, 13⟩ [] (by rw [htab]; rfl) (fun z hz => absurd hz List.not_mem_nil) (by decide) (by decide) (hts _ qw_465) (va_Nw.use rfl (hK.2 _ qw_464)) hce hcv hcl ?_
      refine lv_astore_n (lv' := [(3, .ref q9), (0, .ref (ad 30)), (1, .int a1), (2, .ref qo)]) hx hb dL_count_12 rfl hl (by decide) rfl (fun ls hl => ?_)
      refine lv_iconst (v := 1) hx hb dL_count_13 (by decide) ?_
      exact W.iret (v := 1) hx hb hr (fun t ht hW => ⟨⟨1, (), rfl, rfl, P_at ht hP⟩, hS.F ht⟩) hS.2.2 dL_count_14
  · obtain ⟨rfl, rfl⟩ := hw
    rw [ht] at hB
    refine lv_i2l hx hb dL_count_7 rfl ?_
    refine va_last hx hb hKJ hB (dd_D hD) hS 59 3 dd_first rfl (ix_in (i := 0) (n := 1) (by decide)) dL_count_8 (fun H locs hP _ hS => ?_)
    rw [dd_firstset] at hP
    refine lv_goto (tgt := 15) hx hb dL_count_9 (by decide) ?_
    refine lv_iconst (v := 0) hx hb dL_count_15 (by decide) ?_
    exact W.iret (v := 0) hx hb hr (fun t ht hW => ⟨⟨0, (), rfl, rfl, P_at ht hP⟩, hS.F ht⟩) hS.2.2 dL_count_16
set_option maxHeartbeats 4000000 in
set_option maxRecDepth 100000 in
theorem c_L_addDuty (l : Launch) (hst : l.stackTraces = false) (g : dd_G) (cJ : ClassId) (ad : Nat → Nat) (Y : va_W) (qo : Nat) (o : Nat → Int64) (sz : Nat) (sg : dd_S) (k0 : Nat) (r0 : Int32) (s0 : dd_S) (hf : f_X5_addDuty sg = some (k0, r0, s0)) (hk : k0 = 0 ∨ k0 = 3) : Met l yL_addDuty (lw_wsW yL_addDuty cL_addDuty 3 (some .int) [(0, 8, 11, 21)]) ({ frames := 7, cells := 1, slots := 6, locals := 102 } : Room) (va_Pc [.ref (ad 30), .ref qo] (PreL g cJ ad ((qo, OutE cJ o) :: Y) sg sz)) (QI g (WC g ad s0 ++ ((qo, OutE cJ (if k0 = 0 then vp_updL o 0 r0.toInt64 else o)) :: Y)) (dd_A 59 ad ((qo, OutE cJ o) :: Y) sz) (if k0 = 0 then 0 else 1)) 1 6 (dd_A 59 ad ((qo, OutE cJ o) :: Y) sz) := by
  refine va_MetW (cc := cL_addDuty) (maxL := 3) (ret := some .int) (hh := [(0, 8, 11, 21)]) (by decide) rfl ?_
  intro p e s m args below meth c s₁ B hml hv
  obtain ⟨rfl, ⟨⟨rfl, hP, hK, hD0⟩, hXF⟩, hKJ, hn1, hn2, hn3⟩ := hv
  have hx := B.exec
  have hb := B.bytes
  have hr := B.returns
  have hts := atoms_spec (ws := (lw_wsW yL_addDuty cL_addDuty 3 (some .int) [(0, 8, 11, 21)])) B.pre
  have htab := vx_table (x := yL_addDuty) B (hts _ List.mem_cons_self)
  have hts : ∀ w ∈ lw_all, w.before _ s = true := fun w h => hts w (List.mem_cons_of_mem _ h)
  have hown : s.vm.findClass RL = some m.cls := findClass_of_methodNamed B.named
  have hlocks := B.notSynchronized
  have hD : va_D (dd_A 59 ad ((qo, OutE cJ o) :: Y) s.heap.size) (WC g ad sg ++ ((qo, OutE cJ o) :: Y)) := dd_A_D hD0
  have hS : va_S (dd_A 59 ad ((qo, OutE cJ o) :: Y) s.heap.size) s.heap s.heap [] := va_S.rf
  have hl := lv_entry ([.ref (ad 30), .ref qo]) (n := 3) (Nat.le_of_ble_eq_true rfl)
  rw [lg_entry_eq]
  generalize (lg_sl ([.ref (ad 30), .ref qo]) ++ List.replicate (3 - (lg_sl ([.ref (ad 30), .ref qo])).length) Slot.unset).toArray = ls at hl ⊢
  have hl : lv_has ls 3 [(0, .ref (ad 30)), (1, .ref qo)] := hl
  refine lv_aload_n hx hb dL_addDuty_0 rfl (lv_at hl 1 rfl) ?_
  refine lv_iconst (v := 0) hx hb dL_addDuty_1 (by decide) ?_
  refine lv_aload_n hx hb dL_addDuty_2 rfl (lv_at hl 0 rfl) ?_
  refine vx_calli (vx_runV (As := []) (rest := [.int 0, .ref qo]) ⟨hx, hb, hml, hown, hts⟩ (c_X5_addDuty l hst g ad ((qo, OutE cJ o) :: Y) _ sg k0 r0 s0 hf) (cwV 0 hts gl_L_34 rfl rfl rfl yd_X5_addDuty ⟨Nat.le_of_ble_eq_true rfl, Nat.le_of_ble_eq_true rfl⟩) (preVX_of hK hP hD hXF (dd_at (by decide) cc_30) rfl) rfl rfl hl.1 rfl (lv_room (Nat.le_of_ble_eq_true rfl)) dL_addDuty_3 ⟨Nat.le_of_ble_eq_true rfl, Nat.le_of_ble_eq_true rfl⟩) hS (fun q _ h => h) (fun q h => h) (fun q _ h => h) (fun E ce q9 u t H locs ht hvm hw hB hz hk9 hS hce hcv hcl => ?_) (fun r u t H locs ht hvm hw hB hz hk9 hS => ?_)
  · obtain ⟨hne, hE, hP⟩ := hB
    rw [ht] at hP
    rcases hk with hk | hk
    · exact absurd hk hne
    · subst hk
      subst hE
      refine vx_catch (own := RL) (name := x3) (E := x3) hown [] ⟨0, 8, 11, 21⟩ [] (by rw [htab]; rfl) (fun z hz => absurd hz List.not_mem_nil) (by decide) (by decide) (hts _ qw_473) (va_Nw.use rfl (hK.2 _ qw_472)) hce hcv hcl ?_
      refine lv_astore_n (lv' := [(2, .ref q9), (0, .ref (ad 30)), (1, .ref qo)]) hx hb dL_addDuty_11 rfl hl (by decide) rfl (fun ls hl => ?_)
      refine lv_iconst (v := 1) hx hb dL_addDuty_12 (by decide) ?_
      exact W.iret (v := 1) hx hb hr (fun t ht hW => ⟨⟨1, (), rfl, rfl, P_at ht hP⟩, hS.F ht⟩) hS.2.2 dL_addDuty_13
  · obtain ⟨rfl, rfl⟩ := hw
    rw [ht] at hB
    refine lv_i2l hx hb dL_addDuty_6 rfl ?_
    refine va_last hx hb hKJ hB (dd_D hD) hS 59 3 dd_first rfl (ix_in (i := 0) (n := 1) (by decide)) dL_addDuty_7 (fun H locs hP _ hS => ?_)
    rw [dd_firstset] at hP
    refine lv_goto (tgt := 14) hx hb dL_addDuty_8 (by decide) ?_
    refine lv_iconst (v := 0) hx hb dL_addDuty_14 (by decide) ?_
    exact W.iret (v := 0) hx hb hr (fun t ht hW => ⟨⟨0, (), rfl, rfl, P_at ht hP⟩, hS.F ht⟩) hS.2.2 dL_addDuty_15
set_option maxHeartbeats 4000000 in
set_option maxRecDepth 100000 in
theorem c_L_put (l : Launch) (hst : l.stackTraces = false) (g : dd_G) (cJ : ClassId) (ad : Nat → Nat) (Y : va_W) (qo : Nat) (o : Nat → Int64) (sz : Nat) (sg : dd_S) (a1 : Int32) (a2 : Int32) (k0 : Nat) (r0 : Int32) (s0 : dd_S) (hf : f_X5_put sg a1 a2 = some (k0, r0, s0)) (hk : k0 = 0 ∨ k0 = 1 ∨ k0 = 3) : Met l yL_put (lw_wsW yL_put cL_put 5 (some .int) [(0, 10, 13, 13), (0, 10, 17, 21)]) ({ frames := 7, cells := 1, slots := 6, locals := 116 } : Room) (va_Pc [.ref (ad 30), .int a1, .int a2, .ref qo] (PreL g cJ ad ((qo, OutE cJ o) :: Y) sg sz)) (QI g (WC g ad s0 ++ ((qo, OutE cJ (if k0 = 0 then vp_updL o 0 r0.toInt64 else o)) :: Y)) (dd_A 59 ad ((qo, OutE cJ o) :: Y) sz) (if k0 = 0 then 0 else if k0 = 1 then 1 else 2)) 1 6 (dd_A 59 ad ((qo, OutE cJ o) :: Y) sz) := by
  refine va_MetW (cc := cL_put) (maxL := 5) (ret := some .int) (hh := [(0, 10, 13, 13), (0, 10, 17, 21)]) (by decide) rfl ?_
  intro p e s m args below meth c s₁ B hml hv
  obtain ⟨rfl, ⟨⟨rfl, hP, hK, hD0⟩, hXF⟩, hKJ, hn1, hn2, hn3⟩ := hv
  have hx := B.exec
  have hb := B.bytes
  have hr := B.returns
  have hts := atoms_spec (ws := (lw_wsW yL_put cL_put 5 (some .int) [(0, 10, 13, 13), (0, 10, 17, 21)])) B.pre
  have htab := vx_table (x := yL_put) B (hts _ List.mem_cons_self)
  have hts : ∀ w ∈ lw_all, w.before _ s = true := fun w h => hts w (List.mem_cons_of_mem _ h)
  have hown : s.vm.findClass RL = some m.cls := findClass_of_methodNamed B.named
  have hlocks := B.notSynchronized
  have hD : va_D (dd_A 59 ad ((qo, OutE cJ o) :: Y) s.heap.size) (WC g ad sg ++ ((qo, OutE cJ o) :: Y)) := dd_A_D hD0
  have hS : va_S (dd_A 59 ad ((qo, OutE cJ o) :: Y) s.heap.size) s.heap s.heap [] := va_S.rf
  have hl := lv_entry ([.ref (ad 30), .int a1, .int a2, .ref qo]) (n := 5) (Nat.le_of_ble_eq_true rfl)
  rw [lg_entry_eq]
  generalize (lg_sl ([.ref (ad 30), .int a1, .int a2, .ref qo]) ++ List.replicate (5 - (lg_sl ([.ref (ad 30), .int a1, .int a2, .ref qo])).length) Slot.unset).toArray = ls at hl ⊢
  have hl : lv_has ls 5 [(0, .ref (ad 30)), (1, .int a1), (2, .int a2), (3, .ref qo)] := hl
  refine lv_aload_n hx hb dL_put_0 rfl (lv_at hl 3 rfl) ?_
  refine lv_iconst (v := 0) hx hb dL_put_1 (by decide) ?_
  refine lv_aload_n hx hb dL_put_2 rfl (lv_at hl 0 rfl) ?_
  refine lv_iload_n hx hb dL_put_3 rfl (lv_at hl 1 rfl) ?_
  refine lv_iload_n hx hb dL_put_4 rfl (lv_at hl 2 rfl) ?_
  refine vx_calli (vx_runV (As := [.int a1, .int a2]) (rest := [.int 0, .ref qo]) ⟨hx, hb, hml, hown, hts⟩ (c_X5_put l hst g ad ((qo, OutE cJ o) :: Y) _ sg a1 a2 k0 r0 s0 hf) (cwV 2 hts gl_L_38 rfl rfl rfl yd_X5_put ⟨Nat.le_of_ble_eq_true rfl, Nat.le_of_ble_eq_true rfl⟩) (preVX_of hK hP hD hXF (dd_at (by decide) cc_30) rfl) rfl rfl hl.1 rfl (lv_room (Nat.le_of_ble_eq_true rfl)) dL_put_5 ⟨Nat.le_of_ble_eq_true rfl, Nat.le_of_ble_eq_true rfl⟩) hS (fun q _ h => h) (fun q h => h) (fun q _ h => h) (fun E ce q9 u t H locs ht hvm hw hB hz hk9 hS hce hcv hcl => ?_) (fun r u t H locs ht hvm hw hB hz hk9 hS => ?_)
  · obtain ⟨hne, hE, hP⟩ := hB
    rw [ht] at hP
    rcases hk with hk | hk | hk
    · exact absurd hk hne
    · subst hk
      subst hE
      refine vx_catch (own := RL) (name := x1) (E := x1) hown [] ⟨0, 10, 13, 13⟩ [⟨0, 10, 17, 21⟩] (by rw [htab]; rfl) (fun z hz => absurd hz List.not_mem_nil) (by decide) (by decide) (hts _ qw_465) (va_Nw.use rfl (hK.2 _ qw_464)) hce hcv hcl ?_
      refine lv_astore (lv' := [(4, .ref q9), (0, .ref (ad 30)), (1, .int a1), (2, .int a2), (3, .ref qo)]) hx hb dL_put_13 hl (by decide) rfl (fun ls hl => ?_)
      refine lv_iconst (v := 1) hx hb dL_put_15 (by decide) ?_
      exact W.iret (v := 1) hx hb hr (fun t ht hW => ⟨⟨1, (), rfl, rfl, P_at ht hP⟩, hS.F ht⟩) hS.2.2 dL_put_16
    · subst hk
      subst hE
      refine vx_catch (own := RL) (name := x3) (E := x3) hown [⟨0, 10, 13, 13⟩] ⟨0, 10, 17, 21⟩ [] (by rw [htab]; rfl) (fun z hz => by rcases List.mem_singleton.mp hz with rfl; exact Or.inr ⟨by decide, x1, hts _ qw_465, hn2⟩) (by decide) (by decide) (hts _ qw_473) (va_Nw.use rfl (hK.2 _ qw_472)) hce hcv hcl ?_
      refine lv_astore (lv' := [(4, .ref q9), (0, .ref (ad 30)), (1, .int a1), (2, .int a2), (3, .ref qo)]) hx hb dL_put_17 hl (by decide) rfl (fun ls hl => ?_)
      refine lv_iconst (v := 2) hx hb dL_put_19 (by decide) ?_
      exact W.iret (v := 2) hx hb hr (fun t ht hW => ⟨⟨2, (), rfl, rfl, P_at ht hP⟩, hS.F ht⟩) hS.2.2 dL_put_20
  · obtain ⟨rfl, rfl⟩ := hw
    rw [ht] at hB
    refine lv_i2l hx hb dL_put_8 rfl ?_
    refine va_last hx hb hKJ hB (dd_D hD) hS 59 3 dd_first rfl (ix_in (i := 0) (n := 1) (by decide)) dL_put_9 (fun H locs hP _ hS => ?_)
    rw [dd_firstset] at hP
    refine lv_goto (tgt := 21) hx hb dL_put_10 (by decide) ?_
    refine lv_iconst (v := 0) hx hb dL_put_21 (by decide) ?_
    exact W.iret (v := 0) hx hb hr (fun t ht hW => ⟨⟨0, (), rfl, rfl, P_at ht hP⟩, hS.F ht⟩) hS.2.2 dL_put_22
set_option maxHeartbeats 4000000 in
set_option maxRecDepth 100000 in
theorem c_L_takeOut (l : Launch) (hst : l.stackTraces = false) (g : dd_G) (cJ : ClassId) (ad : Nat → Nat) (Y : va_W) (qo : Nat) (o : Nat → Int64) (sz : Nat) (sg : dd_S) (a1 : Int32) (k0 : Nat) (r0 : Int32) (s0 : dd_S) (hf : f_X5_takeOut sg a1 = some (k0, r0, s0)) (hk : k0 = 0 ∨ k0 = 1 ∨ k0 = 3) : Met l yL_takeOut (lw_wsW yL_takeOut cL_takeOut 4 (some .int) [(0, 9, 12, 13), (0, 9, 15, 21)]) ({ frames := 7, cells := 1, slots := 6, locals := 116 } : Room) (va_Pc [.ref (ad 30), .int a1, .ref qo] (PreL g cJ ad ((qo, OutE cJ o) :: Y) sg sz)) (QI g (WC g ad s0 ++ ((qo, OutE cJ (if k0 = 0 then vp_updL o 0 r0.toInt64 else o)) :: Y)) (dd_A 59 ad ((qo, OutE cJ o) :: Y) sz) (if k0 = 0 then 0 else if k0 = 1 then 1 else 2)) 1 6 (dd_A 59 ad ((qo, OutE cJ o) :: Y) sz) := by
  refine va_MetW (cc := cL_takeOut) (maxL := 4) (ret := some .int) (hh := [(0, 9, 12, 13), (0, 9, 15, 21)]) (by decide) rfl ?_
  intro p e s m args below meth c s₁ B hml hv
  obtain ⟨rfl, ⟨⟨rfl, hP, hK, hD0⟩, hXF⟩, hKJ, hn1, hn2, hn3⟩ := hv
  have hx := B.exec
  have hb := B.bytes
  have hr := B.returns
  have hts := atoms_spec (ws := (lw_wsW yL_takeOut cL_takeOut 4 (some .int) [(0, 9, 12, 13), (0, 9, 15, 21)])) B.pre
  have htab := vx_table (x := yL_takeOut) B (hts _ List.mem_cons_self)
  have hts : ∀ w ∈ lw_all, w.before _ s = true := fun w h => hts w (List.mem_cons_of_mem _ h)
  have hown : s.vm.findClass RL = some m.cls := findClass_of_methodNamed B.named
  have hlocks := B.notSynchronized
  have hD : va_D (dd_A 59 ad ((qo, OutE cJ o) :: Y) s.heap.size) (WC g ad sg ++ ((qo, OutE cJ o) :: Y)) := dd_A_D hD0
  have hS : va_S (dd_A 59 ad ((qo, OutE cJ o) :: Y) s.heap.size) s.heap s.heap [] := va_S.rf
  have hl := lv_entry ([.ref (ad 30), .int a1, .ref qo]) (n := 4) (Nat.le_of_ble_eq_true rfl)
  rw [lg_entry_eq]
  generalize (lg_sl ([.ref (ad 30), .int a1, .ref qo]) ++ List.replicate (4 - (lg_sl ([.ref (ad 30), .int a1, .ref qo])).length) Slot.unset).toArray = ls at hl ⊢
  have hl : lv_has ls 4 [(0, .ref (ad 30)), (1, .int a1), (2, .ref qo)] := hl
  refine lv_aload_n hx hb dL_takeOut_0 rfl (lv_at hl 2 rfl) ?_
  refine lv_iconst (v := 0) hx hb dL_takeOut_1 (by decide) ?_
  refine lv_aload_n hx hb dL_takeOut_2 rfl (lv_at hl 0 rfl) ?_
  refine lv_iload_n hx hb dL_takeOut_3 rfl (lv_at hl 1 rfl) ?_
  refine vx_calli (vx_runV (As := [.int a1]) (rest := [.int 0, .ref qo]) ⟨hx, hb, hml, hown, hts⟩ (c_X5_takeOut l hst g ad ((qo, OutE cJ o) :: Y) _ sg a1 k0 r0 s0 hf) (cwV 1 hts gl_L_41 rfl rfl rfl yd_X5_takeOut ⟨Nat.le_of_ble_eq_true rfl, Nat.le_of_ble_eq_true rfl⟩) (preVX_of hK hP hD hXF (dd_at (by decide) cc_30) rfl) rfl rfl hl.1 rfl (lv_room (Nat.le_of_ble_eq_true rfl)) dL_takeOut_4 ⟨Nat.le_of_ble_eq_true rfl, Nat.le_of_ble_eq_true rfl⟩) hS (fun q _ h => h) (fun q h => h) (fun q _ h => h) (fun E ce q9 u t H locs ht hvm hw hB hz hk9 hS hce hcv hcl => ?_) (fun r u t H locs ht hvm hw hB hz hk9 hS => ?_)
  · obtain ⟨hne, hE, hP⟩ := hB
    rw [ht] at hP
    rcases hk with hk | hk | hk
    · exact absurd hk hne
    · subst hk
      subst hE
      refine vx_catch (own := RL) (name := x1) (E := x1) hown [] ⟨0, 9, 12, 13⟩ [⟨0, 9, 15, 21⟩] (by rw [htab]; rfl) (fun z hz => absurd hz List.not_mem_nil) (by decide) (by decide) (hts _ qw_465) (va_Nw.use rfl (hK.2 _ qw_464)) hce hcv hcl ?_
      refine lv_astore_n (lv' := [(3, .ref q9), (0, .ref (ad 30)), (1, .int a1), (2, .ref qo)]) hx hb dL_takeOut_12 rfl hl (by decide) rfl (fun ls hl => ?_)
      refine lv_iconst (v := 1) hx hb dL_takeOut_13 (by decide) ?_
      exact W.iret (v := 1) hx hb hr (fun t ht hW => ⟨⟨1, (), rfl, rfl, P_at ht hP⟩, hS.F ht⟩) hS.2.2 dL_takeOut_14
    · subst hk
      subst hE
      refine vx_catch (own := RL) (name := x3) (E := x3) hown [⟨0, 9, 12, 13⟩] ⟨0, 9, 15, 21⟩ [] (by rw [htab]; rfl) (fun z hz => by rcases List.mem_singleton.mp hz with rfl; exact Or.inr ⟨by decide, x1, hts _ qw_465, hn2⟩) (by decide) (by decide) (hts _ qw_473) (va_Nw.use rfl (hK.2 _ qw_472)) hce hcv hcl ?_
      refine lv_astore_n (lv' := [(3, .ref q9), (0, .ref (ad 30)), (1, .int a1), (2, .ref qo)]) hx hb dL_takeOut_15 rfl hl (by decide) rfl (fun ls hl => ?_)
      refine lv_iconst (v := 2) hx hb dL_takeOut_16 (by decide) ?_
      exact W.iret (v := 2) hx hb hr (fun t ht hW => ⟨⟨2, (), rfl, rfl, P_at ht hP⟩, hS.F ht⟩) hS.2.2 dL_takeOut_17
  · obtain ⟨rfl, rfl⟩ := hw
    rw [ht] at hB
    refine lv_i2l hx hb dL_takeOut_7 rfl ?_
    refine va_last hx hb hKJ hB (dd_D hD) hS 59 3 dd_first rfl (ix_in (i := 0) (n := 1) (by decide)) dL_takeOut_8 (fun H locs hP _ hS => ?_)
    rw [dd_firstset] at hP
    refine lv_goto (tgt := 18) hx hb dL_takeOut_9 (by decide) ?_
    refine lv_iconst (v := 0) hx hb dL_takeOut_18 (by decide) ?_
    exact W.iret (v := 0) hx hb hr (fun t ht hW => ⟨⟨0, (), rfl, rfl, P_at ht hP⟩, hS.F ht⟩) hS.2.2 dL_takeOut_19
set_option maxHeartbeats 4000000 in
set_option maxRecDepth 100000 in
theorem c_L_duty (l : Launch) (hst : l.stackTraces = false) (g : dd_G) (cJ : ClassId) (ad : Nat → Nat) (Y : va_W) (qo : Nat) (o : Nat → Int64) (sz : Nat) (sg : dd_S) (a1 : Int32) (a2 : Int32) (k0 : Nat) (r0 : Int32) (s0 : dd_S) (hf : f_X5_duty sg a1 a2 = some (k0, r0, s0)) (hk : k0 = 0 ∨ k0 = 1) : Met l yL_duty (lw_wsW yL_duty cL_duty 5 (some .int) [(0, 10, 13, 13)]) ({ frames := 7, cells := 1, slots := 6, locals := 112 } : Room) (va_Pc [.ref (ad 30), .int a1, .int a2, .ref qo] (PreL g cJ ad ((qo, OutE cJ o) :: Y) sg sz)) (QI g (WC g ad s0 ++ ((qo, OutE cJ (if k0 = 0 then vp_updL o 0 r0.toInt64 else o)) :: Y)) (dd_A 59 ad ((qo, OutE cJ o) :: Y) sz) (if k0 = 0 then 0 else 1)) 1 6 (dd_A 59 ad ((qo, OutE cJ o) :: Y) sz) := by
  refine va_MetW (cc := cL_duty) (maxL := 5) (ret := some .int) (hh := [(0, 10, 13, 13)]) (by decide) rfl ?_
  intro p e s m args below meth c s₁ B hml hv
  obtain ⟨rfl, ⟨⟨rfl, hP, hK, hD0⟩, hXF⟩, hKJ, hn1, hn2, hn3⟩ := hv
  have hx := B.exec
  have hb := B.bytes
  have hr := B.returns
  have hts := atoms_spec (ws := (lw_wsW yL_duty cL_duty 5 (some .int) [(0, 10, 13, 13)])) B.pre
  have htab := vx_table (x := yL_duty) B (hts _ List.mem_cons_self)
  have hts : ∀ w ∈ lw_all, w.before _ s = true := fun w h => hts w (List.mem_cons_of_mem _ h)
  have hown : s.vm.findClass RL = some m.cls := findClass_of_methodNamed B.named
  have hlocks := B.notSynchronized
  have hD : va_D (dd_A 59 ad ((qo, OutE cJ o) :: Y) s.heap.size) (WC g ad sg ++ ((qo, OutE cJ o) :: Y)) := dd_A_D hD0
  have hS : va_S (dd_A 59 ad ((qo, OutE cJ o) :: Y) s.heap.size) s.heap s.heap [] := va_S.rf
  have hl := lv_entry ([.ref (ad 30), .int a1, .int a2, .ref qo]) (n := 5) (Nat.le_of_ble_eq_true rfl)
  rw [lg_entry_eq]
  generalize (lg_sl ([.ref (ad 30), .int a1, .int a2, .ref qo]) ++ List.replicate (5 - (lg_sl ([.ref (ad 30), .int a1, .int a2, .ref qo])).length) Slot.unset).toArray = ls at hl ⊢
  have hl : lv_has ls 5 [(0, .ref (ad 30)), (1, .int a1), (2, .int a2), (3, .ref qo)] := hl
  refine lv_aload_n hx hb dL_duty_0 rfl (lv_at hl 3 rfl) ?_
  refine lv_iconst (v := 0) hx hb dL_duty_1 (by decide) ?_
  refine lv_aload_n hx hb dL_duty_2 rfl (lv_at hl 0 rfl) ?_
  refine lv_iload_n hx hb dL_duty_3 rfl (lv_at hl 1 rfl) ?_
  refine lv_iload_n hx hb dL_duty_4 rfl (lv_at hl 2 rfl) ?_
  refine vx_calli (vx_runV (As := [.int a1, .int a2]) (rest := [.int 0, .ref qo]) ⟨hx, hb, hml, hown, hts⟩ (c_X5_duty l hst g ad ((qo, OutE cJ o) :: Y) _ sg a1 a2 k0 r0 s0 hf) (cwV 2 hts gl_L_44 rfl rfl rfl yd_X5_duty ⟨Nat.le_of_ble_eq_true rfl, Nat.le_of_ble_eq_true rfl⟩) (preVX_of hK hP hD hXF (dd_at (by decide) cc_30) rfl) rfl rfl hl.1 rfl (lv_room (Nat.le_of_ble_eq_true rfl)) dL_duty_5 ⟨Nat.le_of_ble_eq_true rfl, Nat.le_of_ble_eq_true rfl⟩) hS (fun q _ h => h) (fun q h => h) (fun q _ h => h) (fun E ce q9 u t H locs ht hvm hw hB hz hk9 hS hce hcv hcl => ?_) (fun r u t H locs ht hvm hw hB hz hk9 hS => ?_)
  · obtain ⟨hne, hE, hP⟩ := hB
    rw [ht] at hP
    rcases hk with hk | hk
    · exact absurd hk hne
    · subst hk
      subst hE
      refine vx_catch (own := RL) (name := x1) (E := x1) hown [] ⟨0, 10, 13, 13⟩ [] (by rw [htab]; rfl) (fun z hz => absurd hz List.not_mem_nil) (by decide) (by decide) (hts _ qw_465) (va_Nw.use rfl (hK.2 _ qw_464)) hce hcv hcl ?_
      refine lv_astore (lv' := [(4, .ref q9), (0, .ref (ad 30)), (1, .int a1), (2, .int a2), (3, .ref qo)]) hx hb dL_duty_13 hl (by decide) rfl (fun ls hl => ?_)
      refine lv_iconst (v := 1) hx hb dL_duty_15 (by decide) ?_
      exact W.iret (v := 1) hx hb hr (fun t ht hW => ⟨⟨1, (), rfl, rfl, P_at ht hP⟩, hS.F ht⟩) hS.2.2 dL_duty_16
  · obtain ⟨rfl, rfl⟩ := hw
    rw [ht] at hB
    refine lv_i2l hx hb dL_duty_8 rfl ?_
    refine va_last hx hb hKJ hB (dd_D hD) hS 59 3 dd_first rfl (ix_in (i := 0) (n := 1) (by decide)) dL_duty_9 (fun H locs hP _ hS => ?_)
    rw [dd_firstset] at hP
    refine lv_goto (tgt := 17) hx hb dL_duty_10 (by decide) ?_
    refine lv_iconst (v := 0) hx hb dL_duty_17 (by decide) ?_
    exact W.iret (v := 0) hx hb hr (fun t ht hW => ⟨⟨0, (), rfl, rfl, P_at ht hP⟩, hS.F ht⟩) hS.2.2 dL_duty_18
set_option maxHeartbeats 4000000 in
set_option maxRecDepth 100000 in
theorem c_L_tripAt (l : Launch) (hst : l.stackTraces = false) (g : dd_G) (cJ : ClassId) (ad : Nat → Nat) (Y : va_W) (qo : Nat) (o : Nat → Int64) (sz : Nat) (sg : dd_S) (a1 : Int32) (a2 : Int32) (k0 : Nat) (r0 : Int32) (s0 : dd_S) (hf : f_X5_tripAt sg a1 a2 = some (k0, r0, s0)) (hk : k0 = 0 ∨ k0 = 1) : Met l yL_tripAt (lw_wsW yL_tripAt cL_tripAt 5 (some .int) [(0, 10, 13, 13)]) ({ frames := 7, cells := 1, slots := 6, locals := 104 } : Room) (va_Pc [.ref (ad 30), .int a1, .int a2, .ref qo] (PreL g cJ ad ((qo, OutE cJ o) :: Y) sg sz)) (QI g (WC g ad s0 ++ ((qo, OutE cJ (if k0 = 0 then vp_updL o 0 r0.toInt64 else o)) :: Y)) (dd_A 59 ad ((qo, OutE cJ o) :: Y) sz) (if k0 = 0 then 0 else 1)) 1 6 (dd_A 59 ad ((qo, OutE cJ o) :: Y) sz) := by
  refine va_MetW (cc := cL_tripAt) (maxL := 5) (ret := some .int) (hh := [(0, 10, 13, 13)]) (by decide) rfl ?_
  intro p e s m args below meth c s₁ B hml hv
  obtain ⟨rfl, ⟨⟨rfl, hP, hK, hD0⟩, hXF⟩, hKJ, hn1, hn2, hn3⟩ := hv
  have hx := B.exec
  have hb := B.bytes
  have hr := B.returns
  have hts := atoms_spec (ws := (lw_wsW yL_tripAt cL_tripAt 5 (some .int) [(0, 10, 13, 13)])) B.pre
  have htab := vx_table (x := yL_tripAt) B (hts _ List.mem_cons_self)
  have hts : ∀ w ∈ lw_all, w.before _ s = true := fun w h => hts w (List.mem_cons_of_mem _ h)
  have hown : s.vm.findClass RL = some m.cls := findClass_of_methodNamed B.named
  have hlocks := B.notSynchronized
  have hD : va_D (dd_A 59 ad ((qo, OutE cJ o) :: Y) s.heap.size) (WC g ad sg ++ ((qo, OutE cJ o) :: Y)) := dd_A_D hD0
  have hS : va_S (dd_A 59 ad ((qo, OutE cJ o) :: Y) s.heap.size) s.heap s.heap [] := va_S.rf
  have hl := lv_entry ([.ref (ad 30), .int a1, .int a2, .ref qo]) (n := 5) (Nat.le_of_ble_eq_true rfl)
  rw [lg_entry_eq]
  generalize (lg_sl ([.ref (ad 30), .int a1, .int a2, .ref qo]) ++ List.replicate (5 - (lg_sl ([.ref (ad 30), .int a1, .int a2, .ref qo])).length) Slot.unset).toArray = ls at hl ⊢
  have hl : lv_has ls 5 [(0, .ref (ad 30)), (1, .int a1), (2, .int a2), (3, .ref qo)] := hl
  refine lv_aload_n hx hb dL_tripAt_0 rfl (lv_at hl 3 rfl) ?_
  refine lv_iconst (v := 0) hx hb dL_tripAt_1 (by decide) ?_
  refine lv_aload_n hx hb dL_tripAt_2 rfl (lv_at hl 0 rfl) ?_
  refine lv_iload_n hx hb dL_tripAt_3 rfl (lv_at hl 1 rfl) ?_
  refine lv_iload_n hx hb dL_tripAt_4 rfl (lv_at hl 2 rfl) ?_
  refine vx_calli (vx_runV (As := [.int a1, .int a2]) (rest := [.int 0, .ref qo]) ⟨hx, hb, hml, hown, hts⟩ (c_X5_tripAt l hst g ad ((qo, OutE cJ o) :: Y) _ sg a1 a2 k0 r0 s0 hf) (cwV 2 hts gl_L_47 rfl rfl rfl yd_X5_tripAt ⟨Nat.le_of_ble_eq_true rfl, Nat.le_of_ble_eq_true rfl⟩) (preVX_of hK hP hD hXF (dd_at (by decide) cc_30) rfl) rfl rfl hl.1 rfl (lv_room (Nat.le_of_ble_eq_true rfl)) dL_tripAt_5 ⟨Nat.le_of_ble_eq_true rfl, Nat.le_of_ble_eq_true rfl⟩) hS (fun q _ h => h) (fun q h => h) (fun q _ h => h) (fun E ce q9 u t H locs ht hvm hw hB hz hk9 hS hce hcv hcl => ?_) (fun r u t H locs ht hvm hw hB hz hk9 hS => ?_)
  · obtain ⟨hne, hE, hP⟩ := hB
    rw [ht] at hP
    rcases hk with hk | hk
    · exact absurd hk hne
    · subst hk
      subst hE
      refine vx_catch (own := RL) (name := x1) (E := x1) hown [] ⟨0, 10, 13, 13⟩ [] (by rw [htab]; rfl) (fun z hz => absurd hz List.not_mem_nil) (by decide) (by decide) (hts _ qw_465) (va_Nw.use rfl (hK.2 _ qw_464)) hce hcv hcl ?_
      refine lv_astore (lv' := [(4, .ref q9), (0, .ref (ad 30)), (1, .int a1), (2, .int a2), (3, .ref qo)]) hx hb dL_tripAt_13 hl (by decide) rfl (fun ls hl => ?_)
      refine lv_iconst (v := 1) hx hb dL_tripAt_15 (by decide) ?_
      exact W.iret (v := 1) hx hb hr (fun t ht hW => ⟨⟨1, (), rfl, rfl, P_at ht hP⟩, hS.F ht⟩) hS.2.2 dL_tripAt_16
  · obtain ⟨rfl, rfl⟩ := hw
    rw [ht] at hB
    refine lv_i2l hx hb dL_tripAt_8 rfl ?_
    refine va_last hx hb hKJ hB (dd_D hD) hS 59 3 dd_first rfl (ix_in (i := 0) (n := 1) (by decide)) dL_tripAt_9 (fun H locs hP _ hS => ?_)
    rw [dd_firstset] at hP
    refine lv_goto (tgt := 17) hx hb dL_tripAt_10 (by decide) ?_
    refine lv_iconst (v := 0) hx hb dL_tripAt_17 (by decide) ?_
    exact W.iret (v := 0) hx hb hr (fun t ht hW => ⟨⟨0, (), rfl, rfl, P_at ht hP⟩, hS.F ht⟩) hS.2.2 dL_tripAt_18
set_option maxHeartbeats 4000000 in
set_option maxRecDepth 100000 in
theorem c_L_bestFor (l : Launch) (hst : l.stackTraces = false) (g : dd_G) (cJ : ClassId) (ad : Nat → Nat) (Y : va_W) (qo : Nat) (o : Nat → Int64) (sz : Nat) (sg : dd_S) (a1 : Int32) (k0 : Nat) (r0 : Int32) (s0 : dd_S) (hf : f_X5_bestFor sg a1 = some (k0, r0, s0)) (hk : k0 = 0 ∨ k0 = 1) : Met l yL_bestFor (lw_wsW yL_bestFor cL_bestFor 4 (some .int) [(0, 9, 12, 13)]) ({ frames := 7, cells := 1, slots := 6, locals := 140 } : Room) (va_Pc [.ref (ad 30), .int a1, .ref qo] (PreL g cJ ad ((qo, OutE cJ o) :: Y) sg sz)) (QI g (WC g ad s0 ++ ((qo, OutE cJ (if k0 = 0 then vp_updL o 0 r0.toInt64 else o)) :: Y)) (dd_A 59 ad ((qo, OutE cJ o) :: Y) sz) (if k0 = 0 then 0 else 1)) 1 6 (dd_A 59 ad ((qo, OutE cJ o) :: Y) sz) := by
  refine va_MetW (cc := cL_bestFor) (maxL := 4) (ret := some .int) (hh := [(0, 9, 12, 13)]) (by decide) rfl ?_
  intro p e s m args below meth c s₁ B hml hv
  obtain ⟨rfl, ⟨⟨rfl, hP, hK, hD0⟩, hXF⟩, hKJ, hn1, hn2, hn3⟩ := hv
  have hx := B.exec
  have hb := B.bytes
  have hr := B.returns
  have hts := atoms_spec (ws := (lw_wsW yL_bestFor cL_bestFor 4 (some .int) [(0, 9, 12, 13)])) B.pre
  have htab := vx_table (x := yL_bestFor) B (hts _ List.mem_cons_self)
  have hts : ∀ w ∈ lw_all, w.before _ s = true := fun w h => hts w (List.mem_cons_of_mem _ h)
  have hown : s.vm.findClass RL = some m.cls := findClass_of_methodNamed B.named
  have hlocks := B.notSynchronized
  have hD : va_D (dd_A 59 ad ((qo, OutE cJ o) :: Y) s.heap.size) (WC g ad sg ++ ((qo, OutE cJ o) :: Y)) := dd_A_D hD0
  have hS : va_S (dd_A 59 ad ((qo, OutE cJ o) :: Y) s.heap.size) s.heap s.heap [] := va_S.rf
  have hl := lv_entry ([.ref (ad 30), .int a1, .ref qo]) (n := 4) (Nat.le_of_ble_eq_true rfl)
  rw [lg_entry_eq]
  generalize (lg_sl ([.ref (ad 30), .int a1, .ref qo]) ++ List.replicate (4 - (lg_sl ([.ref (ad 30), .int a1, .ref qo])).length) Slot.unset).toArray = ls at hl ⊢
  have hl : lv_has ls 4 [(0, .ref (ad 30)), (1, .int a1), (2, .ref qo)] := hl
  refine lv_aload_n hx hb dL_bestFor_0 rfl (lv_at hl 2 rfl) ?_
  refine lv_iconst (v := 0) hx hb dL_bestFor_1 (by decide) ?_
  refine lv_aload_n hx hb dL_bestFor_2 rfl (lv_at hl 0 rfl) ?_
  refine lv_iload_n hx hb dL_bestFor_3 rfl (lv_at hl 1 rfl) ?_
  refine vx_calli (vx_runV (As := [.int a1]) (rest := [.int 0, .ref qo]) ⟨hx, hb, hml, hown, hts⟩ (c_X5_bestFor l hst g ad ((qo, OutE cJ o) :: Y) _ sg a1 k0 r0 s0 hf) (cwV 1 hts gl_L_50 rfl rfl rfl yd_X5_bestFor ⟨Nat.le_of_ble_eq_true rfl, Nat.le_of_ble_eq_true rfl⟩) (preVX_of hK hP hD hXF (dd_at (by decide) cc_30) rfl) rfl rfl hl.1 rfl (lv_room (Nat.le_of_ble_eq_true rfl)) dL_bestFor_4 ⟨Nat.le_of_ble_eq_true rfl, Nat.le_of_ble_eq_true rfl⟩) hS (fun q _ h => h) (fun q h => h) (fun q _ h => h) (fun E ce q9 u t H locs ht hvm hw hB hz hk9 hS hce hcv hcl => ?_) (fun r u t H locs ht hvm hw hB hz hk9 hS => ?_)
  · obtain ⟨hne, hE, hP⟩ := hB
    rw [ht] at hP
    rcases hk with hk | hk
    · exact absurd hk hne
    · subst hk
      subst hE
      refine vx_catch (own := RL) (name := x1) (E := x1) hown [] ⟨0, 9, 12, 13⟩ [] (by rw [htab]; rfl) (fun z hz => absurd hz List.not_mem_nil) (by decide) (by decide) (hts _ qw_465) (va_Nw.use rfl (hK.2 _ qw_464)) hce hcv hcl ?_
      refine lv_astore_n (lv' := [(3, .ref q9), (0, .ref (ad 30)), (1, .int a1), (2, .ref qo)]) hx hb dL_bestFor_12 rfl hl (by decide) rfl (fun ls hl => ?_)
      refine lv_iconst (v := 1) hx hb dL_bestFor_13 (by decide) ?_
      exact W.iret (v := 1) hx hb hr (fun t ht hW => ⟨⟨1, (), rfl, rfl, P_at ht hP⟩, hS.F ht⟩) hS.2.2 dL_bestFor_14
  · obtain ⟨rfl, rfl⟩ := hw
    rw [ht] at hB
    refine lv_i2l hx hb dL_bestFor_7 rfl ?_
    refine va_last hx hb hKJ hB (dd_D hD) hS 59 3 dd_first rfl (ix_in (i := 0) (n := 1) (by decide)) dL_bestFor_8 (fun H locs hP _ hS => ?_)
    rw [dd_firstset] at hP
    refine lv_goto (tgt := 15) hx hb dL_bestFor_9 (by decide) ?_
    refine lv_iconst (v := 0) hx hb dL_bestFor_15 (by decide) ?_
    exact W.iret (v := 0) hx hb hr (fun t ht hW => ⟨⟨0, (), rfl, rfl, P_at ht hP⟩, hS.F ht⟩) hS.2.2 dL_bestFor_16
set_option maxHeartbeats 4000000 in
set_option maxRecDepth 100000 in
theorem c_L_swap (l : Launch) (hst : l.stackTraces = false) (g : dd_G) (cJ : ClassId) (ad : Nat → Nat) (Y : va_W) (qo : Nat) (o : Nat → Int64) (sz : Nat) (sg : dd_S) (a1 : Int32) (a2 : Int32) (a3 : Int32) (k0 : Nat) (r0 : Int32) (s0 : dd_S) (hf : f_X5_swap sg a1 a2 a3 = some (k0, r0, s0)) (hk : k0 = 0 ∨ k0 = 1 ∨ k0 = 2 ∨ k0 = 3) : Met l yL_swap (lw_wsW yL_swap cL_swap 6 (some .int) [(0, 12, 15, 13), (0, 12, 19, 15), (0, 12, 23, 21)]) ({ frames := 7, cells := 1, slots := 6, locals := 119 } : Room) (va_Pc [.ref (ad 30), .int a1, .int a2, .int a3, .ref qo] (PreL g cJ ad ((qo, OutE cJ o) :: Y) sg sz)) (QI g (WC g ad s0 ++ ((qo, OutE cJ (if k0 = 0 then vp_updL o 0 r0.toInt64 else o)) :: Y)) (dd_A 59 ad ((qo, OutE cJ o) :: Y) sz) (if k0 = 0 then 0 else if k0 = 1 then 1 else if k0 = 2 then 2 else 3)) 1 6 (dd_A 59 ad ((qo, OutE cJ o) :: Y) sz) := by
  refine va_MetW (cc := cL_swap) (maxL := 6) (ret := some .int) (hh := [(0, 12, 15, 13), (0, 12, 19, 15), (0, 12, 23, 21)]) (by decide) rfl ?_
  intro p e s m args below meth c s₁ B hml hv
  obtain ⟨rfl, ⟨⟨rfl, hP, hK, hD0⟩, hXF⟩, hKJ, hn1, hn2, hn3⟩ := hv
  have hx := B.exec
  have hb := B.bytes
  have hr := B.returns
  have hts := atoms_spec (ws := (lw_wsW yL_swap cL_swap 6 (some .int) [(0, 12, 15, 13), (0, 12, 19, 15), (0, 12, 23, 21)])) B.pre
  have htab := vx_table (x := yL_swap) B (hts _ List.mem_cons_self)
  have hts : ∀ w ∈ lw_all, w.before _ s = true := fun w h => hts w (List.mem_cons_of_mem _ h)
  have hown : s.vm.findClass RL = some m.cls := findClass_of_methodNamed B.named
  have hlocks := B.notSynchronized
  have hD : va_D (dd_A 59 ad ((qo, OutE cJ o) :: Y) s.heap.size) (WC g ad sg ++ ((qo, OutE cJ o) :: Y)) := dd_A_D hD0
  have hS : va_S (dd_A 59 ad ((qo, OutE cJ o) :: Y) s.heap.size) s.heap s.heap [] := va_S.rf
  have hl := lv_entry ([.ref (ad 30), .int a1, .int a2, .int a3, .ref qo]) (n := 6) (Nat.le_of_ble_eq_true rfl)
  rw [lg_entry_eq]
  generalize (lg_sl ([.ref (ad 30), .int a1, .int a2, .int a3, .ref qo]) ++ List.replicate (6 - (lg_sl ([.ref (ad 30), .int a1, .int a2, .int a3, .ref qo])).length) Slot.unset).toArray = ls at hl ⊢
  have hl : lv_has ls 6 [(0, .ref (ad 30)), (1, .int a1), (2, .int a2), (3, .int a3), (4, .ref qo)] := hl
  refine lv_aload hx hb dL_swap_0 (lv_at hl 4 rfl) ?_
  refine lv_iconst (v := 0) hx hb dL_swap_2 (by decide) ?_
  refine lv_aload_n hx hb dL_swap_3 rfl (lv_at hl 0 rfl) ?_
  refine lv_iload_n hx hb dL_swap_4 rfl (lv_at hl 1 rfl) ?_
  refine lv_iload_n hx hb dL_swap_5 rfl (lv_at hl 2 rfl) ?_
  refine lv_iload_n hx hb dL_swap_6 rfl (lv_at hl 3 rfl) ?_
  refine vx_calli (vx_runV (As := [.int a1, .int a2, .int a3]) (rest := [.int 0, .ref qo]) ⟨hx, hb, hml, hown, hts⟩ (c_X5_swap l hst g ad ((qo, OutE cJ o) :: Y) _ sg a1 a2 a3 k0 r0 s0 hf) (cwV 3 hts gl_L_53 rfl rfl rfl yd_X5_swap ⟨Nat.le_of_ble_eq_true rfl, Nat.le_of_ble_eq_true rfl⟩) (preVX_of hK hP hD hXF (dd_at (by decide) cc_30) rfl) rfl rfl hl.1 rfl (lv_room (Nat.le_of_ble_eq_true rfl)) dL_swap_7 ⟨Nat.le_of_ble_eq_true rfl, Nat.le_of_ble_eq_true rfl⟩) hS (fun q _ h => h) (fun q h => h) (fun q _ h => h) (fun E ce q9 u t H locs ht hvm hw hB hz hk9 hS hce hcv hcl => ?_) (fun r u t H locs ht hvm hw hB hz hk9 hS => ?_)
  · obtain ⟨hne, hE, hP⟩ := hB
    rw [ht] at hP
    rcases hk with hk | hk | hk | hk
    · exact absurd hk hne
    · subst hk
      subst hE
      refine vx_catch (own := RL) (name := x1) (E := x1) hown [] ⟨0, 12, 15, 13⟩ [⟨0, 12, 19, 15⟩, ⟨0, 12, 23, 21⟩] (by rw [htab]; rfl) (fun z hz => absurd hz List.not_mem_nil) (by decide) (by decide) (hts _ qw_465) (va_Nw.use rfl (hK.2 _ qw_464)) hce hcv hcl ?_
      refine lv_astore (lv' := [(5, .ref q9), (0, .ref (ad 30)), (1, .int a1), (2, .int a2), (3, .int a3), (4, .ref qo)]) hx hb dL_swap_15 hl (by decide) rfl (fun ls hl => ?_)
      refine lv_iconst (v := 1) hx hb dL_swap_17 (by decide) ?_
      exact W.iret (v := 1) hx hb hr (fun t ht hW => ⟨⟨1, (), rfl, rfl, P_at ht hP⟩, hS.F ht⟩) hS.2.2 dL_swap_18
    · subst hk
      subst hE
      refine vx_catch (own := RL) (name := x2) (E := x2) hown [⟨0, 12, 15, 13⟩] ⟨0, 12, 19, 15⟩ [⟨0, 12, 23, 21⟩] (by rw [htab]; rfl) (fun z hz => by rcases List.mem_singleton.mp hz with rfl; exact Or.inr ⟨by decide, x1, hts _ qw_465, hn1⟩) (by decide) (by decide) (hts _ qw_467) (va_Nw.use rfl (hK.2 _ qw_466)) hce hcv hcl ?_
      refine lv_astore (lv' := [(5, .ref q9), (0, .ref (ad 30)), (1, .int a1), (2, .int a2), (3, .int a3), (4, .ref qo)]) hx hb dL_swap_19 hl (by decide) rfl (fun ls hl => ?_)
      refine lv_iconst (v := 2) hx hb dL_swap_21 (by decide) ?_
      exact W.iret (v := 2) hx hb hr (fun t ht hW => ⟨⟨2, (), rfl, rfl, P_at ht hP⟩, hS.F ht⟩) hS.2.2 dL_swap_22
    · subst hk
      subst hE
      refine vx_catch (own := RL) (name := x3) (E := x3) hown [⟨0, 12, 15, 13⟩, ⟨0, 12, 19, 15⟩] ⟨0, 12, 23, 21⟩ [] (by rw [htab]; rfl) (fun z hz => by rcases List.mem_cons.mp hz with rfl | hz; exact Or.inr ⟨by decide, x1, hts _ qw_465, hn2⟩; rcases List.mem_singleton.mp hz with rfl; exact Or.inr ⟨by decide, x2, hts _ qw_467, hn3⟩) (by decide) (by decide) (hts _ qw_473) (va_Nw.use rfl (hK.2 _ qw_472)) hce hcv hcl ?_
      refine lv_astore (lv' := [(5, .ref q9), (0, .ref (ad 30)), (1, .int a1), (2, .int a2), (3, .int a3), (4, .ref qo)]) hx hb dL_swap_23 hl (by decide) rfl (fun ls hl => ?_)
      refine lv_iconst (v := 3) hx hb dL_swap_25 (by decide) ?_
      exact W.iret (v := 3) hx hb hr (fun t ht hW => ⟨⟨3, (), rfl, rfl, P_at ht hP⟩, hS.F ht⟩) hS.2.2 dL_swap_26
  · obtain ⟨rfl, rfl⟩ := hw
    rw [ht] at hB
    refine lv_i2l hx hb dL_swap_10 rfl ?_
    refine va_last hx hb hKJ hB (dd_D hD) hS 59 3 dd_first rfl (ix_in (i := 0) (n := 1) (by decide)) dL_swap_11 (fun H locs hP _ hS => ?_)
    rw [dd_firstset] at hP
    refine lv_goto (tgt := 27) hx hb dL_swap_12 (by decide) ?_
    refine lv_iconst (v := 0) hx hb dL_swap_27 (by decide) ?_
    exact W.iret (v := 0) hx hb hr (fun t ht hW => ⟨⟨0, (), rfl, rfl, P_at ht hP⟩, hS.F ht⟩) hS.2.2 dL_swap_28
set_option maxHeartbeats 4000000 in
set_option maxRecDepth 100000 in
theorem c_L_addDriver (l : Launch) (hst : l.stackTraces = false) (g : dd_G) (cJ : ClassId) (ad : Nat → Nat) (Y : va_W) (qo : Nat) (o : Nat → Int64) (sz : Nat) (sg : dd_S) (k0 : Nat) (r0 : Int32) (s0 : dd_S) (hf : f_X5_addDriver sg = some (k0, r0, s0)) (hk : k0 = 0 ∨ k0 = 3) : Met l yL_addDriver (lw_wsW yL_addDriver cL_addDriver 3 (some .int) [(0, 8, 11, 21)]) ({ frames := 7, cells := 1, slots := 6, locals := 102 } : Room) (va_Pc [.ref (ad 30), .ref qo] (PreL g cJ ad ((qo, OutE cJ o) :: Y) sg sz)) (QI g (WC g ad s0 ++ ((qo, OutE cJ (if k0 = 0 then vp_updL o 0 r0.toInt64 else o)) :: Y)) (dd_A 59 ad ((qo, OutE cJ o) :: Y) sz) (if k0 = 0 then 0 else 1)) 1 6 (dd_A 59 ad ((qo, OutE cJ o) :: Y) sz) := by
  refine va_MetW (cc := cL_addDriver) (maxL := 3) (ret := some .int) (hh := [(0, 8, 11, 21)]) (by decide) rfl ?_
  intro p e s m args below meth c s₁ B hml hv
  obtain ⟨rfl, ⟨⟨rfl, hP, hK, hD0⟩, hXF⟩, hKJ, hn1, hn2, hn3⟩ := hv
  have hx := B.exec
  have hb := B.bytes
  have hr := B.returns
  have hts := atoms_spec (ws := (lw_wsW yL_addDriver cL_addDriver 3 (some .int) [(0, 8, 11, 21)])) B.pre
  have htab := vx_table (x := yL_addDriver) B (hts _ List.mem_cons_self)
  have hts : ∀ w ∈ lw_all, w.before _ s = true := fun w h => hts w (List.mem_cons_of_mem _ h)
  have hown : s.vm.findClass RL = some m.cls := findClass_of_methodNamed B.named
  have hlocks := B.notSynchronized
  have hD : va_D (dd_A 59 ad ((qo, OutE cJ o) :: Y) s.heap.size) (WC g ad sg ++ ((qo, OutE cJ o) :: Y)) := dd_A_D hD0
  have hS : va_S (dd_A 59 ad ((qo, OutE cJ o) :: Y) s.heap.size) s.heap s.heap [] := va_S.rf
  have hl := lv_entry ([.ref (ad 30), .ref qo]) (n := 3) (Nat.le_of_ble_eq_true rfl)
  rw [lg_entry_eq]
  generalize (lg_sl ([.ref (ad 30), .ref qo]) ++ List.replicate (3 - (lg_sl ([.ref (ad 30), .ref qo])).length) Slot.unset).toArray = ls at hl ⊢
  have hl : lv_has ls 3 [(0, .ref (ad 30)), (1, .ref qo)] := hl
  refine lv_aload_n hx hb dL_addDriver_0 rfl (lv_at hl 1 rfl) ?_
  refine lv_iconst (v := 0) hx hb dL_addDriver_1 (by decide) ?_
  refine lv_aload_n hx hb dL_addDriver_2 rfl (lv_at hl 0 rfl) ?_
  refine vx_calli (vx_runV (As := []) (rest := [.int 0, .ref qo]) ⟨hx, hb, hml, hown, hts⟩ (c_X5_addDriver l hst g ad ((qo, OutE cJ o) :: Y) _ sg k0 r0 s0 hf) (cwV 0 hts gl_L_56 rfl rfl rfl yd_X5_addDriver ⟨Nat.le_of_ble_eq_true rfl, Nat.le_of_ble_eq_true rfl⟩) (preVX_of hK hP hD hXF (dd_at (by decide) cc_30) rfl) rfl rfl hl.1 rfl (lv_room (Nat.le_of_ble_eq_true rfl)) dL_addDriver_3 ⟨Nat.le_of_ble_eq_true rfl, Nat.le_of_ble_eq_true rfl⟩) hS (fun q _ h => h) (fun q h => h) (fun q _ h => h) (fun E ce q9 u t H locs ht hvm hw hB hz hk9 hS hce hcv hcl => ?_) (fun r u t H locs ht hvm hw hB hz hk9 hS => ?_)
  · obtain ⟨hne, hE, hP⟩ := hB
    rw [ht] at hP
    rcases hk with hk | hk
    · exact absurd hk hne
    · subst hk
      subst hE
      refine vx_catch (own := RL) (name := x3) (E := x3) hown [] ⟨0, 8, 11, 21⟩ [] (by rw [htab]; rfl) (fun z hz => absurd hz List.not_mem_nil) (by decide) (by decide) (hts _ qw_473) (va_Nw.use rfl (hK.2 _ qw_472)) hce hcv hcl ?_
      refine lv_astore_n (lv' := [(2, .ref q9), (0, .ref (ad 30)), (1, .ref qo)]) hx hb dL_addDriver_11 rfl hl (by decide) rfl (fun ls hl => ?_)
      refine lv_iconst (v := 1) hx hb dL_addDriver_12 (by decide) ?_
      exact W.iret (v := 1) hx hb hr (fun t ht hW => ⟨⟨1, (), rfl, rfl, P_at ht hP⟩, hS.F ht⟩) hS.2.2 dL_addDriver_13
  · obtain ⟨rfl, rfl⟩ := hw
    rw [ht] at hB
    refine lv_i2l hx hb dL_addDriver_6 rfl ?_
    refine va_last hx hb hKJ hB (dd_D hD) hS 59 3 dd_first rfl (ix_in (i := 0) (n := 1) (by decide)) dL_addDriver_7 (fun H locs hP _ hS => ?_)
    rw [dd_firstset] at hP
    refine lv_goto (tgt := 14) hx hb dL_addDriver_8 (by decide) ?_
    refine lv_iconst (v := 0) hx hb dL_addDriver_14 (by decide) ?_
    exact W.iret (v := 0) hx hb hr (fun t ht hW => ⟨⟨0, (), rfl, rfl, P_at ht hP⟩, hS.F ht⟩) hS.2.2 dL_addDriver_15
set_option maxHeartbeats 4000000 in
set_option maxRecDepth 100000 in
theorem c_L_reason (l : Launch) (hst : l.stackTraces = false) (g : dd_G) (cJ : ClassId) (ad : Nat → Nat) (Y : va_W) (qo : Nat) (o : Nat → Int64) (sz : Nat) (sg : dd_S) (a1 : Int32) (a2 : Int32) (a3 : Int32) (k0 : Nat) (r0 : Int32) (s0 : dd_S) (hf : f_X5_reason sg a1 a2 a3 = some (k0, r0, s0)) (hk : k0 = 0 ∨ k0 = 1) : Met l yL_reason (lw_wsW yL_reason cL_reason 6 (some .int) [(0, 12, 15, 13)]) ({ frames := 7, cells := 1, slots := 6, locals := 116 } : Room) (va_Pc [.ref (ad 30), .int a1, .int a2, .int a3, .ref qo] (PreL g cJ ad ((qo, OutE cJ o) :: Y) sg sz)) (QI g (WC g ad s0 ++ ((qo, OutE cJ (if k0 = 0 then vp_updL o 0 r0.toInt64 else o)) :: Y)) (dd_A 59 ad ((qo, OutE cJ o) :: Y) sz) (if k0 = 0 then 0 else 1)) 1 6 (dd_A 59 ad ((qo, OutE cJ o) :: Y) sz) := by
  refine va_MetW (cc := cL_reason) (maxL := 6) (ret := some .int) (hh := [(0, 12, 15, 13)]) (by decide) rfl ?_
  intro p e s m args below meth c s₁ B hml hv
  obtain ⟨rfl, ⟨⟨rfl, hP, hK, hD0⟩, hXF⟩, hKJ, hn1, hn2, hn3⟩ := hv
  have hx := B.exec
  have hb := B.bytes
  have hr := B.returns
  have hts := atoms_spec (ws := (lw_wsW yL_reason cL_reason 6 (some .int) [(0, 12, 15, 13)])) B.pre
  have htab := vx_table (x := yL_reason) B (hts _ List.mem_cons_self)
  have hts : ∀ w ∈ lw_all, w.before _ s = true := fun w h => hts w (List.mem_cons_of_mem _ h)
  have hown : s.vm.findClass RL = some m.cls := findClass_of_methodNamed B.named
  have hlocks := B.notSynchronized
  have hD : va_D (dd_A 59 ad ((qo, OutE cJ o) :: Y) s.heap.size) (WC g ad sg ++ ((qo, OutE cJ o) :: Y)) := dd_A_D hD0
  have hS : va_S (dd_A 59 ad ((qo, OutE cJ o) :: Y) s.heap.size) s.heap s.heap [] := va_S.rf
  have hl := lv_entry ([.ref (ad 30), .int a1, .int a2, .int a3, .ref qo]) (n := 6) (Nat.le_of_ble_eq_true rfl)
  rw [lg_entry_eq]
  generalize (lg_sl ([.ref (ad 30), .int a1, .int a2, .int a3, .ref qo]) ++ List.replicate (6 - (lg_sl ([.ref (ad 30), .int a1, .int a2, .int a3, .ref qo])).length) Slot.unset).toArray = ls at hl ⊢
  have hl : lv_has ls 6 [(0, .ref (ad 30)), (1, .int a1), (2, .int a2), (3, .int a3), (4, .ref qo)] := hl
  refine lv_aload hx hb dL_reason_0 (lv_at hl 4 rfl) ?_
  refine lv_iconst (v := 0) hx hb dL_reason_2 (by decide) ?_
  refine lv_aload_n hx hb dL_reason_3 rfl (lv_at hl 0 rfl) ?_
  refine lv_iload_n hx hb dL_reason_4 rfl (lv_at hl 1 rfl) ?_
  refine lv_iload_n hx hb dL_reason_5 rfl (lv_at hl 2 rfl) ?_
  refine lv_iload_n hx hb dL_reason_6 rfl (lv_at hl 3 rfl) ?_
  refine vx_calli (vx_runV (As := [.int a1, .int a2, .int a3]) (rest := [.int 0, .ref qo]) ⟨hx, hb, hml, hown, hts⟩ (c_X5_reason l hst g ad ((qo, OutE cJ o) :: Y) _ sg a1 a2 a3 k0 r0 s0 hf) (cwV 3 hts gl_L_59 rfl rfl rfl yd_X5_reason ⟨Nat.le_of_ble_eq_true rfl, Nat.le_of_ble_eq_true rfl⟩) (preVX_of hK hP hD hXF (dd_at (by decide) cc_30) rfl) rfl rfl hl.1 rfl (lv_room (Nat.le_of_ble_eq_true rfl)) dL_reason_7 ⟨Nat.le_of_ble_eq_true rfl, Nat.le_of_ble_eq_true rfl⟩) hS (fun q _ h => h) (fun q h => h) (fun q _ h => h) (fun E ce q9 u t H locs ht hvm hw hB hz hk9 hS hce hcv hcl => ?_) (fun r u t H locs ht hvm hw hB hz hk9 hS => ?_)
  · obtain ⟨hne, hE, hP⟩ := hB
    rw [ht] at hP
    rcases hk with hk | hk
    · exact absurd hk hne
    · subst hk
      subst hE
      refine vx_catch (own := RL) (name := x1) (E := x1) hown [] ⟨0, 12, 15, 13⟩ [] (by rw [htab]; rfl) (fun z hz => absurd hz List.not_mem_nil) (by decide) (by decide) (hts _ qw_465) (va_Nw.use rfl (hK.2 _ qw_464)) hce hcv hcl ?_
      refine lv_astore (lv' := [(5, .ref q9), (0, .ref (ad 30)), (1, .int a1), (2, .int a2), (3, .int a3), (4, .ref qo)]) hx hb dL_reason_15 hl (by decide) rfl (fun ls hl => ?_)
      refine lv_iconst (v := 1) hx hb dL_reason_17 (by decide) ?_
      exact W.iret (v := 1) hx hb hr (fun t ht hW => ⟨⟨1, (), rfl, rfl, P_at ht hP⟩, hS.F ht⟩) hS.2.2 dL_reason_18
  · obtain ⟨rfl, rfl⟩ := hw
    rw [ht] at hB
    refine lv_i2l hx hb dL_reason_10 rfl ?_
    refine va_last hx hb hKJ hB (dd_D hD) hS 59 3 dd_first rfl (ix_in (i := 0) (n := 1) (by decide)) dL_reason_11 (fun H locs hP _ hS => ?_)
    rw [dd_firstset] at hP
    refine lv_goto (tgt := 19) hx hb dL_reason_12 (by decide) ?_
    refine lv_iconst (v := 0) hx hb dL_reason_19 (by decide) ?_
    exact W.iret (v := 0) hx hb hr (fun t ht hW => ⟨⟨0, (), rfl, rfl, P_at ht hP⟩, hS.F ht⟩) hS.2.2 dL_reason_20
set_option maxHeartbeats 4000000 in
set_option maxRecDepth 100000 in
theorem c_L_give (l : Launch) (hst : l.stackTraces = false) (g : dd_G) (cJ : ClassId) (ad : Nat → Nat) (Y : va_W) (qo : Nat) (o : Nat → Int64) (sz : Nat) (sg : dd_S) (a1 : Int32) (a2 : Int32) (a3 : Int32) (k0 : Nat) (r0 : Int32) (s0 : dd_S) (hf : f_X5_give sg a1 a2 a3 = some (k0, r0, s0)) (hk : k0 = 0 ∨ k0 = 1 ∨ k0 = 3) : Met l yL_give (lw_wsW yL_give cL_give 6 (some .int) [(0, 12, 15, 13), (0, 12, 19, 21)]) ({ frames := 7, cells := 1, slots := 6, locals := 116 } : Room) (va_Pc [.ref (ad 30), .int a1, .int a2, .int a3, .ref qo] (PreL g cJ ad ((qo, OutE cJ o) :: Y) sg sz)) (QI g (WC g ad s0 ++ ((qo, OutE cJ (if k0 = 0 then vp_updL o 0 r0.toInt64 else o)) :: Y)) (dd_A 59 ad ((qo, OutE cJ o) :: Y) sz) (if k0 = 0 then 0 else if k0 = 1 then 1 else 2)) 1 6 (dd_A 59 ad ((qo, OutE cJ o) :: Y) sz) := by
  refine va_MetW (cc := cL_give) (maxL := 6) (ret := some .int) (hh := [(0, 12, 15, 13), (0, 12, 19, 21)]) (by decide) rfl ?_
  intro p e s m args below meth c s₁ B hml hv
  obtain ⟨rfl, ⟨⟨rfl, hP, hK, hD0⟩, hXF⟩, hKJ, hn1, hn2, hn3⟩ := hv
  have hx := B.exec
  have hb := B.bytes
  have hr := B.returns
  have hts := atoms_spec (ws := (lw_wsW yL_give cL_give 6 (some .int) [(0, 12, 15, 13), (0, 12, 19, 21)])) B.pre
  have htab := vx_table (x := yL_give) B (hts _ List.mem_cons_self)
  have hts : ∀ w ∈ lw_all, w.before _ s = true := fun w h => hts w (List.mem_cons_of_mem _ h)
  have hown : s.vm.findClass RL = some m.cls := findClass_of_methodNamed B.named
  have hlocks := B.notSynchronized
  have hD : va_D (dd_A 59 ad ((qo, OutE cJ o) :: Y) s.heap.size) (WC g ad sg ++ ((qo, OutE cJ o) :: Y)) := dd_A_D hD0
  have hS : va_S (dd_A 59 ad ((qo, OutE cJ o) :: Y) s.heap.size) s.heap s.heap [] := va_S.rf
  have hl := lv_entry ([.ref (ad 30), .int a1, .int a2, .int a3, .ref qo]) (n := 6) (Nat.le_of_ble_eq_true rfl)
  rw [lg_entry_eq]
  generalize (lg_sl ([.ref (ad 30), .int a1, .int a2, .int a3, .ref qo]) ++ List.replicate (6 - (lg_sl ([.ref (ad 30), .int a1, .int a2, .int a3, .ref qo])).length) Slot.unset).toArray = ls at hl ⊢
  have hl : lv_has ls 6 [(0, .ref (ad 30)), (1, .int a1), (2, .int a2), (3, .int a3), (4, .ref qo)] := hl
  refine lv_aload hx hb dL_give_0 (lv_at hl 4 rfl) ?_
  refine lv_iconst (v := 0) hx hb dL_give_2 (by decide) ?_
  refine lv_aload_n hx hb dL_give_3 rfl (lv_at hl 0 rfl) ?_
  refine lv_iload_n hx hb dL_give_4 rfl (lv_at hl 1 rfl) ?_
  refine lv_iload_n hx hb dL_give_5 rfl (lv_at hl 2 rfl) ?_
  refine lv_iload_n hx hb dL_give_6 rfl (lv_at hl 3 rfl) ?_
  refine vx_calli (vx_runV (As := [.int a1, .int a2, .int a3]) (rest := [.int 0, .ref qo]) ⟨hx, hb, hml, hown, hts⟩ (c_X5_give l hst g ad ((qo, OutE cJ o) :: Y) _ sg a1 a2 a3 k0 r0 s0 hf) (cwV 3 hts gl_L_62 rfl rfl rfl yd_X5_give ⟨Nat.le_of_ble_eq_true rfl, Nat.le_of_ble_eq_true rfl⟩) (preVX_of hK hP hD hXF (dd_at (by decide) cc_30) rfl) rfl rfl hl.1 rfl (lv_room (Nat.le_of_ble_eq_true rfl)) dL_give_7 ⟨Nat.le_of_ble_eq_true rfl, Nat.le_of_ble_eq_true rfl⟩) hS (fun q _ h => h) (fun q h => h) (fun q _ h => h) (fun E ce q9 u t H locs ht hvm hw hB hz hk9 hS hce hcv hcl => ?_) (fun r u t H locs ht hvm hw hB hz hk9 hS => ?_)
  · obtain ⟨hne, hE, hP⟩ := hB
    rw [ht] at hP
    rcases hk with hk | hk | hk
    · exact absurd hk hne
    · subst hk
      subst hE
      refine vx_catch (own := RL) (name := x1) (E := x1) hown [] ⟨0, 12, 15, 13⟩ [⟨0, 12, 19, 21⟩] (by rw [htab]; rfl) (fun z hz => absurd hz List.not_mem_nil) (by decide) (by decide) (hts _ qw_465) (va_Nw.use rfl (hK.2 _ qw_464)) hce hcv hcl ?_
      refine lv_astore (lv' := [(5, .ref q9), (0, .ref (ad 30)), (1, .int a1), (2, .int a2), (3, .int a3), (4, .ref qo)]) hx hb dL_give_15 hl (by decide) rfl (fun ls hl => ?_)
      refine lv_iconst (v := 1) hx hb dL_give_17 (by decide) ?_
      exact W.iret (v := 1) hx hb hr (fun t ht hW => ⟨⟨1, (), rfl, rfl, P_at ht hP⟩, hS.F ht⟩) hS.2.2 dL_give_18
    · subst hk
      subst hE
      refine vx_catch (own := RL) (name := x3) (E := x3) hown [⟨0, 12, 15, 13⟩] ⟨0, 12, 19, 21⟩ [] (by rw [htab]; rfl) (fun z hz => by rcases List.mem_singleton.mp hz with rfl; exact Or.inr ⟨by decide, x1, hts _ qw_465, hn2⟩) (by decide) (by decide) (hts _ qw_473) (va_Nw.use rfl (hK.2 _ qw_472)) hce hcv hcl ?_
      refine lv_astore (lv' := [(5, .ref q9), (0, .ref (ad 30)), (1, .int a1), (2, .int a2), (3, .int a3), (4, .ref qo)]) hx hb dL_give_19 hl (by decide) rfl (fun ls hl => ?_)
      refine lv_iconst (v := 2) hx hb dL_give_21 (by decide) ?_
      exact W.iret (v := 2) hx hb hr (fun t ht hW => ⟨⟨2, (), rfl, rfl, P_at ht hP⟩, hS.F ht⟩) hS.2.2 dL_give_22
  · obtain ⟨rfl, rfl⟩ := hw
    rw [ht] at hB
    refine lv_i2l hx hb dL_give_10 rfl ?_
    refine va_last hx hb hKJ hB (dd_D hD) hS 59 3 dd_first rfl (ix_in (i := 0) (n := 1) (by decide)) dL_give_11 (fun H locs hP _ hS => ?_)
    rw [dd_firstset] at hP
    refine lv_goto (tgt := 23) hx hb dL_give_12 (by decide) ?_
    refine lv_iconst (v := 0) hx hb dL_give_23 (by decide) ?_
    exact W.iret (v := 0) hx hb hr (fun t ht hW => ⟨⟨0, (), rfl, rfl, P_at ht hP⟩, hS.F ht⟩) hS.2.2 dL_give_24
set_option maxHeartbeats 4000000 in
set_option maxRecDepth 100000 in
theorem c_L_takeBack (l : Launch) (hst : l.stackTraces = false) (g : dd_G) (cJ : ClassId) (ad : Nat → Nat) (Y : va_W) (qo : Nat) (o : Nat → Int64) (sz : Nat) (sg : dd_S) (a1 : Int32) (a2 : Int32) (k0 : Nat) (r0 : Int32) (s0 : dd_S) (hf : f_X5_takeBack sg a1 a2 = some (k0, r0, s0)) (hk : k0 = 0 ∨ k0 = 1 ∨ k0 = 3) : Met l yL_takeBack (lw_wsW yL_takeBack cL_takeBack 5 (some .int) [(0, 10, 13, 13), (0, 10, 17, 21)]) ({ frames := 7, cells := 1, slots := 6, locals := 105 } : Room) (va_Pc [.ref (ad 30), .int a1, .int a2, .ref qo] (PreL g cJ ad ((qo, OutE cJ o) :: Y) sg sz)) (QI g (WC g ad s0 ++ ((qo, OutE cJ (if k0 = 0 then vp_updL o 0 r0.toInt64 else o)) :: Y)) (dd_A 59 ad ((qo, OutE cJ o) :: Y) sz) (if k0 = 0 then 0 else if k0 = 1 then 1 else 2)) 1 6 (dd_A 59 ad ((qo, OutE cJ o) :: Y) sz) := by
  refine va_MetW (cc := cL_takeBack) (maxL := 5) (ret := some .int) (hh := [(0, 10, 13, 13), (0, 10, 17, 21)]) (by decide) rfl ?_
  intro p e s m args below meth c s₁ B hml hv
  obtain ⟨rfl, ⟨⟨rfl, hP, hK, hD0⟩, hXF⟩, hKJ, hn1, hn2, hn3⟩ := hv
  have hx := B.exec
  have hb := B.bytes
  have hr := B.returns
  have hts := atoms_spec (ws := (lw_wsW yL_takeBack cL_takeBack 5 (some .int) [(0, 10, 13, 13), (0, 10, 17, 21)])) B.pre
  have htab := vx_table (x := yL_takeBack) B (hts _ List.mem_cons_self)
  have hts : ∀ w ∈ lw_all, w.before _ s = true := fun w h => hts w (List.mem_cons_of_mem _ h)
  have hown : s.vm.findClass RL = some m.cls := findClass_of_methodNamed B.named
  have hlocks := B.notSynchronized
  have hD : va_D (dd_A 59 ad ((qo, OutE cJ o) :: Y) s.heap.size) (WC g ad sg ++ ((qo, OutE cJ o) :: Y)) := dd_A_D hD0
  have hS : va_S (dd_A 59 ad ((qo, OutE cJ o) :: Y) s.heap.size) s.heap s.heap [] := va_S.rf
  have hl := lv_entry ([.ref (ad 30), .int a1, .int a2, .ref qo]) (n := 5) (Nat.le_of_ble_eq_true rfl)
  rw [lg_entry_eq]
  generalize (lg_sl ([.ref (ad 30), .int a1, .int a2, .ref qo]) ++ List.replicate (5 - (lg_sl ([.ref (ad 30), .int a1, .int a2, .ref qo])).length) Slot.unset).toArray = ls at hl ⊢
  have hl : lv_has ls 5 [(0, .ref (ad 30)), (1, .int a1), (2, .int a2), (3, .ref qo)] := hl
  refine lv_aload_n hx hb dL_takeBack_0 rfl (lv_at hl 3 rfl) ?_
  refine lv_iconst (v := 0) hx hb dL_takeBack_1 (by decide) ?_
  refine lv_aload_n hx hb dL_takeBack_2 rfl (lv_at hl 0 rfl) ?_
  refine lv_iload_n hx hb dL_takeBack_3 rfl (lv_at hl 1 rfl) ?_
  refine lv_iload_n hx hb dL_takeBack_4 rfl (lv_at hl 2 rfl) ?_
  refine vx_calli (vx_runV (As := [.int a1, .int a2]) (rest := [.int 0, .ref qo]) ⟨hx, hb, hml, hown, hts⟩ (c_X5_takeBack l hst g ad ((qo, OutE cJ o) :: Y) _ sg a1 a2 k0 r0 s0 hf) (cwV 2 hts gl_L_65 rfl rfl rfl yd_X5_takeBack ⟨Nat.le_of_ble_eq_true rfl, Nat.le_of_ble_eq_true rfl⟩) (preVX_of hK hP hD hXF (dd_at (by decide) cc_30) rfl) rfl rfl hl.1 rfl (lv_room (Nat.le_of_ble_eq_true rfl)) dL_takeBack_5 ⟨Nat.le_of_ble_eq_true rfl, Nat.le_of_ble_eq_true rfl⟩) hS (fun q _ h => h) (fun q h => h) (fun q _ h => h) (fun E ce q9 u t H locs ht hvm hw hB hz hk9 hS hce hcv hcl => ?_) (fun r u t H locs ht hvm hw hB hz hk9 hS => ?_)
  · obtain ⟨hne, hE, hP⟩ := hB
    rw [ht] at hP
    rcases hk with hk | hk | hk
    · exact absurd hk hne
    · subst hk
      subst hE
      refine vx_catch (own := RL) (name := x1) (E := x1) hown [] ⟨0, 10, 13, 13⟩ [⟨0, 10, 17, 21⟩] (by rw [htab]; rfl) (fun z hz => absurd hz List.not_mem_nil) (by decide) (by decide) (hts _ qw_465) (va_Nw.use rfl (hK.2 _ qw_464)) hce hcv hcl ?_
      refine lv_astore (lv' := [(4, .ref q9), (0, .ref (ad 30)), (1, .int a1), (2, .int a2), (3, .ref qo)]) hx hb dL_takeBack_13 hl (by decide) rfl (fun ls hl => ?_)
      refine lv_iconst (v := 1) hx hb dL_takeBack_15 (by decide) ?_
      exact W.iret (v := 1) hx hb hr (fun t ht hW => ⟨⟨1, (), rfl, rfl, P_at ht hP⟩, hS.F ht⟩) hS.2.2 dL_takeBack_16
    · subst hk
      subst hE
      refine vx_catch (own := RL) (name := x3) (E := x3) hown [⟨0, 10, 13, 13⟩] ⟨0, 10, 17, 21⟩ [] (by rw [htab]; rfl) (fun z hz => by rcases List.mem_singleton.mp hz with rfl; exact Or.inr ⟨by decide, x1, hts _ qw_465, hn2⟩) (by decide) (by decide) (hts _ qw_473) (va_Nw.use rfl (hK.2 _ qw_472)) hce hcv hcl ?_
      refine lv_astore (lv' := [(4, .ref q9), (0, .ref (ad 30)), (1, .int a1), (2, .int a2), (3, .ref qo)]) hx hb dL_takeBack_17 hl (by decide) rfl (fun ls hl => ?_)
      refine lv_iconst (v := 2) hx hb dL_takeBack_19 (by decide) ?_
      exact W.iret (v := 2) hx hb hr (fun t ht hW => ⟨⟨2, (), rfl, rfl, P_at ht hP⟩, hS.F ht⟩) hS.2.2 dL_takeBack_20
  · obtain ⟨rfl, rfl⟩ := hw
    rw [ht] at hB
    refine lv_i2l hx hb dL_takeBack_8 rfl ?_
    refine va_last hx hb hKJ hB (dd_D hD) hS 59 3 dd_first rfl (ix_in (i := 0) (n := 1) (by decide)) dL_takeBack_9 (fun H locs hP _ hS => ?_)
    rw [dd_firstset] at hP
    refine lv_goto (tgt := 21) hx hb dL_takeBack_10 (by decide) ?_
    refine lv_iconst (v := 0) hx hb dL_takeBack_21 (by decide) ?_
    exact W.iret (v := 0) hx hb hr (fun t ht hW => ⟨⟨0, (), rfl, rfl, P_at ht hP⟩, hS.F ht⟩) hS.2.2 dL_takeBack_22
set_option maxHeartbeats 4000000 in
set_option maxRecDepth 100000 in
theorem c_L_given (l : Launch) (hst : l.stackTraces = false) (g : dd_G) (cJ : ClassId) (ad : Nat → Nat) (Y : va_W) (qo : Nat) (o : Nat → Int64) (sz : Nat) (sg : dd_S) (a1 : Int32) (a2 : Int32) (k0 : Nat) (r0 : Int32) (s0 : dd_S) (hf : f_X5_given sg a1 a2 = some (k0, r0, s0)) (hk : k0 = 0 ∨ k0 = 1) : Met l yL_given (lw_wsW yL_given cL_given 5 (some .int) [(0, 10, 13, 13)]) ({ frames := 7, cells := 1, slots := 6, locals := 104 } : Room) (va_Pc [.ref (ad 30), .int a1, .int a2, .ref qo] (PreL g cJ ad ((qo, OutE cJ o) :: Y) sg sz)) (QI g (WC g ad s0 ++ ((qo, OutE cJ (if k0 = 0 then vp_updL o 0 r0.toInt64 else o)) :: Y)) (dd_A 59 ad ((qo, OutE cJ o) :: Y) sz) (if k0 = 0 then 0 else 1)) 1 6 (dd_A 59 ad ((qo, OutE cJ o) :: Y) sz) := by
  refine va_MetW (cc := cL_given) (maxL := 5) (ret := some .int) (hh := [(0, 10, 13, 13)]) (by decide) rfl ?_
  intro p e s m args below meth c s₁ B hml hv
  obtain ⟨rfl, ⟨⟨rfl, hP, hK, hD0⟩, hXF⟩, hKJ, hn1, hn2, hn3⟩ := hv
  have hx := B.exec
  have hb := B.bytes
  have hr := B.returns
  have hts := atoms_spec (ws := (lw_wsW yL_given cL_given 5 (some .int) [(0, 10, 13, 13)])) B.pre
  have htab := vx_table (x := yL_given) B (hts _ List.mem_cons_self)
  have hts : ∀ w ∈ lw_all, w.before _ s = true := fun w h => hts w (List.mem_cons_of_mem _ h)
  have hown : s.vm.findClass RL = some m.cls := findClass_of_methodNamed B.named
  have hlocks := B.notSynchronized
  have hD : va_D (dd_A 59 ad ((qo, OutE cJ o) :: Y) s.heap.size) (WC g ad sg ++ ((qo, OutE cJ o) :: Y)) := dd_A_D hD0
  have hS : va_S (dd_A 59 ad ((qo, OutE cJ o) :: Y) s.heap.size) s.heap s.heap [] := va_S.rf
  have hl := lv_entry ([.ref (ad 30), .int a1, .int a2, .ref qo]) (n := 5) (Nat.le_of_ble_eq_true rfl)
  rw [lg_entry_eq]
  generalize (lg_sl ([.ref (ad 30), .int a1, .int a2, .ref qo]) ++ List.replicate (5 - (lg_sl ([.ref (ad 30), .int a1, .int a2, .ref qo])).length) Slot.unset).toArray = ls at hl ⊢
  have hl : lv_has ls 5 [(0, .ref (ad 30)), (1, .int a1), (2, .int a2), (3, .ref qo)] := hl
  refine lv_aload_n hx hb dL_given_0 rfl (lv_at hl 3 rfl) ?_
  refine lv_iconst (v := 0) hx hb dL_given_1 (by decide) ?_
  refine lv_aload_n hx hb dL_given_2 rfl (lv_at hl 0 rfl) ?_
  refine lv_iload_n hx hb dL_given_3 rfl (lv_at hl 1 rfl) ?_
  refine lv_iload_n hx hb dL_given_4 rfl (lv_at hl 2 rfl) ?_
  refine vx_calli (vx_runV (As := [.int a1, .int a2]) (rest := [.int 0, .ref qo]) ⟨hx, hb, hml, hown, hts⟩ (c_X5_given l hst g ad ((qo, OutE cJ o) :: Y) _ sg a1 a2 k0 r0 s0 hf) (cwV 2 hts gl_L_68 rfl rfl rfl yd_X5_given ⟨Nat.le_of_ble_eq_true rfl, Nat.le_of_ble_eq_true rfl⟩) (preVX_of hK hP hD hXF (dd_at (by decide) cc_30) rfl) rfl rfl hl.1 rfl (lv_room (Nat.le_of_ble_eq_true rfl)) dL_given_5 ⟨Nat.le_of_ble_eq_true rfl, Nat.le_of_ble_eq_true rfl⟩) hS (fun q _ h => h) (fun q h => h) (fun q _ h => h) (fun E ce q9 u t H locs ht hvm hw hB hz hk9 hS hce hcv hcl => ?_) (fun r u t H locs ht hvm hw hB hz hk9 hS => ?_)
  · obtain ⟨hne, hE, hP⟩ := hB
    rw [ht] at hP
    rcases hk with hk | hk
    · exact absurd hk hne
    · subst hk
      subst hE
      refine vx_catch (own := RL) (name := x1) (E := x1) hown [] ⟨0, 10, 13, 13⟩ [] (by rw [htab]; rfl) (fun z hz => absurd hz List.not_mem_nil) (by decide) (by decide) (hts _ qw_465) (va_Nw.use rfl (hK.2 _ qw_464)) hce hcv hcl ?_
      refine lv_astore (lv' := [(4, .ref q9), (0, .ref (ad 30)), (1, .int a1), (2, .int a2), (3, .ref qo)]) hx hb dL_given_13 hl (by decide) rfl (fun ls hl => ?_)
      refine lv_iconst (v := 1) hx hb dL_given_15 (by decide) ?_
      exact W.iret (v := 1) hx hb hr (fun t ht hW => ⟨⟨1, (), rfl, rfl, P_at ht hP⟩, hS.F ht⟩) hS.2.2 dL_given_16
  · obtain ⟨rfl, rfl⟩ := hw
    rw [ht] at hB
    refine lv_i2l hx hb dL_given_8 rfl ?_
    refine va_last hx hb hKJ hB (dd_D hD) hS 59 3 dd_first rfl (ix_in (i := 0) (n := 1) (by decide)) dL_given_9 (fun H locs hP _ hS => ?_)
    rw [dd_firstset] at hP
    refine lv_goto (tgt := 17) hx hb dL_given_10 (by decide) ?_
    refine lv_iconst (v := 0) hx hb dL_given_17 (by decide) ?_
    exact W.iret (v := 0) hx hb hr (fun t ht hW => ⟨⟨0, (), rfl, rfl, P_at ht hP⟩, hS.F ht⟩) hS.2.2 dL_given_18
set_option maxHeartbeats 4000000 in
set_option maxRecDepth 100000 in
theorem c_L_fill (l : Launch) (hst : l.stackTraces = false) (g : dd_G) (cJ : ClassId) (ad : Nat → Nat) (Y : va_W) (qo : Nat) (o : Nat → Int64) (sz : Nat) (sg : dd_S) (a1 : Int32) (k0 : Nat) (r0 : Int32) (s0 : dd_S) (hf : f_X5_fill sg a1 = some (k0, r0, s0)) (hk : k0 = 0 ∨ k0 = 1) : Met l yL_fill (lw_wsW yL_fill cL_fill 4 (some .int) [(0, 9, 12, 13)]) ({ frames := 7, cells := 1, slots := 6, locals := 164 } : Room) (va_Pc [.ref (ad 30), .int a1, .ref qo] (PreL g cJ ad ((qo, OutE cJ o) :: Y) sg sz)) (QI g (WC g ad s0 ++ ((qo, OutE cJ (if k0 = 0 then vp_updL o 0 r0.toInt64 else o)) :: Y)) (dd_A 59 ad ((qo, OutE cJ o) :: Y) sz) (if k0 = 0 then 0 else 1)) 1 6 (dd_A 59 ad ((qo, OutE cJ o) :: Y) sz) := by
  refine va_MetW (cc := cL_fill) (maxL := 4) (ret := some .int) (hh := [(0, 9, 12, 13)]) (by decide) rfl ?_
  intro p e s m args below meth c s₁ B hml hv
  obtain ⟨rfl, ⟨⟨rfl, hP, hK, hD0⟩, hXF⟩, hKJ, hn1, hn2, hn3⟩ := hv
  have hx := B.exec
  have hb := B.bytes
  have hr := B.returns
  have hts := atoms_spec (ws := (lw_wsW yL_fill cL_fill 4 (some .int) [(0, 9, 12, 13)])) B.pre
  have htab := vx_table (x := yL_fill) B (hts _ List.mem_cons_self)
  have hts : ∀ w ∈ lw_all, w.before _ s = true := fun w h => hts w (List.mem_cons_of_mem _ h)
  have hown : s.vm.findClass RL = some m.cls := findClass_of_methodNamed B.named
  have hlocks := B.notSynchronized
  have hD : va_D (dd_A 59 ad ((qo, OutE cJ o) :: Y) s.heap.size) (WC g ad sg ++ ((qo, OutE cJ o) :: Y)) := dd_A_D hD0
  have hS : va_S (dd_A 59 ad ((qo, OutE cJ o) :: Y) s.heap.size) s.heap s.heap [] := va_S.rf
  have hl := lv_entry ([.ref (ad 30), .int a1, .ref qo]) (n := 4) (Nat.le_of_ble_eq_true rfl)
  rw [lg_entry_eq]
  generalize (lg_sl ([.ref (ad 30), .int a1, .ref qo]) ++ List.replicate (4 - (lg_sl ([.ref (ad 30), .int a1, .ref qo])).length) Slot.unset).toArray = ls at hl ⊢
  have hl : lv_has ls 4 [(0, .ref (ad 30)), (1, .int a1), (2, .ref qo)] := hl
  refine lv_aload_n hx hb dL_fill_0 rfl (lv_at hl 2 rfl) ?_
  refine lv_iconst (v := 0) hx hb dL_fill_1 (by decide) ?_
  refine lv_aload_n hx hb dL_fill_2 rfl (lv_at hl 0 rfl) ?_
  refine lv_iload_n hx hb dL_fill_3 rfl (lv_at hl 1 rfl) ?_
  refine vx_calli (vx_runV (As := [.int a1]) (rest := [.int 0, .ref qo]) ⟨hx, hb, hml, hown, hts⟩ (c_X5_fill l hst g ad ((qo, OutE cJ o) :: Y) _ sg a1 k0 r0 s0 hf) (cwV 1 hts gl_L_71 rfl rfl rfl yd_X5_fill ⟨Nat.le_of_ble_eq_true rfl, Nat.le_of_ble_eq_true rfl⟩) (preVX_of hK hP hD hXF (dd_at (by decide) cc_30) rfl) rfl rfl hl.1 rfl (lv_room (Nat.le_of_ble_eq_true rfl)) dL_fill_4 ⟨Nat.le_of_ble_eq_true rfl, Nat.le_of_ble_eq_true rfl⟩) hS (fun q _ h => h) (fun q h => h) (fun q _ h => h) (fun E ce q9 u t H locs ht hvm hw hB hz hk9 hS hce hcv hcl => ?_) (fun r u t H locs ht hvm hw hB hz hk9 hS => ?_)
  · obtain ⟨hne, hE, hP⟩ := hB
    rw [ht] at hP
    rcases hk with hk | hk
    · exact absurd hk hne
    · subst hk
      subst hE
      refine vx_catch (own := RL) (name := x1) (E := x1) hown [] ⟨0, 9, 12, 13⟩ [] (by rw [htab]; rfl) (fun z hz => absurd hz List.not_mem_nil) (by decide) (by decide) (hts _ qw_465) (va_Nw.use rfl (hK.2 _ qw_464)) hce hcv hcl ?_
      refine lv_astore_n (lv' := [(3, .ref q9), (0, .ref (ad 30)), (1, .int a1), (2, .ref qo)]) hx hb dL_fill_12 rfl hl (by decide) rfl (fun ls hl => ?_)
      refine lv_iconst (v := 1) hx hb dL_fill_13 (by decide) ?_
      exact W.iret (v := 1) hx hb hr (fun t ht hW => ⟨⟨1, (), rfl, rfl, P_at ht hP⟩, hS.F ht⟩) hS.2.2 dL_fill_14
  · obtain ⟨rfl, rfl⟩ := hw
    rw [ht] at hB
    refine lv_i2l hx hb dL_fill_7 rfl ?_
    refine va_last hx hb hKJ hB (dd_D hD) hS 59 3 dd_first rfl (ix_in (i := 0) (n := 1) (by decide)) dL_fill_8 (fun H locs hP _ hS => ?_)
    rw [dd_firstset] at hP
    refine lv_goto (tgt := 15) hx hb dL_fill_9 (by decide) ?_
    refine lv_iconst (v := 0) hx hb dL_fill_15 (by decide) ?_
    exact W.iret (v := 0) hx hb hr (fun t ht hW => ⟨⟨0, (), rfl, rfl, P_at ht hP⟩, hS.F ht⟩) hS.2.2 dL_fill_16
set_option maxHeartbeats 4000000 in
set_option maxRecDepth 100000 in
theorem c_L_week (l : Launch) (hst : l.stackTraces = false) (g : dd_G) (cJ : ClassId) (ad : Nat → Nat) (Y : va_W) (qo : Nat) (o : Nat → Int64) (sz : Nat) (sg : dd_S) (a1 : Int32) (k0 : Nat) (r0 : Int32) (s0 : dd_S) (hf : f_X5_week sg a1 = some (k0, r0, s0)) (hk : k0 = 0 ∨ k0 = 1) : Met l yL_week (lw_wsW yL_week cL_week 4 (some .int) [(0, 9, 12, 13)]) ({ frames := 7, cells := 1, slots := 6, locals := 103 } : Room) (va_Pc [.ref (ad 30), .int a1, .ref qo] (PreL g cJ ad ((qo, OutE cJ o) :: Y) sg sz)) (QI g (WC g ad s0 ++ ((qo, OutE cJ (if k0 = 0 then vp_updL o 0 r0.toInt64 else o)) :: Y)) (dd_A 59 ad ((qo, OutE cJ o) :: Y) sz) (if k0 = 0 then 0 else 1)) 1 6 (dd_A 59 ad ((qo, OutE cJ o) :: Y) sz) := by
  refine va_MetW (cc := cL_week) (maxL := 4) (ret := some .int) (hh := [(0, 9, 12, 13)]) (by decide) rfl ?_
  intro p e s m args below meth c s₁ B hml hv
  obtain ⟨rfl, ⟨⟨rfl, hP, hK, hD0⟩, hXF⟩, hKJ, hn1, hn2, hn3⟩ := hv
  have hx := B.exec
  have hb := B.bytes
  have hr := B.returns
  have hts := atoms_spec (ws := (lw_wsW yL_week cL_week 4 (some .int) [(0, 9, 12, 13)])) B.pre
  have htab := vx_table (x := yL_week) B (hts _ List.mem_cons_self)
  have hts : ∀ w ∈ lw_all, w.before _ s = true := fun w h => hts w (List.mem_cons_of_mem _ h)
  have hown : s.vm.findClass RL = some m.cls := findClass_of_methodNamed B.named
  have hlocks := B.notSynchronized
  have hD : va_D (dd_A 59 ad ((qo, OutE cJ o) :: Y) s.heap.size) (WC g ad sg ++ ((qo, OutE cJ o) :: Y)) := dd_A_D hD0
  have hS : va_S (dd_A 59 ad ((qo, OutE cJ o) :: Y) s.heap.size) s.heap s.heap [] := va_S.rf
  have hl := lv_entry ([.ref (ad 30), .int a1, .ref qo]) (n := 4) (Nat.le_of_ble_eq_true rfl)
  rw [lg_entry_eq]
  generalize (lg_sl ([.ref (ad 30), .int a1, .ref qo]) ++ List.replicate (4 - (lg_sl ([.ref (ad 30), .int a1, .ref qo])).length) Slot.unset).toArray = ls at hl ⊢
  have hl : lv_has ls 4 [(0, .ref (ad 30)), (1, .int a1), (2, .ref qo)] := hl
  refine lv_aload_n hx hb dL_week_0 rfl (lv_at hl 2 rfl) ?_
  refine lv_iconst (v := 0) hx hb dL_week_1 (by decide) ?_
  refine lv_aload_n hx hb dL_week_2 rfl (lv_at hl 0 rfl) ?_
  refine lv_iload_n hx hb dL_week_3 rfl (lv_at hl 1 rfl) ?_
  refine vx_calli (vx_runV (As := [.int a1]) (rest := [.int 0, .ref qo]) ⟨hx, hb, hml, hown, hts⟩ (c_X5_week l hst g ad ((qo, OutE cJ o) :: Y) _ sg a1 k0 r0 s0 hf) (cwV 1 hts gl_L_74 rfl rfl rfl yd_X5_week ⟨Nat.le_of_ble_eq_true rfl, Nat.le_of_ble_eq_true rfl⟩) (preVX_of hK hP hD hXF (dd_at (by decide) cc_30) rfl) rfl rfl hl.1 rfl (lv_room (Nat.le_of_ble_eq_true rfl)) dL_week_4 ⟨Nat.le_of_ble_eq_true rfl, Nat.le_of_ble_eq_true rfl⟩) hS (fun q _ h => h) (fun q h => h) (fun q _ h => h) (fun E ce q9 u t H locs ht hvm hw hB hz hk9 hS hce hcv hcl => ?_) (fun r u t H locs ht hvm hw hB hz hk9 hS => ?_)
  · obtain ⟨hne, hE, hP⟩ := hB
    rw [ht] at hP
    rcases hk with hk | hk
    · exact absurd hk hne
    · subst hk
      subst hE
      refine vx_catch (own := RL) (name := x1) (E := x1) hown [] ⟨0, 9, 12, 13⟩ [] (by rw [htab]; rfl) (fun z hz => absurd hz List.not_mem_nil) (by decide) (by decide) (hts _ qw_465) (va_Nw.use rfl (hK.2 _ qw_464)) hce hcv hcl ?_
      refine lv_astore_n (lv' := [(3, .ref q9), (0, .ref (ad 30)), (1, .int a1), (2, .ref qo)]) hx hb dL_week_12 rfl hl (by decide) rfl (fun ls hl => ?_)
      refine lv_iconst (v := 1) hx hb dL_week_13 (by decide) ?_
      exact W.iret (v := 1) hx hb hr (fun t ht hW => ⟨⟨1, (), rfl, rfl, P_at ht hP⟩, hS.F ht⟩) hS.2.2 dL_week_14
  · obtain ⟨rfl, rfl⟩ := hw
    rw [ht] at hB
    refine lv_i2l hx hb dL_week_7 rfl ?_
    refine va_last hx hb hKJ hB (dd_D hD) hS 59 3 dd_first rfl (ix_in (i := 0) (n := 1) (by decide)) dL_week_8 (fun H locs hP _ hS => ?_)
    rw [dd_firstset] at hP
    refine lv_goto (tgt := 15) hx hb dL_week_9 (by decide) ?_
    refine lv_iconst (v := 0) hx hb dL_week_15 (by decide) ?_
    exact W.iret (v := 0) hx hb hr (fun t ht hW => ⟨⟨0, (), rfl, rfl, P_at ht hP⟩, hS.F ht⟩) hS.2.2 dL_week_16
set_option maxHeartbeats 4000000 in
set_option maxRecDepth 100000 in
theorem c_L_rest (l : Launch) (hst : l.stackTraces = false) (g : dd_G) (cJ : ClassId) (ad : Nat → Nat) (Y : va_W) (qo : Nat) (o : Nat → Int64) (sz : Nat) (sg : dd_S) (a1 : Int32) (a2 : Int32) (k0 : Nat) (r0 : Int32) (s0 : dd_S) (hf : f_X5_rest sg a1 a2 = some (k0, r0, s0)) (hk : k0 = 0 ∨ k0 = 1) : Met l yL_rest (lw_wsW yL_rest cL_rest 5 (some .int) [(0, 10, 13, 13)]) ({ frames := 7, cells := 1, slots := 6, locals := 106 } : Room) (va_Pc [.ref (ad 30), .int a1, .int a2, .ref qo] (PreL g cJ ad ((qo, OutE cJ o) :: Y) sg sz)) (QI g (WC g ad s0 ++ ((qo, OutE cJ (if k0 = 0 then vp_updL o 0 r0.toInt64 else o)) :: Y)) (dd_A 59 ad ((qo, OutE cJ o) :: Y) sz) (if k0 = 0 then 0 else 1)) 1 6 (dd_A 59 ad ((qo, OutE cJ o) :: Y) sz) := by
  refine va_MetW (cc := cL_rest) (maxL := 5) (ret := some .int) (hh := [(0, 10, 13, 13)]) (by decide) rfl ?_
  intro p e s m args below meth c s₁ B hml hv
  obtain ⟨rfl, ⟨⟨rfl, hP, hK, hD0⟩, hXF⟩, hKJ, hn1, hn2, hn3⟩ := hv
  have hx := B.exec
  have hb := B.bytes
  have hr := B.returns
  have hts := atoms_spec (ws := (lw_wsW yL_rest cL_rest 5 (some .int) [(0, 10, 13, 13)])) B.pre
  have htab := vx_table (x := yL_rest) B (hts _ List.mem_cons_self)
  have hts : ∀ w ∈ lw_all, w.before _ s = true := fun w h => hts w (List.mem_cons_of_mem _ h)
  have hown : s.vm.findClass RL = some m.cls := findClass_of_methodNamed B.named
  have hlocks := B.notSynchronized
  have hD : va_D (dd_A 59 ad ((qo, OutE cJ o) :: Y) s.heap.size) (WC g ad sg ++ ((qo, OutE cJ o) :: Y)) := dd_A_D hD0
  have hS : va_S (dd_A 59 ad ((qo, OutE cJ o) :: Y) s.heap.size) s.heap s.heap [] := va_S.rf
  have hl := lv_entry ([.ref (ad 30), .int a1, .int a2, .ref qo]) (n := 5) (Nat.le_of_ble_eq_true rfl)
  rw [lg_entry_eq]
  generalize (lg_sl ([.ref (ad 30), .int a1, .int a2, .ref qo]) ++ List.replicate (5 - (lg_sl ([.ref (ad 30), .int a1, .int a2, .ref qo])).length) Slot.unset).toArray = ls at hl ⊢
  have hl : lv_has ls 5 [(0, .ref (ad 30)), (1, .int a1), (2, .int a2), (3, .ref qo)] := hl
  refine lv_aload_n hx hb dL_rest_0 rfl (lv_at hl 3 rfl) ?_
  refine lv_iconst (v := 0) hx hb dL_rest_1 (by decide) ?_
  refine lv_aload_n hx hb dL_rest_2 rfl (lv_at hl 0 rfl) ?_
  refine lv_iload_n hx hb dL_rest_3 rfl (lv_at hl 1 rfl) ?_
  refine lv_iload_n hx hb dL_rest_4 rfl (lv_at hl 2 rfl) ?_
  refine vx_calli (vx_runV (As := [.int a1, .int a2]) (rest := [.int 0, .ref qo]) ⟨hx, hb, hml, hown, hts⟩ (c_X5_rest l hst g ad ((qo, OutE cJ o) :: Y) _ sg a1 a2 k0 r0 s0 hf) (cwV 2 hts gl_L_77 rfl rfl rfl yd_X5_rest ⟨Nat.le_of_ble_eq_true rfl, Nat.le_of_ble_eq_true rfl⟩) (preVX_of hK hP hD hXF (dd_at (by decide) cc_30) rfl) rfl rfl hl.1 rfl (lv_room (Nat.le_of_ble_eq_true rfl)) dL_rest_5 ⟨Nat.le_of_ble_eq_true rfl, Nat.le_of_ble_eq_true rfl⟩) hS (fun q _ h => h) (fun q h => h) (fun q _ h => h) (fun E ce q9 u t H locs ht hvm hw hB hz hk9 hS hce hcv hcl => ?_) (fun r u t H locs ht hvm hw hB hz hk9 hS => ?_)
  · obtain ⟨hne, hE, hP⟩ := hB
    rw [ht] at hP
    rcases hk with hk | hk
    · exact absurd hk hne
    · subst hk
      subst hE
      refine vx_catch (own := RL) (name := x1) (E := x1) hown [] ⟨0, 10, 13, 13⟩ [] (by rw [htab]; rfl) (fun z hz => absurd hz List.not_mem_nil) (by decide) (by decide) (hts _ qw_465) (va_Nw.use rfl (hK.2 _ qw_464)) hce hcv hcl ?_
      refine lv_astore (lv' := [(4, .ref q9), (0, .ref (ad 30)), (1, .int a1), (2, .int a2), (3, .ref qo)]) hx hb dL_rest_13 hl (by decide) rfl (fun ls hl => ?_)
      refine lv_iconst (v := 1) hx hb dL_rest_15 (by decide) ?_
      exact W.iret (v := 1) hx hb hr (fun t ht hW => ⟨⟨1, (), rfl, rfl, P_at ht hP⟩, hS.F ht⟩) hS.2.2 dL_rest_16
  · obtain ⟨rfl, rfl⟩ := hw
    rw [ht] at hB
    refine lv_i2l hx hb dL_rest_8 rfl ?_
    refine va_last hx hb hKJ hB (dd_D hD) hS 59 3 dd_first rfl (ix_in (i := 0) (n := 1) (by decide)) dL_rest_9 (fun H locs hP _ hS => ?_)
    rw [dd_firstset] at hP
    refine lv_goto (tgt := 17) hx hb dL_rest_10 (by decide) ?_
    refine lv_iconst (v := 0) hx hb dL_rest_17 (by decide) ?_
    exact W.iret (v := 0) hx hb hr (fun t ht hW => ⟨⟨0, (), rfl, rfl, P_at ht hP⟩, hS.F ht⟩) hS.2.2 dL_rest_18
