theorem L_c13 {E : vEnv} {nm : String} {Qa : Option Value → Nat → (Nat → AC) → Prop} {S : Mem} {H i : Nat} (hI : INV S (mp S) H) (hH : H ≤ 40000) (hi : i + 6 ≤ eL E) (hE : eL E ≤ 3072) (kk : ∀ S2, INV S2 (mp S2) (H + 60) → V E RL nm cL_law 4 (some .boolean) 11 0 0 Qa 68 (hpS S2) 1372 (lwL i) []) : V E RL nm cL_law 4 (some .boolean) 11 0 0 Qa 68 (hpS S) 603 (lwL i) [] := by
  have hx := in_x hi hE
  refine V_aload_n (pc := 603) (i := 1) dL_law_603 rfl rfl ?_
  refine V_aload_n (pc := 604) (i := 0) dL_law_604 rfl rfl ?_
  refine V_iload_n (pc := 605) (i := 3) dL_law_605 rfl rfl ?_
  refine V_iconst (pc := 606) (v := 1) dL_law_606 (by decide) ?_
  refine V_iadd (pc := 607) dL_law_607 ?_
  refine V_sld (pc := 608) (hx 1 (by decide)) dL_law_608 ?_
  refine k_X11_windFor (pc := 609) lV_L_69 dL_law_609 (by decide) (Nat.le_of_ble_eq_true rfl) rfl (okBk (c_windFor hI hH)) (fun x S2 hc => ?_)
  obtain ⟨n, h, zn, z0, zw, zs, z1, zh, zS, zT⟩ := fx hI (okS hc).2.2
  refine V_aload_n (pc := 612) (i := 2) dL_law_612 rfl rfl ?_
  refine V_aload_n (pc := 613) (i := 0) dL_law_613 rfl rfl ?_
  refine V_iload_n (pc := 614) (i := 3) dL_law_614 rfl rfl ?_
  refine V_iconst (pc := 615) (v := 1) dL_law_615 (by decide) ?_
  refine V_iadd (pc := 616) dL_law_616 ?_
  refine V_sld (pc := 617) (hx 1 (by decide)) dL_law_617 ?_
  refine k_X12_windFor (pc := 618) lV_L_72 dL_law_618 (by decide) (Nat.le_of_ble_eq_true rfl) rfl (okBk (m_windFor zw)) (fun y S3 hm => ?_)
  obtain ⟨he, hI3⟩ := comb (okS hc) (okS hm)
  exact V_icmp_eq (pc := 621) (tgt := 1372) dL_law_621 (by decide) (fun _ => kk S3 (hI3.mono (by omega))) (fun h => absurd he h)
theorem L_c14 {E : vEnv} {nm : String} {Qa : Option Value → Nat → (Nat → AC) → Prop} {S : Mem} {H i : Nat} (hI : INV S (mp S) H) (hH : H ≤ 40000) (hi : i + 6 ≤ eL E) (hE : eL E ≤ 3072) (kk : ∀ S2, INV S2 (mp S2) (H + 60) → V E RL nm cL_law 4 (some .boolean) 11 0 0 Qa 68 (hpS S2) 1372 (lwL i) []) : V E RL nm cL_law 4 (some .boolean) 11 0 0 Qa 68 (hpS S) 626 (lwL i) [] := by
  have hx := in_x hi hE
  refine V_aload_n (pc := 626) (i := 1) dL_law_626 rfl rfl ?_
  refine V_aload_n (pc := 627) (i := 0) dL_law_627 rfl rfl ?_
  refine V_iload_n (pc := 628) (i := 3) dL_law_628 rfl rfl ?_
  refine V_iconst (pc := 629) (v := 1) dL_law_629 (by decide) ?_
  refine V_iadd (pc := 630) dL_law_630 ?_
  refine V_sld (pc := 631) (hx 1 (by decide)) dL_law_631 ?_
  refine V_aload_n (pc := 632) (i := 0) dL_law_632 rfl rfl ?_
  refine V_iload_n (pc := 633) (i := 3) dL_law_633 rfl rfl ?_
  refine V_iconst (pc := 634) (v := 2) dL_law_634 (by decide) ?_
  refine V_iadd (pc := 635) dL_law_635 ?_
  refine V_sld (pc := 636) (hx 2 (by decide)) dL_law_636 ?_
  refine V_aload_n (pc := 637) (i := 0) dL_law_637 rfl rfl ?_
  refine V_iload_n (pc := 638) (i := 3) dL_law_638 rfl rfl ?_
  refine V_iconst (pc := 639) (v := 3) dL_law_639 (by decide) ?_
  refine V_iadd (pc := 640) dL_law_640 ?_
  refine V_sld (pc := 641) (hx 3 (by decide)) dL_law_641 ?_
  refine k_X11_homeFor (pc := 642) lV_L_73 dL_law_642 (by decide) (Nat.le_of_ble_eq_true rfl) rfl (okBk (c_homeFor hI hH)) (fun x S2 hc => ?_)
  obtain ⟨n, h, zn, z0, zw, zs, z1, zh, zS, zT⟩ := fx hI (okS hc).2.2
  refine V_aload_n (pc := 645) (i := 2) dL_law_645 rfl rfl ?_
  refine V_aload_n (pc := 646) (i := 0) dL_law_646 rfl rfl ?_
  refine V_iload_n (pc := 647) (i := 3) dL_law_647 rfl rfl ?_
  refine V_iconst (pc := 648) (v := 1) dL_law_648 (by decide) ?_
  refine V_iadd (pc := 649) dL_law_649 ?_
  refine V_sld (pc := 650) (hx 1 (by decide)) dL_law_650 ?_
  refine V_aload_n (pc := 651) (i := 0) dL_law_651 rfl rfl ?_
  refine V_iload_n (pc := 652) (i := 3) dL_law_652 rfl rfl ?_
  refine V_iconst (pc := 653) (v := 2) dL_law_653 (by decide) ?_
  refine V_iadd (pc := 654) dL_law_654 ?_
  refine V_sld (pc := 655) (hx 2 (by decide)) dL_law_655 ?_
  refine V_aload_n (pc := 656) (i := 0) dL_law_656 rfl rfl ?_
  refine V_iload_n (pc := 657) (i := 3) dL_law_657 rfl rfl ?_
  refine V_iconst (pc := 658) (v := 3) dL_law_658 (by decide) ?_
  refine V_iadd (pc := 659) dL_law_659 ?_
  refine V_sld (pc := 660) (hx 3 (by decide)) dL_law_660 ?_
  refine k_X12_homeFor (pc := 661) lV_L_76 dL_law_661 (by decide) (Nat.le_of_ble_eq_true rfl) rfl (okBk (m_homeFor zw)) (fun y S3 hm => ?_)
  obtain ⟨he, hI3⟩ := comb (okS hc) (okS hm)
  exact V_icmp_eq (pc := 664) (tgt := 1372) dL_law_664 (by decide) (fun _ => kk S3 (hI3.mono (by omega))) (fun h => absurd he h)
theorem L_c15 {E : vEnv} {nm : String} {Qa : Option Value → Nat → (Nat → AC) → Prop} {S : Mem} {H i : Nat} (hI : INV S (mp S) H) (hH : H ≤ 40000) (hi : i + 6 ≤ eL E) (hE : eL E ≤ 3072) (kk : ∀ S2, INV S2 (mp S2) (H + 60) → V E RL nm cL_law 4 (some .boolean) 11 0 0 Qa 68 (hpS S2) 1372 (lwL i) []) : V E RL nm cL_law 4 (some .boolean) 11 0 0 Qa 68 (hpS S) 669 (lwL i) [] := by
  have hx := in_x hi hE
  refine V_aload_n (pc := 669) (i := 1) dL_law_669 rfl rfl ?_
  refine V_aload_n (pc := 670) (i := 0) dL_law_670 rfl rfl ?_
  refine V_iload_n (pc := 671) (i := 3) dL_law_671 rfl rfl ?_
  refine V_iconst (pc := 672) (v := 1) dL_law_672 (by decide) ?_
  refine V_iadd (pc := 673) dL_law_673 ?_
  refine V_sld (pc := 674) (hx 1 (by decide)) dL_law_674 ?_
  refine V_aload_n (pc := 675) (i := 0) dL_law_675 rfl rfl ?_
  refine V_iload_n (pc := 676) (i := 3) dL_law_676 rfl rfl ?_
  refine V_iconst (pc := 677) (v := 2) dL_law_677 (by decide) ?_
  refine V_iadd (pc := 678) dL_law_678 ?_
  refine V_sld (pc := 679) (hx 2 (by decide)) dL_law_679 ?_
  refine k_X11_build (pc := 680) lV_L_77 dL_law_680 (by decide) (Nat.le_of_ble_eq_true rfl) rfl (okBk (c_build hI hH)) (fun x S2 hc => ?_)
  obtain ⟨n, h, zn, z0, zw, zs, z1, zh, zS, zT⟩ := fx hI (okS hc).2.2
  refine V_aload_n (pc := 683) (i := 2) dL_law_683 rfl rfl ?_
  refine V_aload_n (pc := 684) (i := 0) dL_law_684 rfl rfl ?_
  refine V_iload_n (pc := 685) (i := 3) dL_law_685 rfl rfl ?_
  refine V_iconst (pc := 686) (v := 1) dL_law_686 (by decide) ?_
  refine V_iadd (pc := 687) dL_law_687 ?_
  refine V_sld (pc := 688) (hx 1 (by decide)) dL_law_688 ?_
  refine V_aload_n (pc := 689) (i := 0) dL_law_689 rfl rfl ?_
  refine V_iload_n (pc := 690) (i := 3) dL_law_690 rfl rfl ?_
  refine V_iconst (pc := 691) (v := 2) dL_law_691 (by decide) ?_
  refine V_iadd (pc := 692) dL_law_692 ?_
  refine V_sld (pc := 693) (hx 2 (by decide)) dL_law_693 ?_
  refine k_X12_build (pc := 694) lV_L_80 dL_law_694 (by decide) (Nat.le_of_ble_eq_true rfl) rfl (okBk (m_build zw)) (fun y S3 hm => ?_)
  obtain ⟨he, hI3⟩ := comb (okS hc) (okS hm)
  exact V_icmp_eq (pc := 697) (tgt := 1372) dL_law_697 (by decide) (fun _ => kk S3 (hI3.mono (by omega))) (fun h => absurd he h)
theorem L_c16 {E : vEnv} {nm : String} {Qa : Option Value → Nat → (Nat → AC) → Prop} {S : Mem} {H i : Nat} (hI : INV S (mp S) H) (hH : H ≤ 40000) (hi : i + 6 ≤ eL E) (hE : eL E ≤ 3072) (kk : ∀ S2, INV S2 (mp S2) (H + 60) → V E RL nm cL_law 4 (some .boolean) 11 0 0 Qa 68 (hpS S2) 1372 (lwL i) []) : V E RL nm cL_law 4 (some .boolean) 11 0 0 Qa 68 (hpS S) 702 (lwL i) [] := by
  have hx := in_x hi hE
  refine V_aload_n (pc := 702) (i := 1) dL_law_702 rfl rfl ?_
  refine V_aload_n (pc := 703) (i := 0) dL_law_703 rfl rfl ?_
  refine V_iload_n (pc := 704) (i := 3) dL_law_704 rfl rfl ?_
  refine V_iconst (pc := 705) (v := 1) dL_law_705 (by decide) ?_
  refine V_iadd (pc := 706) dL_law_706 ?_
  refine V_sld (pc := 707) (hx 1 (by decide)) dL_law_707 ?_
  refine V_aload_n (pc := 708) (i := 0) dL_law_708 rfl rfl ?_
  refine V_iload_n (pc := 709) (i := 3) dL_law_709 rfl rfl ?_
  refine V_iconst (pc := 710) (v := 2) dL_law_710 (by decide) ?_
  refine V_iadd (pc := 711) dL_law_711 ?_
  refine V_sld (pc := 712) (hx 2 (by decide)) dL_law_712 ?_
  refine k_X11_kindFor (pc := 713) lV_L_81 dL_law_713 (by decide) (Nat.le_of_ble_eq_true rfl) rfl (okBk (c_kindFor hI hH)) (fun x S2 hc => ?_)
  obtain ⟨n, h, zn, z0, zw, zs, z1, zh, zS, zT⟩ := fx hI (okS hc).2.2
  refine V_aload_n (pc := 716) (i := 2) dL_law_716 rfl rfl ?_
  refine V_aload_n (pc := 717) (i := 0) dL_law_717 rfl rfl ?_
  refine V_iload_n (pc := 718) (i := 3) dL_law_718 rfl rfl ?_
  refine V_iconst (pc := 719) (v := 1) dL_law_719 (by decide) ?_
  refine V_iadd (pc := 720) dL_law_720 ?_
  refine V_sld (pc := 721) (hx 1 (by decide)) dL_law_721 ?_
  refine V_aload_n (pc := 722) (i := 0) dL_law_722 rfl rfl ?_
  refine V_iload_n (pc := 723) (i := 3) dL_law_723 rfl rfl ?_
  refine V_iconst (pc := 724) (v := 2) dL_law_724 (by decide) ?_
  refine V_iadd (pc := 725) dL_law_725 ?_
  refine V_sld (pc := 726) (hx 2 (by decide)) dL_law_726 ?_
  refine k_X12_kindFor (pc := 727) lV_L_84 dL_law_727 (by decide) (Nat.le_of_ble_eq_true rfl) rfl (okBk (m_kindFor zw)) (fun y S3 hm => ?_)
  obtain ⟨he, hI3⟩ := comb (okS hc) (okS hm)
  exact V_icmp_eq (pc := 730) (tgt := 1372) dL_law_730 (by decide) (fun _ => kk S3 (hI3.mono (by omega))) (fun h => absurd he h)
theorem L_c17 {E : vEnv} {nm : String} {Qa : Option Value → Nat → (Nat → AC) → Prop} {S : Mem} {H i : Nat} (hI : INV S (mp S) H) (hH : H ≤ 40000) (hi : i + 6 ≤ eL E) (hE : eL E ≤ 3072) (kk : ∀ S2, INV S2 (mp S2) (H + 60) → V E RL nm cL_law 4 (some .boolean) 11 0 0 Qa 68 (hpS S2) 1372 (lwL i) []) : V E RL nm cL_law 4 (some .boolean) 11 0 0 Qa 68 (hpS S) 735 (lwL i) [] := by
  have hx := in_x hi hE
  refine V_aload_n (pc := 735) (i := 1) dL_law_735 rfl rfl ?_
  refine V_aload_n (pc := 736) (i := 0) dL_law_736 rfl rfl ?_
  refine V_iload_n (pc := 737) (i := 3) dL_law_737 rfl rfl ?_
  refine V_iconst (pc := 738) (v := 1) dL_law_738 (by decide) ?_
  refine V_iadd (pc := 739) dL_law_739 ?_
  refine V_sld (pc := 740) (hx 1 (by decide)) dL_law_740 ?_
  refine V_aload_n (pc := 741) (i := 0) dL_law_741 rfl rfl ?_
  refine V_iload_n (pc := 742) (i := 3) dL_law_742 rfl rfl ?_
  refine V_iconst (pc := 743) (v := 2) dL_law_743 (by decide) ?_
  refine V_iadd (pc := 744) dL_law_744 ?_
  refine V_sld (pc := 745) (hx 2 (by decide)) dL_law_745 ?_
  refine V_aload_n (pc := 746) (i := 0) dL_law_746 rfl rfl ?_
  refine V_iload_n (pc := 747) (i := 3) dL_law_747 rfl rfl ?_
  refine V_iconst (pc := 748) (v := 3) dL_law_748 (by decide) ?_
  refine V_iadd (pc := 749) dL_law_749 ?_
  refine V_sld (pc := 750) (hx 3 (by decide)) dL_law_750 ?_
  refine V_aload_n (pc := 751) (i := 0) dL_law_751 rfl rfl ?_
  refine V_iload_n (pc := 752) (i := 3) dL_law_752 rfl rfl ?_
  refine V_iconst (pc := 753) (v := 4) dL_law_753 (by decide) ?_
  refine V_iadd (pc := 754) dL_law_754 ?_
  refine V_sld (pc := 755) (hx 4 (by decide)) dL_law_755 ?_
  refine k_X11_logsFor (pc := 756) lV_L_85 dL_law_756 (by decide) (Nat.le_of_ble_eq_true rfl) rfl (okBk (c_logsFor hI hH)) (fun x S2 hc => ?_)
  obtain ⟨n, h, zn, z0, zw, zs, z1, zh, zS, zT⟩ := fx hI (okS hc).2.2
  refine V_aload_n (pc := 759) (i := 2) dL_law_759 rfl rfl ?_
  refine V_aload_n (pc := 760) (i := 0) dL_law_760 rfl rfl ?_
  refine V_iload_n (pc := 761) (i := 3) dL_law_761 rfl rfl ?_
  refine V_iconst (pc := 762) (v := 1) dL_law_762 (by decide) ?_
  refine V_iadd (pc := 763) dL_law_763 ?_
  refine V_sld (pc := 764) (hx 1 (by decide)) dL_law_764 ?_
  refine V_aload_n (pc := 765) (i := 0) dL_law_765 rfl rfl ?_
  refine V_iload_n (pc := 766) (i := 3) dL_law_766 rfl rfl ?_
  refine V_iconst (pc := 767) (v := 2) dL_law_767 (by decide) ?_
  refine V_iadd (pc := 768) dL_law_768 ?_
  refine V_sld (pc := 769) (hx 2 (by decide)) dL_law_769 ?_
  refine V_aload_n (pc := 770) (i := 0) dL_law_770 rfl rfl ?_
  refine V_iload_n (pc := 771) (i := 3) dL_law_771 rfl rfl ?_
  refine V_iconst (pc := 772) (v := 3) dL_law_772 (by decide) ?_
  refine V_iadd (pc := 773) dL_law_773 ?_
  refine V_sld (pc := 774) (hx 3 (by decide)) dL_law_774 ?_
  refine V_aload_n (pc := 775) (i := 0) dL_law_775 rfl rfl ?_
  refine V_iload_n (pc := 776) (i := 3) dL_law_776 rfl rfl ?_
  refine V_iconst (pc := 777) (v := 4) dL_law_777 (by decide) ?_
  refine V_iadd (pc := 778) dL_law_778 ?_
  refine V_sld (pc := 779) (hx 4 (by decide)) dL_law_779 ?_
  refine k_X12_logsFor (pc := 780) lV_L_89 dL_law_780 (by decide) (Nat.le_of_ble_eq_true rfl) rfl (okBk (m_logsFor zw)) (fun y S3 hm => ?_)
  obtain ⟨he, hI3⟩ := comb (okS hc) (okS hm)
  exact V_icmp_eq (pc := 783) (tgt := 1372) dL_law_783 (by decide) (fun _ => kk S3 (hI3.mono (by omega))) (fun h => absurd he h)
theorem L_c18 {E : vEnv} {nm : String} {Qa : Option Value → Nat → (Nat → AC) → Prop} {S : Mem} {H i : Nat} (hI : INV S (mp S) H) (hH : H ≤ 40000) (hi : i + 6 ≤ eL E) (hE : eL E ≤ 3072) (kk : ∀ S2, INV S2 (mp S2) (H + 60) → V E RL nm cL_law 4 (some .boolean) 11 0 0 Qa 68 (hpS S2) 1372 (lwL i) []) : V E RL nm cL_law 4 (some .boolean) 11 0 0 Qa 68 (hpS S) 788 (lwL i) [] := by
  have hx := in_x hi hE
  refine V_aload_n (pc := 788) (i := 1) dL_law_788 rfl rfl ?_
  refine V_aload_n (pc := 789) (i := 0) dL_law_789 rfl rfl ?_
  refine V_iload_n (pc := 790) (i := 3) dL_law_790 rfl rfl ?_
  refine V_iconst (pc := 791) (v := 1) dL_law_791 (by decide) ?_
  refine V_iadd (pc := 792) dL_law_792 ?_
  refine V_sld (pc := 793) (hx 1 (by decide)) dL_law_793 ?_
  refine k_X11_quench (pc := 794) lV_L_90 dL_law_794 (by decide) (Nat.le_of_ble_eq_true rfl) rfl (okBk (c_quench hI hH)) (fun x S2 hc => ?_)
  obtain ⟨n, h, zn, z0, zw, zs, z1, zh, zS, zT⟩ := fx hI (okS hc).2.2
  refine V_aload_n (pc := 797) (i := 2) dL_law_797 rfl rfl ?_
  refine V_aload_n (pc := 798) (i := 0) dL_law_798 rfl rfl ?_
  refine V_iload_n (pc := 799) (i := 3) dL_law_799 rfl rfl ?_
  refine V_iconst (pc := 800) (v := 1) dL_law_800 (by decide) ?_
  refine V_iadd (pc := 801) dL_law_801 ?_
  refine V_sld (pc := 802) (hx 1 (by decide)) dL_law_802 ?_
  refine k_X12_quench (pc := 803) lV_L_93 dL_law_803 (by decide) (Nat.le_of_ble_eq_true rfl) rfl (okBk (m_quench zw)) (fun y S3 hm => ?_)
  obtain ⟨he, hI3⟩ := comb (okS hc) (okS hm)
  exact V_icmp_eq (pc := 806) (tgt := 1372) dL_law_806 (by decide) (fun _ => kk S3 (hI3.mono (by omega))) (fun h => absurd he h)
theorem L_c19 {E : vEnv} {nm : String} {Qa : Option Value → Nat → (Nat → AC) → Prop} {S : Mem} {H i : Nat} (hI : INV S (mp S) H) (hH : H ≤ 40000) (hi : i + 6 ≤ eL E) (hE : eL E ≤ 3072) (kk : ∀ S2, INV S2 (mp S2) (H + 60) → V E RL nm cL_law 4 (some .boolean) 11 0 0 Qa 68 (hpS S2) 1372 (lwL i) []) : V E RL nm cL_law 4 (some .boolean) 11 0 0 Qa 68 (hpS S) 811 (lwL i) [] := by
  have hx := in_x hi hE
  refine V_aload_n (pc := 811) (i := 1) dL_law_811 rfl rfl ?_
  refine V_aload_n (pc := 812) (i := 0) dL_law_812 rfl rfl ?_
  refine V_iload_n (pc := 813) (i := 3) dL_law_813 rfl rfl ?_
  refine V_iconst (pc := 814) (v := 1) dL_law_814 (by decide) ?_
  refine V_iadd (pc := 815) dL_law_815 ?_
  refine V_sld (pc := 816) (hx 1 (by decide)) dL_law_816 ?_
  refine V_aload_n (pc := 817) (i := 0) dL_law_817 rfl rfl ?_
  refine V_iload_n (pc := 818) (i := 3) dL_law_818 rfl rfl ?_
  refine V_iconst (pc := 819) (v := 2) dL_law_819 (by decide) ?_
  refine V_iadd (pc := 820) dL_law_820 ?_
  refine V_sld (pc := 821) (hx 2 (by decide)) dL_law_821 ?_
  refine k_X11_fits (pc := 822) lV_L_94 dL_law_822 (by decide) (Nat.le_of_ble_eq_true rfl) rfl (okBk (c_fits hI hH)) (fun x S2 hc => ?_)
  obtain ⟨n, h, zn, z0, zw, zs, z1, zh, zS, zT⟩ := fx hI (okS hc).2.2
  refine V_aload_n (pc := 825) (i := 2) dL_law_825 rfl rfl ?_
  refine V_aload_n (pc := 826) (i := 0) dL_law_826 rfl rfl ?_
  refine V_iload_n (pc := 827) (i := 3) dL_law_827 rfl rfl ?_
  refine V_iconst (pc := 828) (v := 1) dL_law_828 (by decide) ?_
  refine V_iadd (pc := 829) dL_law_829 ?_
  refine V_sld (pc := 830) (hx 1 (by decide)) dL_law_830 ?_
  refine V_aload_n (pc := 831) (i := 0) dL_law_831 rfl rfl ?_
  refine V_iload_n (pc := 832) (i := 3) dL_law_832 rfl rfl ?_
  refine V_iconst (pc := 833) (v := 2) dL_law_833 (by decide) ?_
  refine V_iadd (pc := 834) dL_law_834 ?_
  refine V_sld (pc := 835) (hx 2 (by decide)) dL_law_835 ?_
  refine k_X12_fits (pc := 836) lV_L_97 dL_law_836 (by decide) (Nat.le_of_ble_eq_true rfl) rfl (okBk (m_fits zw zS)) (fun y S3 hm => ?_)
  obtain ⟨he, hI3⟩ := comb (okS hc) (okS hm)
  exact V_icmp_eq (pc := 839) (tgt := 1372) dL_law_839 (by decide) (fun _ => kk S3 (hI3.mono (by omega))) (fun h => absurd he h)
theorem L_c20 {E : vEnv} {nm : String} {Qa : Option Value → Nat → (Nat → AC) → Prop} {S : Mem} {H i : Nat} (hI : INV S (mp S) H) (hH : H ≤ 40000) (hi : i + 6 ≤ eL E) (hE : eL E ≤ 3072) (kk : ∀ S2, INV S2 (mp S2) (H + 60) → V E RL nm cL_law 4 (some .boolean) 11 0 0 Qa 68 (hpS S2) 1372 (lwL i) []) : V E RL nm cL_law 4 (some .boolean) 11 0 0 Qa 68 (hpS S) 844 (lwL i) [] := by
  have hx := in_x hi hE
  refine V_aload_n (pc := 844) (i := 1) dL_law_844 rfl rfl ?_
  refine V_aload_n (pc := 845) (i := 0) dL_law_845 rfl rfl ?_
  refine V_iload_n (pc := 846) (i := 3) dL_law_846 rfl rfl ?_
  refine V_iconst (pc := 847) (v := 1) dL_law_847 (by decide) ?_
  refine V_iadd (pc := 848) dL_law_848 ?_
  refine V_sld (pc := 849) (hx 1 (by decide)) dL_law_849 ?_
  refine V_aload_n (pc := 850) (i := 0) dL_law_850 rfl rfl ?_
  refine V_iload_n (pc := 851) (i := 3) dL_law_851 rfl rfl ?_
  refine V_iconst (pc := 852) (v := 2) dL_law_852 (by decide) ?_
  refine V_iadd (pc := 853) dL_law_853 ?_
  refine V_sld (pc := 854) (hx 2 (by decide)) dL_law_854 ?_
  refine k_X11_kinds (pc := 855) lV_L_98 dL_law_855 (by decide) (Nat.le_of_ble_eq_true rfl) rfl (okBk (c_kinds hI hH)) (fun x S2 hc => ?_)
  obtain ⟨n, h, zn, z0, zw, zs, z1, zh, zS, zT⟩ := fx hI (okS hc).2.2
  refine V_aload_n (pc := 858) (i := 2) dL_law_858 rfl rfl ?_
  refine V_aload_n (pc := 859) (i := 0) dL_law_859 rfl rfl ?_
  refine V_iload_n (pc := 860) (i := 3) dL_law_860 rfl rfl ?_
  refine V_iconst (pc := 861) (v := 1) dL_law_861 (by decide) ?_
  refine V_iadd (pc := 862) dL_law_862 ?_
  refine V_sld (pc := 863) (hx 1 (by decide)) dL_law_863 ?_
  refine V_aload_n (pc := 864) (i := 0) dL_law_864 rfl rfl ?_
  refine V_iload_n (pc := 865) (i := 3) dL_law_865 rfl rfl ?_
  refine V_iconst (pc := 866) (v := 2) dL_law_866 (by decide) ?_
  refine V_iadd (pc := 867) dL_law_867 ?_
  refine V_sld (pc := 868) (hx 2 (by decide)) dL_law_868 ?_
  refine k_X12_kinds (pc := 869) lV_L_101 dL_law_869 (by decide) (Nat.le_of_ble_eq_true rfl) rfl (okBk (m_kinds zw zS)) (fun y S3 hm => ?_)
  obtain ⟨he, hI3⟩ := comb (okS hc) (okS hm)
  exact V_icmp_eq (pc := 872) (tgt := 1372) dL_law_872 (by decide) (fun _ => kk S3 (hI3.mono (by omega))) (fun h => absurd he h)
theorem L_c21 {E : vEnv} {nm : String} {Qa : Option Value → Nat → (Nat → AC) → Prop} {S : Mem} {H i : Nat} (hI : INV S (mp S) H) (hH : H ≤ 40000) (hi : i + 6 ≤ eL E) (hE : eL E ≤ 3072) (kk : ∀ S2, INV S2 (mp S2) (H + 60) → V E RL nm cL_law 4 (some .boolean) 11 0 0 Qa 68 (hpS S2) 1372 (lwL i) []) : V E RL nm cL_law 4 (some .boolean) 11 0 0 Qa 68 (hpS S) 877 (lwL i) [] := by
  have hx := in_x hi hE
  refine V_aload_n (pc := 877) (i := 1) dL_law_877 rfl rfl ?_
  refine V_aload_n (pc := 878) (i := 0) dL_law_878 rfl rfl ?_
  refine V_iload_n (pc := 879) (i := 3) dL_law_879 rfl rfl ?_
  refine V_iconst (pc := 880) (v := 1) dL_law_880 (by decide) ?_
  refine V_iadd (pc := 881) dL_law_881 ?_
  refine V_sld (pc := 882) (hx 1 (by decide)) dL_law_882 ?_
  refine k_X11_winds (pc := 883) lV_L_102 dL_law_883 (by decide) (Nat.le_of_ble_eq_true rfl) rfl (okBk (c_winds hI hH)) (fun x S2 hc => ?_)
  obtain ⟨n, h, zn, z0, zw, zs, z1, zh, zS, zT⟩ := fx hI (okS hc).2.2
  refine V_aload_n (pc := 886) (i := 2) dL_law_886 rfl rfl ?_
  refine V_aload_n (pc := 887) (i := 0) dL_law_887 rfl rfl ?_
  refine V_iload_n (pc := 888) (i := 3) dL_law_888 rfl rfl ?_
  refine V_iconst (pc := 889) (v := 1) dL_law_889 (by decide) ?_
  refine V_iadd (pc := 890) dL_law_890 ?_
  refine V_sld (pc := 891) (hx 1 (by decide)) dL_law_891 ?_
  refine k_X12_winds (pc := 892) lV_L_105 dL_law_892 (by decide) (Nat.le_of_ble_eq_true rfl) rfl (okBk (m_winds zw z1 (Nat.le_trans zh hH))) (fun y S3 hm => ?_)
  obtain ⟨he, hI3⟩ := comb (okS hc) (okS hm)
  exact V_icmp_eq (pc := 895) (tgt := 1372) dL_law_895 (by decide) (fun _ => kk S3 (hI3)) (fun h => absurd he h)
theorem L_c22 {E : vEnv} {nm : String} {Qa : Option Value → Nat → (Nat → AC) → Prop} {S : Mem} {H i : Nat} (hI : INV S (mp S) H) (hH : H ≤ 40000) (hi : i + 6 ≤ eL E) (hE : eL E ≤ 3072) (kk : ∀ S2, INV S2 (mp S2) (H + 60) → V E RL nm cL_law 4 (some .boolean) 11 0 0 Qa 68 (hpS S2) 1372 (lwL i) []) : V E RL nm cL_law 4 (some .boolean) 11 0 0 Qa 68 (hpS S) 900 (lwL i) [] := by
  have hx := in_x hi hE
  refine V_aload_n (pc := 900) (i := 1) dL_law_900 rfl rfl ?_
  refine V_aload_n (pc := 901) (i := 0) dL_law_901 rfl rfl ?_
  refine V_iload_n (pc := 902) (i := 3) dL_law_902 rfl rfl ?_
  refine V_iconst (pc := 903) (v := 1) dL_law_903 (by decide) ?_
  refine V_iadd (pc := 904) dL_law_904 ?_
  refine V_sld (pc := 905) (hx 1 (by decide)) dL_law_905 ?_
  refine V_aload_n (pc := 906) (i := 0) dL_law_906 rfl rfl ?_
  refine V_iload_n (pc := 907) (i := 3) dL_law_907 rfl rfl ?_
  refine V_iconst (pc := 908) (v := 2) dL_law_908 (by decide) ?_
  refine V_iadd (pc := 909) dL_law_909 ?_
  refine V_sld (pc := 910) (hx 2 (by decide)) dL_law_910 ?_
  refine V_aload_n (pc := 911) (i := 0) dL_law_911 rfl rfl ?_
  refine V_iload_n (pc := 912) (i := 3) dL_law_912 rfl rfl ?_
  refine V_iconst (pc := 913) (v := 3) dL_law_913 (by decide) ?_
  refine V_iadd (pc := 914) dL_law_914 ?_
  refine V_sld (pc := 915) (hx 3 (by decide)) dL_law_915 ?_
  refine k_X11_odds (pc := 916) lV_L_106 dL_law_916 (by decide) (Nat.le_of_ble_eq_true rfl) rfl (okBk (c_odds hI)) (fun x S2 hc => ?_)
  obtain ⟨n, h, zn, z0, zw, zs, z1, zh, zS, zT⟩ := fx hI (okS hc).2.2
  refine V_aload_n (pc := 919) (i := 2) dL_law_919 rfl rfl ?_
  refine V_aload_n (pc := 920) (i := 0) dL_law_920 rfl rfl ?_
  refine V_iload_n (pc := 921) (i := 3) dL_law_921 rfl rfl ?_
  refine V_iconst (pc := 922) (v := 1) dL_law_922 (by decide) ?_
  refine V_iadd (pc := 923) dL_law_923 ?_
  refine V_sld (pc := 924) (hx 1 (by decide)) dL_law_924 ?_
  refine V_aload_n (pc := 925) (i := 0) dL_law_925 rfl rfl ?_
  refine V_iload_n (pc := 926) (i := 3) dL_law_926 rfl rfl ?_
  refine V_iconst (pc := 927) (v := 2) dL_law_927 (by decide) ?_
  refine V_iadd (pc := 928) dL_law_928 ?_
  refine V_sld (pc := 929) (hx 2 (by decide)) dL_law_929 ?_
  refine V_aload_n (pc := 930) (i := 0) dL_law_930 rfl rfl ?_
  refine V_iload_n (pc := 931) (i := 3) dL_law_931 rfl rfl ?_
  refine V_iconst (pc := 932) (v := 3) dL_law_932 (by decide) ?_
  refine V_iadd (pc := 933) dL_law_933 ?_
  refine V_sld (pc := 934) (hx 3 (by decide)) dL_law_934 ?_
  refine k_X12_odds (pc := 935) lV_L_110 dL_law_935 (by decide) (Nat.le_of_ble_eq_true rfl) rfl (okBk (m_odds z0 zn)) (fun y S3 hm => ?_)
  obtain ⟨he, hI3⟩ := combL (okS hc) (okS hm)
  refine V_lcmp (pc := 938) dL_law_938 ?_
  exact V_if_eq (pc := 939) (tgt := 1372) dL_law_939 (by decide) (fun _ => kk S3 (hI3.mono (by omega))) (fun h => absurd (lcmp_eq he) h)
theorem L_c23 {E : vEnv} {nm : String} {Qa : Option Value → Nat → (Nat → AC) → Prop} {S : Mem} {H i : Nat} (hI : INV S (mp S) H) (hH : H ≤ 40000) (hi : i + 6 ≤ eL E) (hE : eL E ≤ 3072) (kk : ∀ S2, INV S2 (mp S2) (H + 60) → V E RL nm cL_law 4 (some .boolean) 11 0 0 Qa 68 (hpS S2) 1372 (lwL i) []) : V E RL nm cL_law 4 (some .boolean) 11 0 0 Qa 68 (hpS S) 944 (lwL i) [] := by
  have hx := in_x hi hE
  refine V_aload_n (pc := 944) (i := 1) dL_law_944 rfl rfl ?_
  refine V_aload_n (pc := 945) (i := 0) dL_law_945 rfl rfl ?_
  refine V_iload_n (pc := 946) (i := 3) dL_law_946 rfl rfl ?_
  refine V_iconst (pc := 947) (v := 1) dL_law_947 (by decide) ?_
  refine V_iadd (pc := 948) dL_law_948 ?_
  refine V_sld (pc := 949) (hx 1 (by decide)) dL_law_949 ?_
  refine k_X11_seed (pc := 950) lV_L_111 dL_law_950 (by decide) (Nat.le_of_ble_eq_true rfl) rfl (okBk (c_seed hI)) (fun x S2 hc => ?_)
  obtain ⟨n, h, zn, z0, zw, zs, z1, zh, zS, zT⟩ := fx hI (okS hc).2.2
  refine V_aload_n (pc := 953) (i := 2) dL_law_953 rfl rfl ?_
  refine V_aload_n (pc := 954) (i := 0) dL_law_954 rfl rfl ?_
  refine V_iload_n (pc := 955) (i := 3) dL_law_955 rfl rfl ?_
  refine V_iconst (pc := 956) (v := 1) dL_law_956 (by decide) ?_
  refine V_iadd (pc := 957) dL_law_957 ?_
  refine V_sld (pc := 958) (hx 1 (by decide)) dL_law_958 ?_
  refine k_X12_seed (pc := 959) lV_L_114 dL_law_959 (by decide) (Nat.le_of_ble_eq_true rfl) rfl (okBk (m_seed)) (fun y S3 hm => ?_)
  obtain ⟨he, hI3⟩ := comb (okS hc) (okS hm)
  exact V_icmp_eq (pc := 962) (tgt := 1372) dL_law_962 (by decide) (fun _ => kk S3 (hI3.mono (by omega))) (fun h => absurd he h)
theorem L_c24 {E : vEnv} {nm : String} {Qa : Option Value → Nat → (Nat → AC) → Prop} {S : Mem} {H i : Nat} (hI : INV S (mp S) H) (hH : H ≤ 40000) (hi : i + 6 ≤ eL E) (hE : eL E ≤ 3072) (kk : ∀ S2, INV S2 (mp S2) (H + 60) → V E RL nm cL_law 4 (some .boolean) 11 0 0 Qa 68 (hpS S2) 1372 (lwL i) []) : V E RL nm cL_law 4 (some .boolean) 11 0 0 Qa 68 (hpS S) 967 (lwL i) [] := by
  have hx := in_x hi hE
  refine V_aload_n (pc := 967) (i := 1) dL_law_967 rfl rfl ?_
  refine V_aload_n (pc := 968) (i := 0) dL_law_968 rfl rfl ?_
  refine V_iload_n (pc := 969) (i := 3) dL_law_969 rfl rfl ?_
  refine V_iconst (pc := 970) (v := 1) dL_law_970 (by decide) ?_
  refine V_iadd (pc := 971) dL_law_971 ?_
  refine V_sld (pc := 972) (hx 1 (by decide)) dL_law_972 ?_
  refine V_aload_n (pc := 973) (i := 0) dL_law_973 rfl rfl ?_
  refine V_iload_n (pc := 974) (i := 3) dL_law_974 rfl rfl ?_
  refine V_iconst (pc := 975) (v := 2) dL_law_975 (by decide) ?_
  refine V_iadd (pc := 976) dL_law_976 ?_
  refine V_sld (pc := 977) (hx 2 (by decide)) dL_law_977 ?_
  refine k_X11_feed (pc := 978) lV_L_115 dL_law_978 (by decide) (Nat.le_of_ble_eq_true rfl) rfl (okBk (c_feed hI)) (fun x S2 hc => ?_)
  obtain ⟨n, h, zn, z0, zw, zs, z1, zh, zS, zT⟩ := fx hI (okS hc).2.2
  refine V_aload_n (pc := 981) (i := 2) dL_law_981 rfl rfl ?_
  refine V_aload_n (pc := 982) (i := 0) dL_law_982 rfl rfl ?_
  refine V_iload_n (pc := 983) (i := 3) dL_law_983 rfl rfl ?_
  refine V_iconst (pc := 984) (v := 1) dL_law_984 (by decide) ?_
  refine V_iadd (pc := 985) dL_law_985 ?_
  refine V_sld (pc := 986) (hx 1 (by decide)) dL_law_986 ?_
  refine V_aload_n (pc := 987) (i := 0) dL_law_987 rfl rfl ?_
  refine V_iload_n (pc := 988) (i := 3) dL_law_988 rfl rfl ?_
  refine V_iconst (pc := 989) (v := 2) dL_law_989 (by decide) ?_
  refine V_iadd (pc := 990) dL_law_990 ?_
  refine V_sld (pc := 991) (hx 2 (by decide)) dL_law_991 ?_
  refine k_X12_feed (pc := 992) lV_L_118 dL_law_992 (by decide) (Nat.le_of_ble_eq_true rfl) rfl (okBk (m_feed zT)) (fun y S3 hm => ?_)
  obtain ⟨he, hI3⟩ := comb (okS hc) (okS hm)
  exact V_icmp_eq (pc := 995) (tgt := 1372) dL_law_995 (by decide) (fun _ => kk S3 (hI3.mono (by omega))) (fun h => absurd he h)
theorem L_c25 {E : vEnv} {nm : String} {Qa : Option Value → Nat → (Nat → AC) → Prop} {S : Mem} {H i : Nat} (hI : INV S (mp S) H) (hH : H ≤ 40000) (hi : i + 6 ≤ eL E) (hE : eL E ≤ 3072) (kk : ∀ S2, INV S2 (mp S2) (H + 60) → V E RL nm cL_law 4 (some .boolean) 11 0 0 Qa 68 (hpS S2) 1372 (lwL i) []) : V E RL nm cL_law 4 (some .boolean) 11 0 0 Qa 68 (hpS S) 1000 (lwL i) [] := by
  refine V_aload_n (pc := 1000) (i := 1) dL_law_1000 rfl rfl ?_
  refine k_X11_wipe (pc := 1001) lV_L_119 dL_law_1001 (by decide) (Nat.le_of_ble_eq_true rfl) rfl (okBk (c_wipe hI)) (fun x S2 hc => ?_)
  obtain ⟨n, h, zn, z0, zw, zs, z1, zh, zS, zT⟩ := fx hI (okS hc).2.2
  refine V_aload_n (pc := 1004) (i := 2) dL_law_1004 rfl rfl ?_
  refine k_X12_wipe (pc := 1005) lV_L_122 dL_law_1005 (by decide) (Nat.le_of_ble_eq_true rfl) rfl (okBk (m_wipe)) (fun y S3 hm => ?_)
  obtain ⟨he, hI3⟩ := comb (okS hc) (okS hm)
  exact V_icmp_eq (pc := 1008) (tgt := 1372) dL_law_1008 (by decide) (fun _ => kk S3 (hI3.mono (by omega))) (fun h => absurd he h)
