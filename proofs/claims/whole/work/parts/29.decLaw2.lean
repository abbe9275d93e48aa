theorem dL_law_606 : decode code 606 = .ok (.ireturn, 1) := by decide +kernel
theorem dL_law_607 : decode code 607 = .ok (.iload 5, 2) := by decide +kernel
theorem dL_law_609 : decode code 609 = .ok (.ifCond .ne 14, 3) := by decide +kernel
theorem dL_law_612 : decode code 612 = .ok (.aload_n 3, 1) := by decide +kernel
theorem dL_law_613 : decode code 613 = .ok (.iconst 0, 1) := by decide +kernel
theorem dL_law_614 : decode code 614 = .ok (.laload, 1) := by decide +kernel
theorem dL_law_615 : decode code 615 = .ok (.lload 6, 2) := by decide +kernel
theorem dL_law_617 : decode code 617 = .ok (.lcmp, 1) := by decide +kernel
theorem dL_law_618 : decode code 618 = .ok (.ifCond .eq 5, 3) := by decide +kernel
theorem dL_law_621 : decode code 621 = .ok (.iconst 0, 1) := by decide +kernel
theorem dL_law_622 : decode code 622 = .ok (.ireturn, 1) := by decide +kernel
theorem dL_law_623 : decode code 623 = .ok (.goto 233, 3) := by decide +kernel
theorem dL_law_626 : decode code 626 = .ok (.aload_n 1, 1) := by decide +kernel
theorem dL_law_627 : decode code 627 = .ok (.aload_n 0, 1) := by decide +kernel
theorem dL_law_628 : decode code 628 = .ok (.iload 4, 2) := by decide +kernel
theorem dL_law_630 : decode code 630 = .ok (.iconst 1, 1) := by decide +kernel
theorem dL_law_631 : decode code 631 = .ok (.iadd, 1) := by decide +kernel
theorem dL_law_632 : decode code 632 = .ok (.iaload, 1) := by decide +kernel
theorem dL_law_633 : decode code 633 = .ok (.aload_n 0, 1) := by decide +kernel
theorem dL_law_634 : decode code 634 = .ok (.iload 4, 2) := by decide +kernel
theorem dL_law_636 : decode code 636 = .ok (.iconst 2, 1) := by decide +kernel
theorem dL_law_637 : decode code 637 = .ok (.iadd, 1) := by decide +kernel
theorem dL_law_638 : decode code 638 = .ok (.iaload, 1) := by decide +kernel
theorem dL_law_639 : decode code 639 = .ok (.aload_n 3, 1) := by decide +kernel
theorem dL_law_640 : decode code 640 = .ok (.invokestatic 97, 3) := by decide +kernel
theorem dL_law_643 : decode code 643 = .ok (.istore 5, 2) := by decide +kernel
theorem dL_law_645 : decode code 645 = .ok (.aload_n 2, 1) := by decide +kernel
theorem dL_law_646 : decode code 646 = .ok (.aload_n 0, 1) := by decide +kernel
theorem dL_law_647 : decode code 647 = .ok (.iload 4, 2) := by decide +kernel
theorem dL_law_649 : decode code 649 = .ok (.iconst 1, 1) := by decide +kernel
theorem dL_law_650 : decode code 650 = .ok (.iadd, 1) := by decide +kernel
theorem dL_law_651 : decode code 651 = .ok (.iaload, 1) := by decide +kernel
theorem dL_law_652 : decode code 652 = .ok (.aload_n 0, 1) := by decide +kernel
theorem dL_law_653 : decode code 653 = .ok (.iload 4, 2) := by decide +kernel
theorem dL_law_655 : decode code 655 = .ok (.iconst 2, 1) := by decide +kernel
theorem dL_law_656 : decode code 656 = .ok (.iadd, 1) := by decide +kernel
theorem dL_law_657 : decode code 657 = .ok (.iaload, 1) := by decide +kernel
theorem dL_law_658 : decode code 658 = .ok (.invokevirtual 99, 3) := by decide +kernel
theorem dL_law_661 : decode code 661 = .ok (.istore 6, 2) := by decide +kernel
theorem dL_law_663 : decode code 663 = .ok (.aload_n 2, 1) := by decide +kernel
theorem dL_law_664 : decode code 664 = .ok (.invokevirtual 68, 3) := by decide +kernel
theorem dL_law_667 : decode code 667 = .ok (.iload 5, 2) := by decide +kernel
theorem dL_law_669 : decode code 669 = .ok (.if_icmp .eq 5, 3) := by decide +kernel
theorem dL_law_672 : decode code 672 = .ok (.iconst 0, 1) := by decide +kernel
theorem dL_law_673 : decode code 673 = .ok (.ireturn, 1) := by decide +kernel
theorem dL_law_674 : decode code 674 = .ok (.iload 5, 2) := by decide +kernel
theorem dL_law_676 : decode code 676 = .ok (.ifCond .ne 15, 3) := by decide +kernel
theorem dL_law_679 : decode code 679 = .ok (.aload_n 3, 1) := by decide +kernel
theorem dL_law_680 : decode code 680 = .ok (.iconst 0, 1) := by decide +kernel
theorem dL_law_681 : decode code 681 = .ok (.laload, 1) := by decide +kernel
theorem dL_law_682 : decode code 682 = .ok (.iload 6, 2) := by decide +kernel
theorem dL_law_684 : decode code 684 = .ok (.i2l, 1) := by decide +kernel
theorem dL_law_685 : decode code 685 = .ok (.lcmp, 1) := by decide +kernel
theorem dL_law_686 : decode code 686 = .ok (.ifCond .eq 5, 3) := by decide +kernel
theorem dL_law_689 : decode code 689 = .ok (.iconst 0, 1) := by decide +kernel
theorem dL_law_690 : decode code 690 = .ok (.ireturn, 1) := by decide +kernel
theorem dL_law_691 : decode code 691 = .ok (.goto 165, 3) := by decide +kernel
theorem dL_law_694 : decode code 694 = .ok (.aload_n 1, 1) := by decide +kernel
theorem dL_law_695 : decode code 695 = .ok (.aload_n 0, 1) := by decide +kernel
theorem dL_law_696 : decode code 696 = .ok (.iload 4, 2) := by decide +kernel
theorem dL_law_698 : decode code 698 = .ok (.iconst 1, 1) := by decide +kernel
theorem dL_law_699 : decode code 699 = .ok (.iadd, 1) := by decide +kernel
theorem dL_law_700 : decode code 700 = .ok (.iaload, 1) := by decide +kernel
theorem dL_law_701 : decode code 701 = .ok (.aload_n 3, 1) := by decide +kernel
theorem dL_law_702 : decode code 702 = .ok (.invokestatic 100, 3) := by decide +kernel
theorem dL_law_705 : decode code 705 = .ok (.istore 5, 2) := by decide +kernel
theorem dL_law_707 : decode code 707 = .ok (.aload_n 2, 1) := by decide +kernel
theorem dL_law_708 : decode code 708 = .ok (.aload_n 0, 1) := by decide +kernel
theorem dL_law_709 : decode code 709 = .ok (.iload 4, 2) := by decide +kernel
theorem dL_law_711 : decode code 711 = .ok (.iconst 1, 1) := by decide +kernel
theorem dL_law_712 : decode code 712 = .ok (.iadd, 1) := by decide +kernel
theorem dL_law_713 : decode code 713 = .ok (.iaload, 1) := by decide +kernel
theorem dL_law_714 : decode code 714 = .ok (.invokevirtual 102, 3) := by decide +kernel
theorem dL_law_717 : decode code 717 = .ok (.istore 6, 2) := by decide +kernel
theorem dL_law_719 : decode code 719 = .ok (.aload_n 2, 1) := by decide +kernel
theorem dL_law_720 : decode code 720 = .ok (.invokevirtual 68, 3) := by decide +kernel
theorem dL_law_723 : decode code 723 = .ok (.iload 5, 2) := by decide +kernel
theorem dL_law_725 : decode code 725 = .ok (.if_icmp .eq 5, 3) := by decide +kernel
theorem dL_law_728 : decode code 728 = .ok (.iconst 0, 1) := by decide +kernel
theorem dL_law_729 : decode code 729 = .ok (.ireturn, 1) := by decide +kernel
theorem dL_law_730 : decode code 730 = .ok (.iload 5, 2) := by decide +kernel
theorem dL_law_732 : decode code 732 = .ok (.ifCond .ne 15, 3) := by decide +kernel
theorem dL_law_735 : decode code 735 = .ok (.aload_n 3, 1) := by decide +kernel
theorem dL_law_736 : decode code 736 = .ok (.iconst 0, 1) := by decide +kernel
theorem dL_law_737 : decode code 737 = .ok (.laload, 1) := by decide +kernel
theorem dL_law_738 : decode code 738 = .ok (.iload 6, 2) := by decide +kernel
theorem dL_law_740 : decode code 740 = .ok (.i2l, 1) := by decide +kernel
theorem dL_law_741 : decode code 741 = .ok (.lcmp, 1) := by decide +kernel
theorem dL_law_742 : decode code 742 = .ok (.ifCond .eq 5, 3) := by decide +kernel
theorem dL_law_745 : decode code 745 = .ok (.iconst 0, 1) := by decide +kernel
theorem dL_law_746 : decode code 746 = .ok (.ireturn, 1) := by decide +kernel
theorem dL_law_747 : decode code 747 = .ok (.goto 109, 3) := by decide +kernel
theorem dL_law_750 : decode code 750 = .ok (.aload_n 1, 1) := by decide +kernel
theorem dL_law_751 : decode code 751 = .ok (.invokevirtual 103, 3) := by decide +kernel
theorem dL_law_754 : decode code 754 = .ok (.aload_n 2, 1) := by decide +kernel
theorem dL_law_755 : decode code 755 = .ok (.invokevirtual 106, 3) := by decide +kernel
theorem dL_law_758 : decode code 758 = .ok (.if_icmp .eq 98, 3) := by decide +kernel
theorem dL_law_761 : decode code 761 = .ok (.iconst 0, 1) := by decide +kernel
theorem dL_law_762 : decode code 762 = .ok (.ireturn, 1) := by decide +kernel
theorem dL_law_763 : decode code 763 = .ok (.aload_n 1, 1) := by decide +kernel
theorem dL_law_764 : decode code 764 = .ok (.invokevirtual 107, 3) := by decide +kernel
theorem dL_law_767 : decode code 767 = .ok (.aload_n 2, 1) := by decide +kernel
theorem dL_law_768 : decode code 768 = .ok (.invokevirtual 110, 3) := by decide +kernel
theorem dL_law_771 : decode code 771 = .ok (.if_icmp .eq 85, 3) := by decide +kernel
theorem dL_law_774 : decode code 774 = .ok (.iconst 0, 1) := by decide +kernel
theorem dL_law_775 : decode code 775 = .ok (.ireturn, 1) := by decide +kernel
theorem dL_law_776 : decode code 776 = .ok (.aload_n 1, 1) := by decide +kernel
theorem dL_law_777 : decode code 777 = .ok (.aload_n 3, 1) := by decide +kernel
theorem dL_law_778 : decode code 778 = .ok (.invokestatic 111, 3) := by decide +kernel
theorem dL_law_781 : decode code 781 = .ok (.istore 5, 2) := by decide +kernel
theorem dL_law_783 : decode code 783 = .ok (.aload_n 2, 1) := by decide +kernel
theorem dL_law_784 : decode code 784 = .ok (.invokevirtual 113, 3) := by decide +kernel
theorem dL_law_787 : decode code 787 = .ok (.istore 6, 2) := by decide +kernel
theorem dL_law_789 : decode code 789 = .ok (.aload_n 2, 1) := by decide +kernel
theorem dL_law_790 : decode code 790 = .ok (.invokevirtual 68, 3) := by decide +kernel
theorem dL_law_793 : decode code 793 = .ok (.iload 5, 2) := by decide +kernel
theorem dL_law_795 : decode code 795 = .ok (.if_icmp .eq 5, 3) := by decide +kernel
theorem dL_law_798 : decode code 798 = .ok (.iconst 0, 1) := by decide +kernel
theorem dL_law_799 : decode code 799 = .ok (.ireturn, 1) := by decide +kernel
theorem dL_law_800 : decode code 800 = .ok (.iload 5, 2) := by decide +kernel
theorem dL_law_802 : decode code 802 = .ok (.ifCond .ne 15, 3) := by decide +kernel
theorem dL_law_805 : decode code 805 = .ok (.aload_n 3, 1) := by decide +kernel
theorem dL_law_806 : decode code 806 = .ok (.iconst 0, 1) := by decide +kernel
theorem dL_law_807 : decode code 807 = .ok (.laload, 1) := by decide +kernel
theorem dL_law_808 : decode code 808 = .ok (.iload 6, 2) := by decide +kernel
theorem dL_law_810 : decode code 810 = .ok (.i2l, 1) := by decide +kernel
theorem dL_law_811 : decode code 811 = .ok (.lcmp, 1) := by decide +kernel
theorem dL_law_812 : decode code 812 = .ok (.ifCond .eq 5, 3) := by decide +kernel
theorem dL_law_815 : decode code 815 = .ok (.iconst 0, 1) := by decide +kernel
theorem dL_law_816 : decode code 816 = .ok (.ireturn, 1) := by decide +kernel
theorem dL_law_817 : decode code 817 = .ok (.goto 39, 3) := by decide +kernel
theorem dL_law_820 : decode code 820 = .ok (.aload_n 1, 1) := by decide +kernel
theorem dL_law_821 : decode code 821 = .ok (.aload_n 0, 1) := by decide +kernel
theorem dL_law_822 : decode code 822 = .ok (.iload 4, 2) := by decide +kernel
theorem dL_law_824 : decode code 824 = .ok (.iconst 1, 1) := by decide +kernel
theorem dL_law_825 : decode code 825 = .ok (.iadd, 1) := by decide +kernel
theorem dL_law_826 : decode code 826 = .ok (.iaload, 1) := by decide +kernel
theorem dL_law_827 : decode code 827 = .ok (.invokevirtual 114, 3) := by decide +kernel
theorem dL_law_830 : decode code 830 = .ok (.aload_n 2, 1) := by decide +kernel
theorem dL_law_831 : decode code 831 = .ok (.aload_n 0, 1) := by decide +kernel
theorem dL_law_832 : decode code 832 = .ok (.iload 4, 2) := by decide +kernel
theorem dL_law_834 : decode code 834 = .ok (.iconst 1, 1) := by decide +kernel
theorem dL_law_835 : decode code 835 = .ok (.iadd, 1) := by decide +kernel
theorem dL_law_836 : decode code 836 = .ok (.iaload, 1) := by decide +kernel
theorem dL_law_837 : decode code 837 = .ok (.invokevirtual 117, 3) := by decide +kernel
theorem dL_law_840 : decode code 840 = .ok (.if_icmp .eq 16, 3) := by decide +kernel
theorem dL_law_843 : decode code 843 = .ok (.iconst 0, 1) := by decide +kernel
theorem dL_law_844 : decode code 844 = .ok (.ireturn, 1) := by decide +kernel
theorem dL_law_845 : decode code 845 = .ok (.aload_n 1, 1) := by decide +kernel
theorem dL_law_846 : decode code 846 = .ok (.invokevirtual 118, 3) := by decide +kernel
theorem dL_law_849 : decode code 849 = .ok (.aload_n 2, 1) := by decide +kernel
theorem dL_law_850 : decode code 850 = .ok (.invokevirtual 121, 3) := by decide +kernel
theorem dL_law_853 : decode code 853 = .ok (.goto 3, 3) := by decide +kernel
theorem dL_law_856 : decode code 856 = .ok (.iinc 4 4, 3) := by decide +kernel
theorem dL_law_859 : decode code 859 = .ok (.goto (-816), 3) := by decide +kernel
theorem dL_law_862 : decode code 862 = .ok (.iconst 1, 1) := by decide +kernel
theorem dL_law_863 : decode code 863 = .ok (.ireturn, 1) := by decide +kernel
