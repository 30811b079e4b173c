theorem d_L_law_662 : decode b_L_law 662 = .ok (.aload_n 3, 1) := by decide +kernel
theorem d_L_law_663 : decode b_L_law 663 = .ok (.invokestatic 104, 3) := by decide +kernel
theorem d_L_law_666 : decode b_L_law 666 = .ok (.istore 5, 2) := by decide +kernel
theorem d_L_law_668 : decode b_L_law 668 = .ok (.aload_n 2, 1) := by decide +kernel
theorem d_L_law_669 : decode b_L_law 669 = .ok (.aload_n 0, 1) := by decide +kernel
theorem d_L_law_670 : decode b_L_law 670 = .ok (.iload 4, 2) := by decide +kernel
theorem d_L_law_672 : decode b_L_law 672 = .ok (.iconst 1, 1) := by decide +kernel
theorem d_L_law_673 : decode b_L_law 673 = .ok (.iadd, 1) := by decide +kernel
theorem d_L_law_674 : decode b_L_law 674 = .ok (.iaload, 1) := by decide +kernel
theorem d_L_law_675 : decode b_L_law 675 = .ok (.aload_n 0, 1) := by decide +kernel
theorem d_L_law_676 : decode b_L_law 676 = .ok (.iload 4, 2) := by decide +kernel
theorem d_L_law_678 : decode b_L_law 678 = .ok (.iconst 2, 1) := by decide +kernel
theorem d_L_law_679 : decode b_L_law 679 = .ok (.iadd, 1) := by decide +kernel
theorem d_L_law_680 : decode b_L_law 680 = .ok (.iaload, 1) := by decide +kernel
theorem d_L_law_681 : decode b_L_law 681 = .ok (.invokevirtual 106, 3) := by decide +kernel
theorem d_L_law_684 : decode b_L_law 684 = .ok (.istore 6, 2) := by decide +kernel
theorem d_L_law_686 : decode b_L_law 686 = .ok (.aload_n 2, 1) := by decide +kernel
theorem d_L_law_687 : decode b_L_law 687 = .ok (.invokevirtual 68, 3) := by decide +kernel
theorem d_L_law_690 : decode b_L_law 690 = .ok (.iload 5, 2) := by decide +kernel
theorem d_L_law_692 : decode b_L_law 692 = .ok (.if_icmp .eq 5, 3) := by decide +kernel
theorem d_L_law_695 : decode b_L_law 695 = .ok (.iconst 0, 1) := by decide +kernel
theorem d_L_law_696 : decode b_L_law 696 = .ok (.ireturn, 1) := by decide +kernel
theorem d_L_law_697 : decode b_L_law 697 = .ok (.iload 5, 2) := by decide +kernel
theorem d_L_law_699 : decode b_L_law 699 = .ok (.ifCond .ne 15, 3) := by decide +kernel
theorem d_L_law_702 : decode b_L_law 702 = .ok (.aload_n 3, 1) := by decide +kernel
theorem d_L_law_703 : decode b_L_law 703 = .ok (.iconst 0, 1) := by decide +kernel
theorem d_L_law_704 : decode b_L_law 704 = .ok (.laload, 1) := by decide +kernel
theorem d_L_law_705 : decode b_L_law 705 = .ok (.iload 6, 2) := by decide +kernel
theorem d_L_law_707 : decode b_L_law 707 = .ok (.i2l, 1) := by decide +kernel
theorem d_L_law_708 : decode b_L_law 708 = .ok (.lcmp, 1) := by decide +kernel
theorem d_L_law_709 : decode b_L_law 709 = .ok (.ifCond .eq 5, 3) := by decide +kernel
theorem d_L_law_712 : decode b_L_law 712 = .ok (.iconst 0, 1) := by decide +kernel
theorem d_L_law_713 : decode b_L_law 713 = .ok (.ireturn, 1) := by decide +kernel
theorem d_L_law_714 : decode b_L_law 714 = .ok (.goto 115, 3) := by decide +kernel
theorem d_L_law_717 : decode b_L_law 717 = .ok (.aload_n 1, 1) := by decide +kernel
theorem d_L_law_718 : decode b_L_law 718 = .ok (.aload_n 0, 1) := by decide +kernel
theorem d_L_law_719 : decode b_L_law 719 = .ok (.iload 4, 2) := by decide +kernel
theorem d_L_law_721 : decode b_L_law 721 = .ok (.iconst 1, 1) := by decide +kernel
theorem d_L_law_722 : decode b_L_law 722 = .ok (.iadd, 1) := by decide +kernel
theorem d_L_law_723 : decode b_L_law 723 = .ok (.iaload, 1) := by decide +kernel
theorem d_L_law_724 : decode b_L_law 724 = .ok (.aload_n 3, 1) := by decide +kernel
theorem d_L_law_725 : decode b_L_law 725 = .ok (.invokestatic 107, 3) := by decide +kernel
theorem d_L_law_728 : decode b_L_law 728 = .ok (.istore 5, 2) := by decide +kernel
theorem d_L_law_730 : decode b_L_law 730 = .ok (.aload_n 2, 1) := by decide +kernel
theorem d_L_law_731 : decode b_L_law 731 = .ok (.aload_n 0, 1) := by decide +kernel
theorem d_L_law_732 : decode b_L_law 732 = .ok (.iload 4, 2) := by decide +kernel
theorem d_L_law_734 : decode b_L_law 734 = .ok (.iconst 1, 1) := by decide +kernel
theorem d_L_law_735 : decode b_L_law 735 = .ok (.iadd, 1) := by decide +kernel
theorem d_L_law_736 : decode b_L_law 736 = .ok (.iaload, 1) := by decide +kernel
theorem d_L_law_737 : decode b_L_law 737 = .ok (.invokevirtual 109, 3) := by decide +kernel
theorem d_L_law_740 : decode b_L_law 740 = .ok (.istore 6, 2) := by decide +kernel
theorem d_L_law_742 : decode b_L_law 742 = .ok (.aload_n 2, 1) := by decide +kernel
theorem d_L_law_743 : decode b_L_law 743 = .ok (.invokevirtual 68, 3) := by decide +kernel
theorem d_L_law_746 : decode b_L_law 746 = .ok (.iload 5, 2) := by decide +kernel
theorem d_L_law_748 : decode b_L_law 748 = .ok (.if_icmp .eq 5, 3) := by decide +kernel
theorem d_L_law_751 : decode b_L_law 751 = .ok (.iconst 0, 1) := by decide +kernel
theorem d_L_law_752 : decode b_L_law 752 = .ok (.ireturn, 1) := by decide +kernel
theorem d_L_law_753 : decode b_L_law 753 = .ok (.iload 5, 2) := by decide +kernel
theorem d_L_law_755 : decode b_L_law 755 = .ok (.ifCond .ne 15, 3) := by decide +kernel
theorem d_L_law_758 : decode b_L_law 758 = .ok (.aload_n 3, 1) := by decide +kernel
theorem d_L_law_759 : decode b_L_law 759 = .ok (.iconst 0, 1) := by decide +kernel
theorem d_L_law_760 : decode b_L_law 760 = .ok (.laload, 1) := by decide +kernel
theorem d_L_law_761 : decode b_L_law 761 = .ok (.iload 6, 2) := by decide +kernel
theorem d_L_law_763 : decode b_L_law 763 = .ok (.i2l, 1) := by decide +kernel
theorem d_L_law_764 : decode b_L_law 764 = .ok (.lcmp, 1) := by decide +kernel
theorem d_L_law_765 : decode b_L_law 765 = .ok (.ifCond .eq 5, 3) := by decide +kernel
theorem d_L_law_768 : decode b_L_law 768 = .ok (.iconst 0, 1) := by decide +kernel
theorem d_L_law_769 : decode b_L_law 769 = .ok (.ireturn, 1) := by decide +kernel
theorem d_L_law_770 : decode b_L_law 770 = .ok (.goto 59, 3) := by decide +kernel
theorem d_L_law_773 : decode b_L_law 773 = .ok (.aload_n 1, 1) := by decide +kernel
theorem d_L_law_774 : decode b_L_law 774 = .ok (.aload_n 0, 1) := by decide +kernel
theorem d_L_law_775 : decode b_L_law 775 = .ok (.iload 4, 2) := by decide +kernel
theorem d_L_law_777 : decode b_L_law 777 = .ok (.iconst 1, 1) := by decide +kernel
theorem d_L_law_778 : decode b_L_law 778 = .ok (.iadd, 1) := by decide +kernel
theorem d_L_law_779 : decode b_L_law 779 = .ok (.iaload, 1) := by decide +kernel
theorem d_L_law_780 : decode b_L_law 780 = .ok (.aload_n 3, 1) := by decide +kernel
theorem d_L_law_781 : decode b_L_law 781 = .ok (.invokestatic 110, 3) := by decide +kernel
theorem d_L_law_784 : decode b_L_law 784 = .ok (.istore 5, 2) := by decide +kernel
theorem d_L_law_786 : decode b_L_law 786 = .ok (.aload_n 2, 1) := by decide +kernel
theorem d_L_law_787 : decode b_L_law 787 = .ok (.aload_n 0, 1) := by decide +kernel
theorem d_L_law_788 : decode b_L_law 788 = .ok (.iload 4, 2) := by decide +kernel
theorem d_L_law_790 : decode b_L_law 790 = .ok (.iconst 1, 1) := by decide +kernel
theorem d_L_law_791 : decode b_L_law 791 = .ok (.iadd, 1) := by decide +kernel
theorem d_L_law_792 : decode b_L_law 792 = .ok (.iaload, 1) := by decide +kernel
theorem d_L_law_793 : decode b_L_law 793 = .ok (.invokevirtual 112, 3) := by decide +kernel
theorem d_L_law_796 : decode b_L_law 796 = .ok (.istore 6, 2) := by decide +kernel
theorem d_L_law_798 : decode b_L_law 798 = .ok (.aload_n 2, 1) := by decide +kernel
theorem d_L_law_799 : decode b_L_law 799 = .ok (.invokevirtual 68, 3) := by decide +kernel
theorem d_L_law_802 : decode b_L_law 802 = .ok (.iload 5, 2) := by decide +kernel
theorem d_L_law_804 : decode b_L_law 804 = .ok (.if_icmp .eq 5, 3) := by decide +kernel
theorem d_L_law_807 : decode b_L_law 807 = .ok (.iconst 0, 1) := by decide +kernel
theorem d_L_law_808 : decode b_L_law 808 = .ok (.ireturn, 1) := by decide +kernel
theorem d_L_law_809 : decode b_L_law 809 = .ok (.iload 5, 2) := by decide +kernel
theorem d_L_law_811 : decode b_L_law 811 = .ok (.ifCond .ne 15, 3) := by decide +kernel
theorem d_L_law_814 : decode b_L_law 814 = .ok (.aload_n 3, 1) := by decide +kernel
theorem d_L_law_815 : decode b_L_law 815 = .ok (.iconst 0, 1) := by decide +kernel
theorem d_L_law_816 : decode b_L_law 816 = .ok (.laload, 1) := by decide +kernel
theorem d_L_law_817 : decode b_L_law 817 = .ok (.iload 6, 2) := by decide +kernel
theorem d_L_law_819 : decode b_L_law 819 = .ok (.i2l, 1) := by decide +kernel
theorem d_L_law_820 : decode b_L_law 820 = .ok (.lcmp, 1) := by decide +kernel
theorem d_L_law_821 : decode b_L_law 821 = .ok (.ifCond .eq 5, 3) := by decide +kernel
theorem d_L_law_824 : decode b_L_law 824 = .ok (.iconst 0, 1) := by decide +kernel
theorem d_L_law_825 : decode b_L_law 825 = .ok (.ireturn, 1) := by decide +kernel
theorem d_L_law_826 : decode b_L_law 826 = .ok (.goto 3, 3) := by decide +kernel
theorem d_L_law_829 : decode b_L_law 829 = .ok (.iinc 4 5, 3) := by decide +kernel
theorem d_L_law_832 : decode b_L_law 832 = .ok (.goto (-809), 3) := by decide +kernel
theorem d_L_law_835 : decode b_L_law 835 = .ok (.iconst 1, 1) := by decide +kernel
theorem d_L_law_836 : decode b_L_law 836 = .ok (.ireturn, 1) := by decide +kernel
